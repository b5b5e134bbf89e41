/-! sure(), by hand: printed by h_sure.py -/
def nks0_sp : List (Nat × nkSp) := [(278, [(19, (2, 0), [11, 0]), (19, (2, 0), [12, 0])])]
def nks0_F : nkS := (4, [(0, 18446744073709551615, 18446744073709551651), (0, 18446744071562067968, 18446744075857035263), (0, 18446744071562067968, 18446744075857035263), (2, 40, 0)], [], [3], [], [], [])
def nks0_W : nkWs := [(40, 38, 38), (40, 40, 40), (40, 42, 42), (62, 0, 59), (63, 0, 54), (64, 0, 4), (66, 0, 54), (70, 0, 467), (77, 0, 35)]
def nks0_en : nkIn := (278, 18, 700, 3, (3, [(0, 18446744071562067968, 18446744075857035263), (0, 18446744071562067968, 18446744075857035263), (2, 40, 0)], [], [], [], [], []), nks0_W, [nks0_F])
def nks0_Z : nkS := (4, [(0, 18446744073709551615, 18446744073709551615), (0, 18446744071562067968, 18446744075857035263), (0, 18446744071562067968, 18446744075857035263), (2, 40, 0)], [], [3], [], [], [])
def nks0_X11 : nkS := (3, [(0, 18446744071562067968, 18446744075857035263), (0, 18446744073709551616, 18446744073709551617), (2, 40, 0)], [(0, 0), (1, 1), (2, 2)], [2, 0], [], [], [])
theorem nks0_1 : nk_sgM nkKds [] nks0_sp 278 18 700 [] [(11, nks0_X11, [])] 3 [nks0_Z] 3000 (3, [(0, 18446744071562067968, 18446744075857035263), (0, 18446744071562067968, 18446744075857035263), (2, 40, 0)], [(0, 0), (1, 1), (2, 2)], [], [], [], []) 0 = true := by decide +kernel
def nks0_X19 : nkS := (7, [(0, 18446744073709551617, 18446744073709551622), (2, 46, 0), (0, 18446744073709551617, 18446744073709551622), (2, 44, 0), (0, 18446744071562067968, 18446744075857035263), (0, 18446744073709551616, 18446744073709551617), (2, 40, 0)], [(0, 0), (1, 1), (2, 2)], [], [(0, 11, 3), (3, 0, 4), (0, 12, 5), (5, 0, 6)], [], [])
theorem nks0_2z : nk_afM (nk_aft nks0_X11 [] 2 (2, [2, 0]) nkf0_en.2.2.2.2.2.1 nkf0_F) (fun S' => decide (S'.2.2.2.1 = [3]) && nk_sgM nkKds [] nks0_sp 278 18 700 [] [] 3 [nks0_Z] 3000 (nk_set S' 3 (0, 18446744073709551616, 18446744073709551616)) 14) = true := by decide +kernel
theorem nks0_2n : nk_afM (nk_aft nks0_X11 [] 2 (2, [2, 0]) nkf0_en.2.2.2.2.2.1 nkf0_F) (fun S' => decide (S'.2.2.2.1 = [3]) && nk_sgM nkKds [] nks0_sp 278 18 700 [] [(19, nks0_X19, [])] 3 [] 3000 (nk_set S' 3 (0, 18446744073709551617, 18446744073709551652)) 14) = true := by decide +kernel
def nks0_Q0 : nkS := (4, [(0, 18446744073709551616, 18446744073709551651), (0, 18446744071562067968, 18446744075857035263), (0, 18446744073709551616, 18446744073709551616), (2, 40, 0)], [(0, 0), (1, 1), (2, 2), (3, 3)], [], [], [], [])
def nks0_Q1 : nkS := (4, [(0, 18446744073709551616, 18446744073709551651), (0, 18446744071562067968, 18446744075857035263), (0, 18446744073709551617, 18446744073709551617), (2, 40, 0)], [(0, 0), (1, 1), (2, 2), (3, 3)], [], [], [], [])
def nks0_Q00 : nkS := (4, [(0, 18446744073709551616, 18446744073709551616), (0, 18446744071562067968, 18446744075857035263), (0, 18446744073709551616, 18446744073709551616), (2, 40, 0)], [(0, 0), (1, 1), (2, 2), (3, 3)], [], [], [], [])
theorem nks0_30 : nk_sgM nkKds [] nks0_sp 278 18 700 [] [(34, nks0_Q00, [])] 3 [] 3000 (nk_set nks0_X19 1 (0, 18446744073709551616, 18446744073709551616)) 19 = true := by decide +kernel
def nks0_Q1c (c d : Nat) : nkS := (4, [(0, 18446744073709551615 + (1 + c) * (1 + d), 18446744073709551615 + (1 + c) * (1 + d)), (0, 18446744071562067968, 18446744075857035263), (0, 18446744073709551617, 18446744073709551617), (2, 40, 0)], [(0, 0), (1, 1), (2, 2), (3, 3)], [], [], [], [])
theorem nks0_31 : ∀ c, c < 6 → ∀ d, d < 6 → nk_sgM nkKds [] nks0_sp 278 18 700 [] [(34, nks0_Q1c c d, [])] 3 [] 3000 (nk_set (nk_set (nk_set nks0_X19 1 (0, 18446744073709551617, 18446744073709551617)) 4 (0, 18446744073709551616 + 1 + c, 18446744073709551616 + 1 + c)) 6 (0, 18446744073709551616 + 1 + d, 18446744073709551616 + 1 + d)) 19 = true := by decide +kernel
theorem nks0_q1 : ∀ c, c < 6 → ∀ d, d < 6 → nk_ent 4 nks0_Q1 (nks0_Q1c c d) = some (4, [3, 2, 1, 0]) := by decide +kernel
def nks0_X0 : nkS := (4, [(0, 18446744073709551616, 18446744073709551651), (0, 18446744071562067968, 18446744075857035263), (0, 18446744073709551616, 18446744073709551616), (2, 40, 0)], [(0, 0), (1, 1), (2, 2), (3, 3)], [2, 3, 0], [], [], [])
theorem nks0_40 : nk_sgM nkKds [] nks0_sp 278 18 700 [] [(37, nks0_X0, [])] 4 [] 3000 nks0_Q0 34 = true := by decide +kernel
theorem nks0_c0 : ∀ v, v < 36 → nk_calC nkKds 278 18 700 nks0_W (nk_set nks0_X0 3 (0, 18446744073709551616 + v, 18446744073709551616 + v)) 37 (nkd0_en v) = some ((3, [2, 3, 0]), []) := by decide +kernel
def nks0_R0 : nkS := (4, [(0, 18446744073709551616, 18446744073709551651), (0, 18446744071562067968, 18446744075857035263), (0, 18446744073709551616, 18446744073709551616), (2, 40, 0)], [], [3], [], [], [])
theorem nks0_50 : ∀ v, v < 36 → nk_afM (nk_aft (nk_set nks0_X0 3 (0, 18446744073709551616 + v, 18446744073709551616 + v)) [] 3 (3, [2, 3, 0]) [] (nkd0_F v)) (fun S' => decide (S'.2.2.2.1 = [4]) && nk_sgM nkKds [] nks0_sp 278 18 700 [] [] 4 [nks0_R0] 3000 (nk_set S' 4 (0, 18446744073709551617, 18446744073709551617)) 40) = true := by decide +kernel
def nks0_N0 : nkS := (5, [(0, 18446744073709551615, 18446744073709551652), (0, 18446744073709551616, 18446744073709551651), (0, 18446744071562067968, 18446744075857035263), (0, 18446744073709551616, 18446744073709551616), (2, 40, 0)], [(0, 0), (1, 1), (2, 2), (3, 4)], [], [], [(4, 3, 18446744073709551617), (3, 4, 18446744073709551615)], [])
theorem nks0_60 : ∀ v, v < 36 → nk_afM (nk_aft (nk_set nks0_X0 3 (0, 18446744073709551616 + v, 18446744073709551616 + v)) [] 3 (3, [2, 3, 0]) [] (nkd0_F v)) (fun S' => decide (S'.2.2.2.1 = [4]) && nk_sgM nkKds [] nks0_sp 278 18 700 [] [(34, nks0_N0, [])] 4 [] 3000 (nk_set S' 4 (0, 18446744073709551616, 18446744073709551616)) 40) = true := by decide +kernel
def nks0_X1 : nkS := (4, [(0, 18446744073709551616, 18446744073709551651), (0, 18446744071562067968, 18446744075857035263), (0, 18446744073709551617, 18446744073709551617), (2, 40, 0)], [(0, 0), (1, 1), (2, 2), (3, 3)], [2, 3, 0], [], [], [])
theorem nks0_41 : nk_sgM nkKds [] nks0_sp 278 18 700 [] [(37, nks0_X1, [])] 4 [] 3000 nks0_Q1 34 = true := by decide +kernel
theorem nks0_c1 : ∀ v, v < 36 → nk_calC nkKds 278 18 700 nks0_W (nk_set nks0_X1 3 (0, 18446744073709551616 + v, 18446744073709551616 + v)) 37 (nkd0_en v) = some ((3, [2, 3, 0]), []) := by decide +kernel
def nks0_R1 : nkS := (4, [(0, 18446744073709551616, 18446744073709551651), (0, 18446744071562067968, 18446744075857035263), (0, 18446744073709551617, 18446744073709551617), (2, 40, 0)], [], [3], [], [], [])
theorem nks0_51 : ∀ v, v < 36 → nk_afM (nk_aft (nk_set nks0_X1 3 (0, 18446744073709551616 + v, 18446744073709551616 + v)) [] 3 (3, [2, 3, 0]) [] (nkd0_F v)) (fun S' => decide (S'.2.2.2.1 = [4]) && nk_sgM nkKds [] nks0_sp 278 18 700 [] [] 4 [nks0_R1] 3000 (nk_set S' 4 (0, 18446744073709551617, 18446744073709551617)) 40) = true := by decide +kernel
def nks0_N1 : nkS := (5, [(0, 18446744073709551615, 18446744073709551652), (0, 18446744073709551616, 18446744073709551651), (0, 18446744071562067968, 18446744075857035263), (0, 18446744073709551617, 18446744073709551617), (2, 40, 0)], [(0, 0), (1, 1), (2, 2), (3, 4)], [], [], [(4, 3, 18446744073709551615), (3, 4, 18446744073709551617)], [])
theorem nks0_61 : ∀ v, v < 36 → nk_afM (nk_aft (nk_set nks0_X1 3 (0, 18446744073709551616 + v, 18446744073709551616 + v)) [] 3 (3, [2, 3, 0]) [] (nkd0_F v)) (fun S' => decide (S'.2.2.2.1 = [4]) && nk_sgM nkKds [] nks0_sp 278 18 700 [] [(34, nks0_N1, [])] 4 [] 3000 (nk_set S' 4 (0, 18446744073709551616, 18446744073709551616)) 40) = true := by decide +kernel
theorem nks0_sure : nkMetI nkKds nks0_en := nk_handI (spt := nks0_sp) (by decide +kernel) (fun {y lo0} hlo0 {p l e R s m args below meth c cc D Γ ρ ls} hh hR => by
  have hl : lo0 = [(0, 0), (1, 1), (2, 2)] := Option.some.inj (hlo0.symm.trans (by decide +kernel))
  subst hl
  obtain ⟨a0, ea0, hΓ0⟩ := nk_rf (hR.1.1 0 _ rfl)
  obtain ⟨kk, ekk, -, -⟩ := nk_int (hR.1.1 2 _ rfl)
  have loop0 : ∀ (rem v it : Nat) (ρ3 : Nat → Value) (H3 : Heap) (l3 : List Loc) (ls3 : Array Slot) (st3 : List Value), v - it = rem → it ≤ v → v < 36 → nkX 3 ρ ρ3 → ρ3 3 = .int (nI it) → nkR (D, nkKds, Γ) y.2.2.1 nks0_W s.heap nks0_Q0 ρ3 H3 l3 ls3 st3 → nkDF (D, nkKds, Γ) H3 a0 v kk → W p l e R s m args below meth c H3 l3 0 0 (MQ below (nkQc (D, nkKds, Γ) nks0_en.2.2.2.2.2.1 nks0_en.2.2.2.2.2.2 nks0_en.2.2.2.2.1.1 ρ) args s 0 0 (nkA (D, nkKds, Γ))) (F0 m 34 ls3 st3) := by
    intro rem
    induction rem using Nat.strongRecOn with
    | ind rem ih =>
      intro v it ρ3 H3 l3 ls3 st3 hrem hle hv36 hX3 b3 hR3 hdf
      have hit : it < 36 := by omega
      refine nk_segH (nk_nil _) nks0_40 rfl hh hR3 (fun ce hce ρ4 H4 l4 ls4 st4 hX4 hR4 hF4 => ?_) (fun a ha => by cases ha)
      obtain rfl := List.mem_singleton.mp hce
      have hR4 : nkR (D, nkKds, Γ) y.2.2.1 nks0_W s.heap nks0_X0 ρ4 H4 l4 ls4 st4 := hR4
      show W p l e R s m args below meth c H4 l4 0 0 _ (F0 m 37 ls4 st4)
      have c3 : ρ4 3 = .int (nI it) := (hX4 3 (by decide)).trans b3
      have hX4' : nkX 3 ρ ρ4 := fun i hi => (hX4 i (Nat.lt_of_lt_of_le hi (by decide))).trans (hX3 i hi)
      have hR5 := nk_set_ok (i := 3) (v := (0, 18446744073709551616 + it, 18446744073709551616 + it)) hR4 (by rw [c3]; exact nk_okI (by rw [nI_toInt (by omega)]; omega) (by rw [nI_toInt (by omega)]; omega))
      refine nk_callC hh (nks0_c0 it hit) (nkd0_df it hit) hR5 trivial (fun F hF S' ρ' ρ7 H7 l7 st7 r hS' hX7 hρ hX' hR7 hF7 hG => ?_)
      obtain rfl := List.mem_singleton.mp hF
      obtain ⟨hiff, hr⟩ := hG a0 kk ((hX4' 0 (by decide)).trans ea0) ((hX4' 2 (by decide)).trans ekk)
      have hdf4 := hdf.kept hF4.2.2.2
      have hdf7 := hdf4.kept hF7.2.2.2
      rcases hr with hr | hr
      · subst hr
        have h5 := nk_afM_ok (nks0_50 it hit) hS'
        rw [Bool.and_eq_true] at h5
        have hs4 : ρ7 4 = .int 1 := by
          have h2 := hR7.2.2.1.1
          rw [of_decide_eq_true h5.1] at h2
          exact (List.head_eq_of_cons_eq h2).symm
        have hR8 := nk_set_ok (i := 4) (v := (0, 18446744073709551617, 18446744073709551617)) hR7 (by rw [hs4]; exact ⟨1, rfl, by decide, by decide⟩)
        refine nk_segH (nk_nil _) h5.2 rfl hh hR8 (fun ce hce => by cases hce) (fun a ha ρ9 H9 r9 t hX9 hT9 hF9 hFa hv ht => ?_)
        obtain rfl := List.mem_singleton.mp ha
        exact nk_finI (F := nks0_F) (σ := (4, [3, 2, 1, 0])) (by decide +kernel) (by decide +kernel) hT9 (fun i hi => (hX9 i (Nat.lt_of_lt_of_le hi (by decide))).trans ((hX7 i (Nat.lt_of_lt_of_le hi (by show 3 ≤ 4; decide))).trans (hX4' i hi))) (by decide) (List.mem_singleton.mpr rfl) hv ht hFa
      · subst hr
        have hne : it ≠ v := fun q => by
          subst q
          exact absurd (hiff.mpr hdf4) (by decide)
        have h5 := nk_afM_ok (nks0_60 it hit) hS'
        rw [Bool.and_eq_true] at h5
        have hs4 : ρ7 4 = .int 0 := by
          have h2 := hR7.2.2.1.1
          rw [of_decide_eq_true h5.1] at h2
          exact (List.head_eq_of_cons_eq h2).symm
        have hR8 := nk_set_ok (i := 4) (v := (0, 18446744073709551616, 18446744073709551616)) hR7 (by rw [hs4]; exact ⟨0, rfl, by decide, by decide⟩)
        refine nk_segH (nk_nil _) h5.2 rfl hh hR8 (fun ce hce ρ9 H9 l9 ls9 st9 hX9 hR9 hF9 => ?_) (fun a ha => by cases ha)
        obtain rfl := List.mem_singleton.mp hce
        have hR9 : nkR (D, nkKds, Γ) y.2.2.1 nks0_W s.heap nks0_N0 ρ9 H9 l9 ls9 st9 := hR9
        show W p l e R s m args below meth c H9 l9 0 0 _ (F0 m 34 ls9 st9)
        have y9 : ∀ i, i < 4 → ρ9 i = ρ4 i := fun i hi => (hX9 i hi).trans (hX7 i hi)
        have u4 : ρ9 4 = .int (nI (it + 1)) := nk_dval hR9.1.2.2.1 (show (4, 3, 18446744073709551617) ∈ nks0_N0.2.2.2.2.2.1 by decide) (show (3, 4, 18446744073709551615) ∈ nks0_N0.2.2.2.2.2.1 by decide) ((y9 3 (by decide)).trans c3) (by omega) (d := 1) (by omega) (by omega) (by omega)
        have hRa := nk_set_ok (i := 4) (v := (0, 18446744073709551616, 18446744073709551651)) hR9 (by rw [u4]; exact nk_okI (by rw [nI_toInt (by omega)]; omega) (by rw [nI_toInt (by omega)]; omega))
        obtain ⟨hRb, hXb, -, -⟩ := nk_ent_ok (np := 3) (P := nks0_Q0) (σ := (4, [4, 2, 1, 0])) (by decide +kernel) hRa
        exact ih (v - (it + 1)) (by omega) v (it + 1) (nk_pk (4, [4, 2, 1, 0]) ρ9) H9 l9 ls9 st9 rfl (by omega) (by omega) (fun i hi => (hXb i hi).trans ((y9 i (by omega)).trans (hX4' i hi))) u4 hRb (hdf7.kept hF9.2.2.2)
  have loop1 : ∀ (rem v it : Nat) (ρ3 : Nat → Value) (H3 : Heap) (l3 : List Loc) (ls3 : Array Slot) (st3 : List Value), it - v = rem → v ≤ it → it < 36 → nkX 3 ρ ρ3 → ρ3 3 = .int (nI it) → nkR (D, nkKds, Γ) y.2.2.1 nks0_W s.heap nks0_Q1 ρ3 H3 l3 ls3 st3 → nkDF (D, nkKds, Γ) H3 a0 v kk → W p l e R s m args below meth c H3 l3 0 0 (MQ below (nkQc (D, nkKds, Γ) nks0_en.2.2.2.2.2.1 nks0_en.2.2.2.2.2.2 nks0_en.2.2.2.2.1.1 ρ) args s 0 0 (nkA (D, nkKds, Γ))) (F0 m 34 ls3 st3) := by
    intro rem
    induction rem using Nat.strongRecOn with
    | ind rem ih =>
      intro v it ρ3 H3 l3 ls3 st3 hrem hle hv36 hX3 b3 hR3 hdf
      have hit : it < 36 := by omega
      refine nk_segH (nk_nil _) nks0_41 rfl hh hR3 (fun ce hce ρ4 H4 l4 ls4 st4 hX4 hR4 hF4 => ?_) (fun a ha => by cases ha)
      obtain rfl := List.mem_singleton.mp hce
      have hR4 : nkR (D, nkKds, Γ) y.2.2.1 nks0_W s.heap nks0_X1 ρ4 H4 l4 ls4 st4 := hR4
      show W p l e R s m args below meth c H4 l4 0 0 _ (F0 m 37 ls4 st4)
      have c3 : ρ4 3 = .int (nI it) := (hX4 3 (by decide)).trans b3
      have hX4' : nkX 3 ρ ρ4 := fun i hi => (hX4 i (Nat.lt_of_lt_of_le hi (by decide))).trans (hX3 i hi)
      have hR5 := nk_set_ok (i := 3) (v := (0, 18446744073709551616 + it, 18446744073709551616 + it)) hR4 (by rw [c3]; exact nk_okI (by rw [nI_toInt (by omega)]; omega) (by rw [nI_toInt (by omega)]; omega))
      refine nk_callC hh (nks0_c1 it hit) (nkd0_df it hit) hR5 trivial (fun F hF S' ρ' ρ7 H7 l7 st7 r hS' hX7 hρ hX' hR7 hF7 hG => ?_)
      obtain rfl := List.mem_singleton.mp hF
      obtain ⟨hiff, hr⟩ := hG a0 kk ((hX4' 0 (by decide)).trans ea0) ((hX4' 2 (by decide)).trans ekk)
      have hdf4 := hdf.kept hF4.2.2.2
      have hdf7 := hdf4.kept hF7.2.2.2
      rcases hr with hr | hr
      · subst hr
        have h5 := nk_afM_ok (nks0_51 it hit) hS'
        rw [Bool.and_eq_true] at h5
        have hs4 : ρ7 4 = .int 1 := by
          have h2 := hR7.2.2.1.1
          rw [of_decide_eq_true h5.1] at h2
          exact (List.head_eq_of_cons_eq h2).symm
        have hR8 := nk_set_ok (i := 4) (v := (0, 18446744073709551617, 18446744073709551617)) hR7 (by rw [hs4]; exact ⟨1, rfl, by decide, by decide⟩)
        refine nk_segH (nk_nil _) h5.2 rfl hh hR8 (fun ce hce => by cases hce) (fun a ha ρ9 H9 r9 t hX9 hT9 hF9 hFa hv ht => ?_)
        obtain rfl := List.mem_singleton.mp ha
        exact nk_finI (F := nks0_F) (σ := (4, [3, 2, 1, 0])) (by decide +kernel) (by decide +kernel) hT9 (fun i hi => (hX9 i (Nat.lt_of_lt_of_le hi (by decide))).trans ((hX7 i (Nat.lt_of_lt_of_le hi (by show 3 ≤ 4; decide))).trans (hX4' i hi))) (by decide) (List.mem_singleton.mpr rfl) hv ht hFa
      · subst hr
        have hne : it ≠ v := fun q => by
          subst q
          exact absurd (hiff.mpr hdf4) (by decide)
        have h5 := nk_afM_ok (nks0_61 it hit) hS'
        rw [Bool.and_eq_true] at h5
        have hs4 : ρ7 4 = .int 0 := by
          have h2 := hR7.2.2.1.1
          rw [of_decide_eq_true h5.1] at h2
          exact (List.head_eq_of_cons_eq h2).symm
        have hR8 := nk_set_ok (i := 4) (v := (0, 18446744073709551616, 18446744073709551616)) hR7 (by rw [hs4]; exact ⟨0, rfl, by decide, by decide⟩)
        refine nk_segH (nk_nil _) h5.2 rfl hh hR8 (fun ce hce ρ9 H9 l9 ls9 st9 hX9 hR9 hF9 => ?_) (fun a ha => by cases ha)
        obtain rfl := List.mem_singleton.mp hce
        have hR9 : nkR (D, nkKds, Γ) y.2.2.1 nks0_W s.heap nks0_N1 ρ9 H9 l9 ls9 st9 := hR9
        show W p l e R s m args below meth c H9 l9 0 0 _ (F0 m 34 ls9 st9)
        have y9 : ∀ i, i < 4 → ρ9 i = ρ4 i := fun i hi => (hX9 i hi).trans (hX7 i hi)
        have u4 : ρ9 4 = .int (nI (it - 1)) := nk_dval hR9.1.2.2.1 (show (4, 3, 18446744073709551615) ∈ nks0_N1.2.2.2.2.2.1 by decide) (show (3, 4, 18446744073709551617) ∈ nks0_N1.2.2.2.2.2.1 by decide) ((y9 3 (by decide)).trans c3) (by omega) (d := -1) (by omega) (by omega) (by omega)
        have hRa := nk_set_ok (i := 4) (v := (0, 18446744073709551616, 18446744073709551651)) hR9 (by rw [u4]; exact nk_okI (by rw [nI_toInt (by omega)]; omega) (by rw [nI_toInt (by omega)]; omega))
        obtain ⟨hRb, hXb, -, -⟩ := nk_ent_ok (np := 3) (P := nks0_Q1) (σ := (4, [4, 2, 1, 0])) (by decide +kernel) hRa
        exact ih (it - 1 - v) (by omega) v (it - 1) (nk_pk (4, [4, 2, 1, 0]) ρ9) H9 l9 ls9 st9 rfl (by omega) (by omega) (fun i hi => (hXb i hi).trans ((y9 i (by omega)).trans (hX4' i hi))) u4 hRb (hdf7.kept hF9.2.2.2)
  have zz : ∀ (ρ2 : Nat → Value) (H2 : Heap) (r : Option Value) (t : State), nkX 3 ρ ρ2 → nkT (D, nkKds, Γ) nks0_Z ρ2 H2 → nkFr (D, nkKds, Γ) nks0_W s.heap H2 [] → nkRt nks0_Z ρ2 r → t.heap = H2 → nkQc (D, nkKds, Γ) nks0_en.2.2.2.2.2.1 nks0_en.2.2.2.2.2.2 nks0_en.2.2.2.2.1.1 ρ args s (.returned r) t := fun ρ2 H2 r t hX2 hT2 hF2 hv ht => nk_finI (F := nks0_F) (σ := (4, [3, 2, 1, 0])) (by decide +kernel) (by decide +kernel) hT2 hX2 (by decide) (List.mem_singleton.mpr rfl) hv ht hF2
  refine nk_segH (nk_nil _) nks0_1 rfl hh hR (fun ce hce ρ2 H2 l2 ls2 st2 hX2 hR2 hF2 => ?_) (fun a ha ρ2 H2 r t hX2 hT2 hF2 hF3 hv ht => ?_)
  · obtain rfl := List.mem_singleton.mp hce
    have hR2 : nkR (D, nkKds, Γ) y.2.2.1 nks0_W s.heap nks0_X11 ρ2 H2 l2 ls2 st2 := hR2
    show W p l e R s m args below meth c H2 l2 0 0 _ (F0 m 11 ls2 st2)
    refine nk_callC hh (σ := (2, [2, 0])) (rest := []) (by decide +kernel) nkf0_fits hR2 trivial (fun F hF S' ρ' ρ3 H3 l3 st3 r hS' hX3 hρ hX' hR3 hF3 hG => ?_)
    obtain rfl := List.mem_singleton.mp hF
    have hX3' : nkX 3 ρ ρ3 := fun i hi => (hX3 i hi).trans (hX2 i hi)
    have hz := nk_afM_ok nks0_2z hS'
    rw [Bool.and_eq_true] at hz
    have hn := nk_afM_ok nks0_2n hS'
    rw [Bool.and_eq_true] at hn
    obtain ⟨⟨x, hr⟩, hG⟩ := hG
    have ex3 : ρ3 3 = .int x := by
      have h2 := hR3.2.2.1.1
      rw [of_decide_eq_true hz.1, hr] at h2
      exact (List.head_eq_of_cons_eq h2).symm
    have h4 : nkOk Γ (0, 18446744073709551616, 18446744073709551652) (ρ3 3) := by
      have h5 := nk_afM_ok (f := fun S => decide (nk_g S.2.1 S.1 3 = some (0, 18446744073709551616, 18446744073709551652))) (S := S') (by decide +kernel : nk_afM (nk_aft nks0_X11 [] 2 (2, [2, 0]) nkf0_en.2.2.2.2.2.1 nkf0_F) (fun S => decide (nk_g S.2.1 S.1 3 = some (0, 18446744073709551616, 18446744073709551652))) = true) hS'
      exact hR3.1.1 3 _ (of_decide_eq_true h5)
    rw [ex3] at h4
    obtain ⟨x', exx, x1, x2⟩ := nk_int h4
    cases exx
    by_cases c0 : x = 0
    · have hR4 := nk_set_ok (i := 3) (v := (0, 18446744073709551616, 18446744073709551616)) hR3 (by rw [ex3, c0]; exact ⟨0, rfl, by decide, by decide⟩)
      refine nk_segH (nk_nil _) hz.2 rfl hh hR4 (fun ce hce => by cases hce) (fun a ha ρ4 H4 r4 t hX4 hT4 hF4 hF5 hv ht => ?_)
      obtain rfl := List.mem_singleton.mp ha
      exact zz ρ4 H4 r4 t (fun i hi => (hX4 i hi).trans (hX3' i hi)) hT4 hF5 hv ht
    · have hx0 : x.toInt ≠ 0 := fun q => c0 (by rw [nk_nI (x := x) (m := 0) (by omega)]; rfl)
      obtain ⟨ca, da, cn, dn, v, f1, f2, f3, f4, hc6, hd6, hv, hdf⟩ := hG a0 kk x ((hX2 0 (by decide)).trans ea0) ((hX2 2 (by decide)).trans ekk) hr c0
      have hR4 := nk_set_ok (i := 3) (v := (0, 18446744073709551617, 18446744073709551652)) hR3 (by rw [ex3]; exact nk_okI (by omega) (by omega))
      refine nk_segH (nk_nil _) hn.2 rfl hh hR4 (fun ce hce ρ5 H5 l5 ls5 st5 hX5 hR5 hF5 => ?_) (fun a ha => by cases ha)
      obtain rfl := List.mem_singleton.mp hce
      have hR5 : nkR (D, nkKds, Γ) y.2.2.1 nks0_W s.heap nks0_X19 ρ5 H5 l5 ls5 st5 := hR5
      show W p l e R s m args below meth c H5 l5 0 0 _ (F0 m 19 ls5 st5)
      have hX5' : nkX 3 ρ ρ5 := fun i hi => (hX5 i hi).trans (hX3' i hi)
      have g0 : ρ5 0 = .ref a0 := (hX5' 0 (by decide)).trans ea0
      have k3 : ρ5 3 = .ref ca := (nkMe.fd hR5.1.2.1 (show (0, 11, 3) ∈ nks0_X19.2.2.2.2.1 by decide) g0).fn (f1.kept hF5.2.2.2 rfl)
      have k4 : ρ5 4 = .int (nI cn) := (nkMe.fd hR5.1.2.1 (show (3, 0, 4) ∈ nks0_X19.2.2.2.2.1 by decide) k3).fn (f2.kept hF5.2.2.2 rfl)
      have k5 : ρ5 5 = .ref da := (nkMe.fd hR5.1.2.1 (show (0, 12, 5) ∈ nks0_X19.2.2.2.2.1 by decide) g0).fn (f3.kept hF5.2.2.2 rfl)
      have k6 : ρ5 6 = .int (nI dn) := (nkMe.fd hR5.1.2.1 (show (5, 0, 6) ∈ nks0_X19.2.2.2.2.1 by decide) k5).fn (f4.kept hF5.2.2.2 rfl)
      have hdf5 := hdf.kept hF5.2.2.2
      have hprod : cn * dn ≤ 36 := by
        have : cn * dn ≤ 6 * 6 := Nat.mul_le_mul hc6 hd6
        omega
      obtain ⟨wx, ewx, w1, w2⟩ := nk_int (hR5.1.1 1 _ rfl)
      by_cases cw : wx.toInt = 0
      · have hR6 := nk_set_ok (i := 1) (v := (0, 18446744073709551616, 18446744073709551616)) hR5 (by rw [ewx]; exact nk_okI (by omega) (by omega))
        refine nk_segH (nk_nil _) nks0_30 rfl hh hR6 (fun ce hce ρ7 H7 l7 ls7 st7 hX7 hR7 hF7 => ?_) (fun a ha => by cases ha)
        obtain rfl := List.mem_singleton.mp hce
        have hR7 : nkR (D, nkKds, Γ) y.2.2.1 nks0_W s.heap nks0_Q00 ρ7 H7 l7 ls7 st7 := hR7
        show W p l e R s m args below meth c H7 l7 0 0 _ (F0 m 34 ls7 st7)
        have i3 : ρ7 3 = .int (nI 0) := by
          obtain ⟨r, er, r1, r2⟩ := nk_int (hR7.1.1 3 _ rfl)
          rw [er, nk_nI (x := r) (m := 0) (by omega)]
        obtain ⟨hR8, hX8, -, -⟩ := nk_ent_ok (np := 4) (P := nks0_Q0) (σ := (4, [3, 2, 1, 0])) (by decide +kernel) hR7
        exact loop0 v v 0 (nk_pk (4, [3, 2, 1, 0]) ρ7) H7 l7 ls7 st7 rfl (Nat.zero_le _) (by omega) (fun i hi => (hX8 i (Nat.lt_of_lt_of_le hi (by decide))).trans ((hX7 i hi).trans (hX5' i hi))) i3 hR8 (hdf5.kept hF7.2.2.2)
      · have hc1 : 1 ≤ cn := by
          have h4 := hR5.1.1 4 _ rfl
          rw [k4] at h4
          have := nk_ival h4 (by omega)
          omega
        have hd1 : 1 ≤ dn := by
          have h6 := hR5.1.1 6 _ rfl
          rw [k6] at h6
          have := nk_ival h6 (by omega)
          omega
        obtain ⟨C, rfl⟩ : ∃ C, cn = 1 + C := ⟨cn - 1, by omega⟩
        obtain ⟨Dp, rfl⟩ : ∃ Dp, dn = 1 + Dp := ⟨dn - 1, by omega⟩
        have hpos : 1 ≤ (1 + C) * (1 + Dp) := Nat.mul_pos (by omega) (by omega)
        have hR6 := nk_set_ok (nk_set_ok (nk_set_ok (i := 1) (v := (0, 18446744073709551617, 18446744073709551617)) hR5 (by rw [ewx]; exact nk_okI (by omega) (by omega))) (i := 4) (v := (0, 18446744073709551616 + 1 + C, 18446744073709551616 + 1 + C)) (by rw [k4]; exact nk_okI (by rw [nI_toInt (by omega)]; omega) (by rw [nI_toInt (by omega)]; omega))) (i := 6) (v := (0, 18446744073709551616 + 1 + Dp, 18446744073709551616 + 1 + Dp)) (by rw [k6]; exact nk_okI (by rw [nI_toInt (by omega)]; omega) (by rw [nI_toInt (by omega)]; omega))
        refine nk_segH (nk_nil _) (nks0_31 C (by omega) Dp (by omega)) rfl hh hR6 (fun ce hce ρ7 H7 l7 ls7 st7 hX7 hR7 hF7 => ?_) (fun a ha => by cases ha)
        obtain rfl := List.mem_singleton.mp hce
        have hR7 : nkR (D, nkKds, Γ) y.2.2.1 nks0_W s.heap (nks0_Q1c C Dp) ρ7 H7 l7 ls7 st7 := hR7
        show W p l e R s m args below meth c H7 l7 0 0 _ (F0 m 34 ls7 st7)
        have i3 : ρ7 3 = .int (nI ((1 + C) * (1 + Dp) - 1)) := by
          obtain ⟨r, er, r1, r2⟩ := nk_int (hR7.1.1 3 _ rfl)
          rw [er, nk_nI (x := r) (m := (1 + C) * (1 + Dp) - 1) (by omega)]
        obtain ⟨hR8, hX8, -, -⟩ := nk_ent_ok (nks0_q1 C (by omega) Dp (by omega)) hR7
        exact loop1 _ v ((1 + C) * (1 + Dp) - 1) (nk_pk (4, [3, 2, 1, 0]) ρ7) H7 l7 ls7 st7 rfl (by omega) (by omega) (fun i hi => (hX8 i (Nat.lt_of_lt_of_le hi (by decide))).trans ((hX7 i hi).trans (hX5' i hi))) i3 hR8 (hdf5.kept hF7.2.2.2)
  · obtain rfl := List.mem_singleton.mp ha
    exact zz ρ2 H2 r t hX2 hT2 hF3 hv ht)

def nks1_sp : List (Nat × nkSp) := [(278, [(19, (2, 0), [11, 1]), (19, (2, 0), [12, 1])])]
def nks1_F : nkS := (4, [(0, 18446744073709551615, 18446744073709551651), (0, 18446744071562067968, 18446744075857035263), (0, 18446744071562067968, 18446744075857035263), (2, 41, 0)], [], [3], [], [], [])
def nks1_W : nkWs := [(41, 38, 38), (41, 40, 40), (41, 42, 42), (62, 0, 59), (63, 0, 54), (64, 0, 4), (66, 0, 54), (70, 0, 467), (77, 0, 35)]
def nks1_en : nkIn := (278, 18, 700, 3, (3, [(0, 18446744071562067968, 18446744075857035263), (0, 18446744071562067968, 18446744075857035263), (2, 41, 0)], [], [], [], [], []), nks1_W, [nks1_F])
def nks1_Z : nkS := (4, [(0, 18446744073709551615, 18446744073709551615), (0, 18446744071562067968, 18446744075857035263), (0, 18446744071562067968, 18446744075857035263), (2, 41, 0)], [], [3], [], [], [])
def nks1_X11 : nkS := (3, [(0, 18446744071562067968, 18446744075857035263), (0, 18446744073709551616, 18446744073709551617), (2, 41, 0)], [(0, 0), (1, 1), (2, 2)], [2, 0], [], [], [])
theorem nks1_1 : nk_sgM nkKds [] nks1_sp 278 18 700 [] [(11, nks1_X11, [])] 3 [nks1_Z] 3000 (3, [(0, 18446744071562067968, 18446744075857035263), (0, 18446744071562067968, 18446744075857035263), (2, 41, 0)], [(0, 0), (1, 1), (2, 2)], [], [], [], []) 0 = true := by decide +kernel
def nks1_X19 : nkS := (7, [(0, 18446744073709551617, 18446744073709551622), (2, 47, 0), (0, 18446744073709551617, 18446744073709551622), (2, 45, 0), (0, 18446744071562067968, 18446744075857035263), (0, 18446744073709551616, 18446744073709551617), (2, 41, 0)], [(0, 0), (1, 1), (2, 2)], [], [(0, 11, 3), (3, 1, 4), (0, 12, 5), (5, 1, 6)], [], [])
theorem nks1_2z : nk_afM (nk_aft nks1_X11 [] 2 (2, [2, 0]) nkf1_en.2.2.2.2.2.1 nkf1_F) (fun S' => decide (S'.2.2.2.1 = [3]) && nk_sgM nkKds [] nks1_sp 278 18 700 [] [] 3 [nks1_Z] 3000 (nk_set S' 3 (0, 18446744073709551616, 18446744073709551616)) 14) = true := by decide +kernel
theorem nks1_2n : nk_afM (nk_aft nks1_X11 [] 2 (2, [2, 0]) nkf1_en.2.2.2.2.2.1 nkf1_F) (fun S' => decide (S'.2.2.2.1 = [3]) && nk_sgM nkKds [] nks1_sp 278 18 700 [] [(19, nks1_X19, [])] 3 [] 3000 (nk_set S' 3 (0, 18446744073709551617, 18446744073709551652)) 14) = true := by decide +kernel
def nks1_Q0 : nkS := (4, [(0, 18446744073709551616, 18446744073709551651), (0, 18446744071562067968, 18446744075857035263), (0, 18446744073709551616, 18446744073709551616), (2, 41, 0)], [(0, 0), (1, 1), (2, 2), (3, 3)], [], [], [], [])
def nks1_Q1 : nkS := (4, [(0, 18446744073709551616, 18446744073709551651), (0, 18446744071562067968, 18446744075857035263), (0, 18446744073709551617, 18446744073709551617), (2, 41, 0)], [(0, 0), (1, 1), (2, 2), (3, 3)], [], [], [], [])
def nks1_Q00 : nkS := (4, [(0, 18446744073709551616, 18446744073709551616), (0, 18446744071562067968, 18446744075857035263), (0, 18446744073709551616, 18446744073709551616), (2, 41, 0)], [(0, 0), (1, 1), (2, 2), (3, 3)], [], [], [], [])
theorem nks1_30 : nk_sgM nkKds [] nks1_sp 278 18 700 [] [(34, nks1_Q00, [])] 3 [] 3000 (nk_set nks1_X19 1 (0, 18446744073709551616, 18446744073709551616)) 19 = true := by decide +kernel
def nks1_Q1c (c d : Nat) : nkS := (4, [(0, 18446744073709551615 + (1 + c) * (1 + d), 18446744073709551615 + (1 + c) * (1 + d)), (0, 18446744071562067968, 18446744075857035263), (0, 18446744073709551617, 18446744073709551617), (2, 41, 0)], [(0, 0), (1, 1), (2, 2), (3, 3)], [], [], [], [])
theorem nks1_31 : ∀ c, c < 6 → ∀ d, d < 6 → nk_sgM nkKds [] nks1_sp 278 18 700 [] [(34, nks1_Q1c c d, [])] 3 [] 3000 (nk_set (nk_set (nk_set nks1_X19 1 (0, 18446744073709551617, 18446744073709551617)) 4 (0, 18446744073709551616 + 1 + c, 18446744073709551616 + 1 + c)) 6 (0, 18446744073709551616 + 1 + d, 18446744073709551616 + 1 + d)) 19 = true := by decide +kernel
theorem nks1_q1 : ∀ c, c < 6 → ∀ d, d < 6 → nk_ent 4 nks1_Q1 (nks1_Q1c c d) = some (4, [3, 2, 1, 0]) := by decide +kernel
def nks1_X0 : nkS := (4, [(0, 18446744073709551616, 18446744073709551651), (0, 18446744071562067968, 18446744075857035263), (0, 18446744073709551616, 18446744073709551616), (2, 41, 0)], [(0, 0), (1, 1), (2, 2), (3, 3)], [2, 3, 0], [], [], [])
theorem nks1_40 : nk_sgM nkKds [] nks1_sp 278 18 700 [] [(37, nks1_X0, [])] 4 [] 3000 nks1_Q0 34 = true := by decide +kernel
theorem nks1_c0 : ∀ v, v < 36 → nk_calC nkKds 278 18 700 nks1_W (nk_set nks1_X0 3 (0, 18446744073709551616 + v, 18446744073709551616 + v)) 37 (nkd1_en v) = some ((3, [2, 3, 0]), []) := by decide +kernel
def nks1_R0 : nkS := (4, [(0, 18446744073709551616, 18446744073709551651), (0, 18446744071562067968, 18446744075857035263), (0, 18446744073709551616, 18446744073709551616), (2, 41, 0)], [], [3], [], [], [])
theorem nks1_50 : ∀ v, v < 36 → nk_afM (nk_aft (nk_set nks1_X0 3 (0, 18446744073709551616 + v, 18446744073709551616 + v)) [] 3 (3, [2, 3, 0]) [] (nkd1_F v)) (fun S' => decide (S'.2.2.2.1 = [4]) && nk_sgM nkKds [] nks1_sp 278 18 700 [] [] 4 [nks1_R0] 3000 (nk_set S' 4 (0, 18446744073709551617, 18446744073709551617)) 40) = true := by decide +kernel
def nks1_N0 : nkS := (5, [(0, 18446744073709551615, 18446744073709551652), (0, 18446744073709551616, 18446744073709551651), (0, 18446744071562067968, 18446744075857035263), (0, 18446744073709551616, 18446744073709551616), (2, 41, 0)], [(0, 0), (1, 1), (2, 2), (3, 4)], [], [], [(4, 3, 18446744073709551617), (3, 4, 18446744073709551615)], [])
theorem nks1_60 : ∀ v, v < 36 → nk_afM (nk_aft (nk_set nks1_X0 3 (0, 18446744073709551616 + v, 18446744073709551616 + v)) [] 3 (3, [2, 3, 0]) [] (nkd1_F v)) (fun S' => decide (S'.2.2.2.1 = [4]) && nk_sgM nkKds [] nks1_sp 278 18 700 [] [(34, nks1_N0, [])] 4 [] 3000 (nk_set S' 4 (0, 18446744073709551616, 18446744073709551616)) 40) = true := by decide +kernel
def nks1_X1 : nkS := (4, [(0, 18446744073709551616, 18446744073709551651), (0, 18446744071562067968, 18446744075857035263), (0, 18446744073709551617, 18446744073709551617), (2, 41, 0)], [(0, 0), (1, 1), (2, 2), (3, 3)], [2, 3, 0], [], [], [])
theorem nks1_41 : nk_sgM nkKds [] nks1_sp 278 18 700 [] [(37, nks1_X1, [])] 4 [] 3000 nks1_Q1 34 = true := by decide +kernel
theorem nks1_c1 : ∀ v, v < 36 → nk_calC nkKds 278 18 700 nks1_W (nk_set nks1_X1 3 (0, 18446744073709551616 + v, 18446744073709551616 + v)) 37 (nkd1_en v) = some ((3, [2, 3, 0]), []) := by decide +kernel
def nks1_R1 : nkS := (4, [(0, 18446744073709551616, 18446744073709551651), (0, 18446744071562067968, 18446744075857035263), (0, 18446744073709551617, 18446744073709551617), (2, 41, 0)], [], [3], [], [], [])
theorem nks1_51 : ∀ v, v < 36 → nk_afM (nk_aft (nk_set nks1_X1 3 (0, 18446744073709551616 + v, 18446744073709551616 + v)) [] 3 (3, [2, 3, 0]) [] (nkd1_F v)) (fun S' => decide (S'.2.2.2.1 = [4]) && nk_sgM nkKds [] nks1_sp 278 18 700 [] [] 4 [nks1_R1] 3000 (nk_set S' 4 (0, 18446744073709551617, 18446744073709551617)) 40) = true := by decide +kernel
def nks1_N1 : nkS := (5, [(0, 18446744073709551615, 18446744073709551652), (0, 18446744073709551616, 18446744073709551651), (0, 18446744071562067968, 18446744075857035263), (0, 18446744073709551617, 18446744073709551617), (2, 41, 0)], [(0, 0), (1, 1), (2, 2), (3, 4)], [], [], [(4, 3, 18446744073709551615), (3, 4, 18446744073709551617)], [])
theorem nks1_61 : ∀ v, v < 36 → nk_afM (nk_aft (nk_set nks1_X1 3 (0, 18446744073709551616 + v, 18446744073709551616 + v)) [] 3 (3, [2, 3, 0]) [] (nkd1_F v)) (fun S' => decide (S'.2.2.2.1 = [4]) && nk_sgM nkKds [] nks1_sp 278 18 700 [] [(34, nks1_N1, [])] 4 [] 3000 (nk_set S' 4 (0, 18446744073709551616, 18446744073709551616)) 40) = true := by decide +kernel
theorem nks1_sure : nkMetI nkKds nks1_en := nk_handI (spt := nks1_sp) (by decide +kernel) (fun {y lo0} hlo0 {p l e R s m args below meth c cc D Γ ρ ls} hh hR => by
  have hl : lo0 = [(0, 0), (1, 1), (2, 2)] := Option.some.inj (hlo0.symm.trans (by decide +kernel))
  subst hl
  obtain ⟨a0, ea0, hΓ0⟩ := nk_rf (hR.1.1 0 _ rfl)
  obtain ⟨kk, ekk, -, -⟩ := nk_int (hR.1.1 2 _ rfl)
  have loop0 : ∀ (rem v it : Nat) (ρ3 : Nat → Value) (H3 : Heap) (l3 : List Loc) (ls3 : Array Slot) (st3 : List Value), v - it = rem → it ≤ v → v < 36 → nkX 3 ρ ρ3 → ρ3 3 = .int (nI it) → nkR (D, nkKds, Γ) y.2.2.1 nks1_W s.heap nks1_Q0 ρ3 H3 l3 ls3 st3 → nkDF (D, nkKds, Γ) H3 a0 v kk → W p l e R s m args below meth c H3 l3 0 0 (MQ below (nkQc (D, nkKds, Γ) nks1_en.2.2.2.2.2.1 nks1_en.2.2.2.2.2.2 nks1_en.2.2.2.2.1.1 ρ) args s 0 0 (nkA (D, nkKds, Γ))) (F0 m 34 ls3 st3) := by
    intro rem
    induction rem using Nat.strongRecOn with
    | ind rem ih =>
      intro v it ρ3 H3 l3 ls3 st3 hrem hle hv36 hX3 b3 hR3 hdf
      have hit : it < 36 := by omega
      refine nk_segH (nk_nil _) nks1_40 rfl hh hR3 (fun ce hce ρ4 H4 l4 ls4 st4 hX4 hR4 hF4 => ?_) (fun a ha => by cases ha)
      obtain rfl := List.mem_singleton.mp hce
      have hR4 : nkR (D, nkKds, Γ) y.2.2.1 nks1_W s.heap nks1_X0 ρ4 H4 l4 ls4 st4 := hR4
      show W p l e R s m args below meth c H4 l4 0 0 _ (F0 m 37 ls4 st4)
      have c3 : ρ4 3 = .int (nI it) := (hX4 3 (by decide)).trans b3
      have hX4' : nkX 3 ρ ρ4 := fun i hi => (hX4 i (Nat.lt_of_lt_of_le hi (by decide))).trans (hX3 i hi)
      have hR5 := nk_set_ok (i := 3) (v := (0, 18446744073709551616 + it, 18446744073709551616 + it)) hR4 (by rw [c3]; exact nk_okI (by rw [nI_toInt (by omega)]; omega) (by rw [nI_toInt (by omega)]; omega))
      refine nk_callC hh (nks1_c0 it hit) (nkd1_df it hit) hR5 trivial (fun F hF S' ρ' ρ7 H7 l7 st7 r hS' hX7 hρ hX' hR7 hF7 hG => ?_)
      obtain rfl := List.mem_singleton.mp hF
      obtain ⟨hiff, hr⟩ := hG a0 kk ((hX4' 0 (by decide)).trans ea0) ((hX4' 2 (by decide)).trans ekk)
      have hdf4 := hdf.kept hF4.2.2.2
      have hdf7 := hdf4.kept hF7.2.2.2
      rcases hr with hr | hr
      · subst hr
        have h5 := nk_afM_ok (nks1_50 it hit) hS'
        rw [Bool.and_eq_true] at h5
        have hs4 : ρ7 4 = .int 1 := by
          have h2 := hR7.2.2.1.1
          rw [of_decide_eq_true h5.1] at h2
          exact (List.head_eq_of_cons_eq h2).symm
        have hR8 := nk_set_ok (i := 4) (v := (0, 18446744073709551617, 18446744073709551617)) hR7 (by rw [hs4]; exact ⟨1, rfl, by decide, by decide⟩)
        refine nk_segH (nk_nil _) h5.2 rfl hh hR8 (fun ce hce => by cases hce) (fun a ha ρ9 H9 r9 t hX9 hT9 hF9 hFa hv ht => ?_)
        obtain rfl := List.mem_singleton.mp ha
        exact nk_finI (F := nks1_F) (σ := (4, [3, 2, 1, 0])) (by decide +kernel) (by decide +kernel) hT9 (fun i hi => (hX9 i (Nat.lt_of_lt_of_le hi (by decide))).trans ((hX7 i (Nat.lt_of_lt_of_le hi (by show 3 ≤ 4; decide))).trans (hX4' i hi))) (by decide) (List.mem_singleton.mpr rfl) hv ht hFa
      · subst hr
        have hne : it ≠ v := fun q => by
          subst q
          exact absurd (hiff.mpr hdf4) (by decide)
        have h5 := nk_afM_ok (nks1_60 it hit) hS'
        rw [Bool.and_eq_true] at h5
        have hs4 : ρ7 4 = .int 0 := by
          have h2 := hR7.2.2.1.1
          rw [of_decide_eq_true h5.1] at h2
          exact (List.head_eq_of_cons_eq h2).symm
        have hR8 := nk_set_ok (i := 4) (v := (0, 18446744073709551616, 18446744073709551616)) hR7 (by rw [hs4]; exact ⟨0, rfl, by decide, by decide⟩)
        refine nk_segH (nk_nil _) h5.2 rfl hh hR8 (fun ce hce ρ9 H9 l9 ls9 st9 hX9 hR9 hF9 => ?_) (fun a ha => by cases ha)
        obtain rfl := List.mem_singleton.mp hce
        have hR9 : nkR (D, nkKds, Γ) y.2.2.1 nks1_W s.heap nks1_N0 ρ9 H9 l9 ls9 st9 := hR9
        show W p l e R s m args below meth c H9 l9 0 0 _ (F0 m 34 ls9 st9)
        have y9 : ∀ i, i < 4 → ρ9 i = ρ4 i := fun i hi => (hX9 i hi).trans (hX7 i hi)
        have u4 : ρ9 4 = .int (nI (it + 1)) := nk_dval hR9.1.2.2.1 (show (4, 3, 18446744073709551617) ∈ nks1_N0.2.2.2.2.2.1 by decide) (show (3, 4, 18446744073709551615) ∈ nks1_N0.2.2.2.2.2.1 by decide) ((y9 3 (by decide)).trans c3) (by omega) (d := 1) (by omega) (by omega) (by omega)
        have hRa := nk_set_ok (i := 4) (v := (0, 18446744073709551616, 18446744073709551651)) hR9 (by rw [u4]; exact nk_okI (by rw [nI_toInt (by omega)]; omega) (by rw [nI_toInt (by omega)]; omega))
        obtain ⟨hRb, hXb, -, -⟩ := nk_ent_ok (np := 3) (P := nks1_Q0) (σ := (4, [4, 2, 1, 0])) (by decide +kernel) hRa
        exact ih (v - (it + 1)) (by omega) v (it + 1) (nk_pk (4, [4, 2, 1, 0]) ρ9) H9 l9 ls9 st9 rfl (by omega) (by omega) (fun i hi => (hXb i hi).trans ((y9 i (by omega)).trans (hX4' i hi))) u4 hRb (hdf7.kept hF9.2.2.2)
  have loop1 : ∀ (rem v it : Nat) (ρ3 : Nat → Value) (H3 : Heap) (l3 : List Loc) (ls3 : Array Slot) (st3 : List Value), it - v = rem → v ≤ it → it < 36 → nkX 3 ρ ρ3 → ρ3 3 = .int (nI it) → nkR (D, nkKds, Γ) y.2.2.1 nks1_W s.heap nks1_Q1 ρ3 H3 l3 ls3 st3 → nkDF (D, nkKds, Γ) H3 a0 v kk → W p l e R s m args below meth c H3 l3 0 0 (MQ below (nkQc (D, nkKds, Γ) nks1_en.2.2.2.2.2.1 nks1_en.2.2.2.2.2.2 nks1_en.2.2.2.2.1.1 ρ) args s 0 0 (nkA (D, nkKds, Γ))) (F0 m 34 ls3 st3) := by
    intro rem
    induction rem using Nat.strongRecOn with
    | ind rem ih =>
      intro v it ρ3 H3 l3 ls3 st3 hrem hle hv36 hX3 b3 hR3 hdf
      have hit : it < 36 := by omega
      refine nk_segH (nk_nil _) nks1_41 rfl hh hR3 (fun ce hce ρ4 H4 l4 ls4 st4 hX4 hR4 hF4 => ?_) (fun a ha => by cases ha)
      obtain rfl := List.mem_singleton.mp hce
      have hR4 : nkR (D, nkKds, Γ) y.2.2.1 nks1_W s.heap nks1_X1 ρ4 H4 l4 ls4 st4 := hR4
      show W p l e R s m args below meth c H4 l4 0 0 _ (F0 m 37 ls4 st4)
      have c3 : ρ4 3 = .int (nI it) := (hX4 3 (by decide)).trans b3
      have hX4' : nkX 3 ρ ρ4 := fun i hi => (hX4 i (Nat.lt_of_lt_of_le hi (by decide))).trans (hX3 i hi)
      have hR5 := nk_set_ok (i := 3) (v := (0, 18446744073709551616 + it, 18446744073709551616 + it)) hR4 (by rw [c3]; exact nk_okI (by rw [nI_toInt (by omega)]; omega) (by rw [nI_toInt (by omega)]; omega))
      refine nk_callC hh (nks1_c1 it hit) (nkd1_df it hit) hR5 trivial (fun F hF S' ρ' ρ7 H7 l7 st7 r hS' hX7 hρ hX' hR7 hF7 hG => ?_)
      obtain rfl := List.mem_singleton.mp hF
      obtain ⟨hiff, hr⟩ := hG a0 kk ((hX4' 0 (by decide)).trans ea0) ((hX4' 2 (by decide)).trans ekk)
      have hdf4 := hdf.kept hF4.2.2.2
      have hdf7 := hdf4.kept hF7.2.2.2
      rcases hr with hr | hr
      · subst hr
        have h5 := nk_afM_ok (nks1_51 it hit) hS'
        rw [Bool.and_eq_true] at h5
        have hs4 : ρ7 4 = .int 1 := by
          have h2 := hR7.2.2.1.1
          rw [of_decide_eq_true h5.1] at h2
          exact (List.head_eq_of_cons_eq h2).symm
        have hR8 := nk_set_ok (i := 4) (v := (0, 18446744073709551617, 18446744073709551617)) hR7 (by rw [hs4]; exact ⟨1, rfl, by decide, by decide⟩)
        refine nk_segH (nk_nil _) h5.2 rfl hh hR8 (fun ce hce => by cases hce) (fun a ha ρ9 H9 r9 t hX9 hT9 hF9 hFa hv ht => ?_)
        obtain rfl := List.mem_singleton.mp ha
        exact nk_finI (F := nks1_F) (σ := (4, [3, 2, 1, 0])) (by decide +kernel) (by decide +kernel) hT9 (fun i hi => (hX9 i (Nat.lt_of_lt_of_le hi (by decide))).trans ((hX7 i (Nat.lt_of_lt_of_le hi (by show 3 ≤ 4; decide))).trans (hX4' i hi))) (by decide) (List.mem_singleton.mpr rfl) hv ht hFa
      · subst hr
        have hne : it ≠ v := fun q => by
          subst q
          exact absurd (hiff.mpr hdf4) (by decide)
        have h5 := nk_afM_ok (nks1_61 it hit) hS'
        rw [Bool.and_eq_true] at h5
        have hs4 : ρ7 4 = .int 0 := by
          have h2 := hR7.2.2.1.1
          rw [of_decide_eq_true h5.1] at h2
          exact (List.head_eq_of_cons_eq h2).symm
        have hR8 := nk_set_ok (i := 4) (v := (0, 18446744073709551616, 18446744073709551616)) hR7 (by rw [hs4]; exact ⟨0, rfl, by decide, by decide⟩)
        refine nk_segH (nk_nil _) h5.2 rfl hh hR8 (fun ce hce ρ9 H9 l9 ls9 st9 hX9 hR9 hF9 => ?_) (fun a ha => by cases ha)
        obtain rfl := List.mem_singleton.mp hce
        have hR9 : nkR (D, nkKds, Γ) y.2.2.1 nks1_W s.heap nks1_N1 ρ9 H9 l9 ls9 st9 := hR9
        show W p l e R s m args below meth c H9 l9 0 0 _ (F0 m 34 ls9 st9)
        have y9 : ∀ i, i < 4 → ρ9 i = ρ4 i := fun i hi => (hX9 i hi).trans (hX7 i hi)
        have u4 : ρ9 4 = .int (nI (it - 1)) := nk_dval hR9.1.2.2.1 (show (4, 3, 18446744073709551615) ∈ nks1_N1.2.2.2.2.2.1 by decide) (show (3, 4, 18446744073709551617) ∈ nks1_N1.2.2.2.2.2.1 by decide) ((y9 3 (by decide)).trans c3) (by omega) (d := -1) (by omega) (by omega) (by omega)
        have hRa := nk_set_ok (i := 4) (v := (0, 18446744073709551616, 18446744073709551651)) hR9 (by rw [u4]; exact nk_okI (by rw [nI_toInt (by omega)]; omega) (by rw [nI_toInt (by omega)]; omega))
        obtain ⟨hRb, hXb, -, -⟩ := nk_ent_ok (np := 3) (P := nks1_Q1) (σ := (4, [4, 2, 1, 0])) (by decide +kernel) hRa
        exact ih (it - 1 - v) (by omega) v (it - 1) (nk_pk (4, [4, 2, 1, 0]) ρ9) H9 l9 ls9 st9 rfl (by omega) (by omega) (fun i hi => (hXb i hi).trans ((y9 i (by omega)).trans (hX4' i hi))) u4 hRb (hdf7.kept hF9.2.2.2)
  have zz : ∀ (ρ2 : Nat → Value) (H2 : Heap) (r : Option Value) (t : State), nkX 3 ρ ρ2 → nkT (D, nkKds, Γ) nks1_Z ρ2 H2 → nkFr (D, nkKds, Γ) nks1_W s.heap H2 [] → nkRt nks1_Z ρ2 r → t.heap = H2 → nkQc (D, nkKds, Γ) nks1_en.2.2.2.2.2.1 nks1_en.2.2.2.2.2.2 nks1_en.2.2.2.2.1.1 ρ args s (.returned r) t := fun ρ2 H2 r t hX2 hT2 hF2 hv ht => nk_finI (F := nks1_F) (σ := (4, [3, 2, 1, 0])) (by decide +kernel) (by decide +kernel) hT2 hX2 (by decide) (List.mem_singleton.mpr rfl) hv ht hF2
  refine nk_segH (nk_nil _) nks1_1 rfl hh hR (fun ce hce ρ2 H2 l2 ls2 st2 hX2 hR2 hF2 => ?_) (fun a ha ρ2 H2 r t hX2 hT2 hF2 hF3 hv ht => ?_)
  · obtain rfl := List.mem_singleton.mp hce
    have hR2 : nkR (D, nkKds, Γ) y.2.2.1 nks1_W s.heap nks1_X11 ρ2 H2 l2 ls2 st2 := hR2
    show W p l e R s m args below meth c H2 l2 0 0 _ (F0 m 11 ls2 st2)
    refine nk_callC hh (σ := (2, [2, 0])) (rest := []) (by decide +kernel) nkf1_fits hR2 trivial (fun F hF S' ρ' ρ3 H3 l3 st3 r hS' hX3 hρ hX' hR3 hF3 hG => ?_)
    obtain rfl := List.mem_singleton.mp hF
    have hX3' : nkX 3 ρ ρ3 := fun i hi => (hX3 i hi).trans (hX2 i hi)
    have hz := nk_afM_ok nks1_2z hS'
    rw [Bool.and_eq_true] at hz
    have hn := nk_afM_ok nks1_2n hS'
    rw [Bool.and_eq_true] at hn
    obtain ⟨⟨x, hr⟩, hG⟩ := hG
    have ex3 : ρ3 3 = .int x := by
      have h2 := hR3.2.2.1.1
      rw [of_decide_eq_true hz.1, hr] at h2
      exact (List.head_eq_of_cons_eq h2).symm
    have h4 : nkOk Γ (0, 18446744073709551616, 18446744073709551652) (ρ3 3) := by
      have h5 := nk_afM_ok (f := fun S => decide (nk_g S.2.1 S.1 3 = some (0, 18446744073709551616, 18446744073709551652))) (S := S') (by decide +kernel : nk_afM (nk_aft nks1_X11 [] 2 (2, [2, 0]) nkf1_en.2.2.2.2.2.1 nkf1_F) (fun S => decide (nk_g S.2.1 S.1 3 = some (0, 18446744073709551616, 18446744073709551652))) = true) hS'
      exact hR3.1.1 3 _ (of_decide_eq_true h5)
    rw [ex3] at h4
    obtain ⟨x', exx, x1, x2⟩ := nk_int h4
    cases exx
    by_cases c0 : x = 0
    · have hR4 := nk_set_ok (i := 3) (v := (0, 18446744073709551616, 18446744073709551616)) hR3 (by rw [ex3, c0]; exact ⟨0, rfl, by decide, by decide⟩)
      refine nk_segH (nk_nil _) hz.2 rfl hh hR4 (fun ce hce => by cases hce) (fun a ha ρ4 H4 r4 t hX4 hT4 hF4 hF5 hv ht => ?_)
      obtain rfl := List.mem_singleton.mp ha
      exact zz ρ4 H4 r4 t (fun i hi => (hX4 i hi).trans (hX3' i hi)) hT4 hF5 hv ht
    · have hx0 : x.toInt ≠ 0 := fun q => c0 (by rw [nk_nI (x := x) (m := 0) (by omega)]; rfl)
      obtain ⟨ca, da, cn, dn, v, f1, f2, f3, f4, hc6, hd6, hv, hdf⟩ := hG a0 kk x ((hX2 0 (by decide)).trans ea0) ((hX2 2 (by decide)).trans ekk) hr c0
      have hR4 := nk_set_ok (i := 3) (v := (0, 18446744073709551617, 18446744073709551652)) hR3 (by rw [ex3]; exact nk_okI (by omega) (by omega))
      refine nk_segH (nk_nil _) hn.2 rfl hh hR4 (fun ce hce ρ5 H5 l5 ls5 st5 hX5 hR5 hF5 => ?_) (fun a ha => by cases ha)
      obtain rfl := List.mem_singleton.mp hce
      have hR5 : nkR (D, nkKds, Γ) y.2.2.1 nks1_W s.heap nks1_X19 ρ5 H5 l5 ls5 st5 := hR5
      show W p l e R s m args below meth c H5 l5 0 0 _ (F0 m 19 ls5 st5)
      have hX5' : nkX 3 ρ ρ5 := fun i hi => (hX5 i hi).trans (hX3' i hi)
      have g0 : ρ5 0 = .ref a0 := (hX5' 0 (by decide)).trans ea0
      have k3 : ρ5 3 = .ref ca := (nkMe.fd hR5.1.2.1 (show (0, 11, 3) ∈ nks1_X19.2.2.2.2.1 by decide) g0).fn (f1.kept hF5.2.2.2 rfl)
      have k4 : ρ5 4 = .int (nI cn) := (nkMe.fd hR5.1.2.1 (show (3, 1, 4) ∈ nks1_X19.2.2.2.2.1 by decide) k3).fn (f2.kept hF5.2.2.2 rfl)
      have k5 : ρ5 5 = .ref da := (nkMe.fd hR5.1.2.1 (show (0, 12, 5) ∈ nks1_X19.2.2.2.2.1 by decide) g0).fn (f3.kept hF5.2.2.2 rfl)
      have k6 : ρ5 6 = .int (nI dn) := (nkMe.fd hR5.1.2.1 (show (5, 1, 6) ∈ nks1_X19.2.2.2.2.1 by decide) k5).fn (f4.kept hF5.2.2.2 rfl)
      have hdf5 := hdf.kept hF5.2.2.2
      have hprod : cn * dn ≤ 36 := by
        have : cn * dn ≤ 6 * 6 := Nat.mul_le_mul hc6 hd6
        omega
      obtain ⟨wx, ewx, w1, w2⟩ := nk_int (hR5.1.1 1 _ rfl)
      by_cases cw : wx.toInt = 0
      · have hR6 := nk_set_ok (i := 1) (v := (0, 18446744073709551616, 18446744073709551616)) hR5 (by rw [ewx]; exact nk_okI (by omega) (by omega))
        refine nk_segH (nk_nil _) nks1_30 rfl hh hR6 (fun ce hce ρ7 H7 l7 ls7 st7 hX7 hR7 hF7 => ?_) (fun a ha => by cases ha)
        obtain rfl := List.mem_singleton.mp hce
        have hR7 : nkR (D, nkKds, Γ) y.2.2.1 nks1_W s.heap nks1_Q00 ρ7 H7 l7 ls7 st7 := hR7
        show W p l e R s m args below meth c H7 l7 0 0 _ (F0 m 34 ls7 st7)
        have i3 : ρ7 3 = .int (nI 0) := by
          obtain ⟨r, er, r1, r2⟩ := nk_int (hR7.1.1 3 _ rfl)
          rw [er, nk_nI (x := r) (m := 0) (by omega)]
        obtain ⟨hR8, hX8, -, -⟩ := nk_ent_ok (np := 4) (P := nks1_Q0) (σ := (4, [3, 2, 1, 0])) (by decide +kernel) hR7
        exact loop0 v v 0 (nk_pk (4, [3, 2, 1, 0]) ρ7) H7 l7 ls7 st7 rfl (Nat.zero_le _) (by omega) (fun i hi => (hX8 i (Nat.lt_of_lt_of_le hi (by decide))).trans ((hX7 i hi).trans (hX5' i hi))) i3 hR8 (hdf5.kept hF7.2.2.2)
      · have hc1 : 1 ≤ cn := by
          have h4 := hR5.1.1 4 _ rfl
          rw [k4] at h4
          have := nk_ival h4 (by omega)
          omega
        have hd1 : 1 ≤ dn := by
          have h6 := hR5.1.1 6 _ rfl
          rw [k6] at h6
          have := nk_ival h6 (by omega)
          omega
        obtain ⟨C, rfl⟩ : ∃ C, cn = 1 + C := ⟨cn - 1, by omega⟩
        obtain ⟨Dp, rfl⟩ : ∃ Dp, dn = 1 + Dp := ⟨dn - 1, by omega⟩
        have hpos : 1 ≤ (1 + C) * (1 + Dp) := Nat.mul_pos (by omega) (by omega)
        have hR6 := nk_set_ok (nk_set_ok (nk_set_ok (i := 1) (v := (0, 18446744073709551617, 18446744073709551617)) hR5 (by rw [ewx]; exact nk_okI (by omega) (by omega))) (i := 4) (v := (0, 18446744073709551616 + 1 + C, 18446744073709551616 + 1 + C)) (by rw [k4]; exact nk_okI (by rw [nI_toInt (by omega)]; omega) (by rw [nI_toInt (by omega)]; omega))) (i := 6) (v := (0, 18446744073709551616 + 1 + Dp, 18446744073709551616 + 1 + Dp)) (by rw [k6]; exact nk_okI (by rw [nI_toInt (by omega)]; omega) (by rw [nI_toInt (by omega)]; omega))
        refine nk_segH (nk_nil _) (nks1_31 C (by omega) Dp (by omega)) rfl hh hR6 (fun ce hce ρ7 H7 l7 ls7 st7 hX7 hR7 hF7 => ?_) (fun a ha => by cases ha)
        obtain rfl := List.mem_singleton.mp hce
        have hR7 : nkR (D, nkKds, Γ) y.2.2.1 nks1_W s.heap (nks1_Q1c C Dp) ρ7 H7 l7 ls7 st7 := hR7
        show W p l e R s m args below meth c H7 l7 0 0 _ (F0 m 34 ls7 st7)
        have i3 : ρ7 3 = .int (nI ((1 + C) * (1 + Dp) - 1)) := by
          obtain ⟨r, er, r1, r2⟩ := nk_int (hR7.1.1 3 _ rfl)
          rw [er, nk_nI (x := r) (m := (1 + C) * (1 + Dp) - 1) (by omega)]
        obtain ⟨hR8, hX8, -, -⟩ := nk_ent_ok (nks1_q1 C (by omega) Dp (by omega)) hR7
        exact loop1 _ v ((1 + C) * (1 + Dp) - 1) (nk_pk (4, [3, 2, 1, 0]) ρ7) H7 l7 ls7 st7 rfl (by omega) (by omega) (fun i hi => (hX8 i (Nat.lt_of_lt_of_le hi (by decide))).trans ((hX7 i hi).trans (hX5' i hi))) i3 hR8 (hdf5.kept hF7.2.2.2)
  · obtain rfl := List.mem_singleton.mp ha
    exact zz ρ2 H2 r t hX2 hT2 hF3 hv ht)

