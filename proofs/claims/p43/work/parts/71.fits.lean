/-! fits(), sure(), by hand: printed by h_fits.py -/
def nkf0_sp : List (Nat × nkSp) := [(275, [(17, (2, 0), [11, 0]), (17, (2, 0), [12, 0])])]
def nkf0_F : nkS := (3, [(0, 18446744073709551616, 18446744073709551652), (0, 18446744071562067968, 18446744075857035263), (2, 40, 0)], [], [2], [], [], [])
def nkf0_W : nkWs := [(40, 38, 38), (40, 40, 40), (40, 42, 42), (62, 0, 59), (63, 0, 54), (64, 0, 4), (66, 0, 54), (70, 0, 467), (77, 0, 35)]
def nkf0_en : nkIn := (275, 16, 600, 2, (2, [(0, 18446744071562067968, 18446744075857035263), (2, 40, 0)], [], [], [], [], []), nkf0_W, [nkf0_F])
def nkf0_Z : nkS := (3, [(0, 18446744073709551616, 18446744073709551616), (0, 18446744071562067968, 18446744075857035263), (2, 40, 0)], [], [2], [], [], [])
def nkf0_L0 : nkS := (8, [(0, 18446744073709551617, 18446744073709551622), (2, 46, 0), (0, 18446744073709551617, 18446744073709551622), (2, 44, 0), (0, 18446744073709551616, 18446744073709551616), (0, 18446744073709551616, 18446744073709551616), (0, 18446744071562067968, 18446744075857035263), (2, 40, 0)], [(0, 0), (1, 1), (2, 2), (3, 3)], [], [(0, 11, 4), (4, 0, 5), (0, 12, 6), (6, 0, 7)], [], [])
def nkf0_L : nkS := (8, [(0, 18446744073709551617, 18446744073709551622), (2, 46, 0), (0, 18446744073709551617, 18446744073709551622), (2, 44, 0), (0, 18446744073709551616, 18446744073709551652), (0, 18446744073709551616, 18446744073709551652), (0, 18446744071562067968, 18446744075857035263), (2, 40, 0)], [(0, 0), (1, 1), (2, 2), (3, 3)], [], [(0, 11, 4), (4, 0, 5), (0, 12, 6), (6, 0, 7)], [], [])
theorem nkf0_1 : nk_sgM nkKds [nme_157] nkf0_sp 275 16 600 nkf0_W [(17, nkf0_L0, [])] 2 [nkf0_Z] 3000 (2, [(0, 18446744071562067968, 18446744075857035263), (2, 40, 0)], [(0, 0), (1, 1)], [], [], [], []) 0 = true := by decide +kernel
def nkf0_X (c d : Nat) : nkS := (8, [(0, 18446744073709551617, 18446744073709551622), (2, 46, 0), (0, 18446744073709551617, 18446744073709551622), (2, 44, 0), (0, 18446744073709551616, 18446744073709551615 + (1 + c) * (1 + d)), (0, 18446744073709551616, 18446744073709551652), (0, 18446744071562067968, 18446744075857035263), (2, 40, 0)], [(0, 0), (1, 1), (2, 2), (3, 3)], [1, 3, 0, 2], [(0, 11, 4), (4, 0, 5), (0, 12, 6), (6, 0, 7)], [], [])
def nkf0_R (c d : Nat) : nkS := (8, [(0, 18446744073709551617, 18446744073709551622), (2, 46, 0), (0, 18446744073709551617, 18446744073709551622), (2, 44, 0), (0, 18446744073709551616 + (1 + c) * (1 + d), 18446744073709551652), (0, 18446744073709551616, 18446744073709551652), (0, 18446744071562067968, 18446744075857035263), (2, 40, 0)], [], [2], [(0, 11, 4), (4, 0, 5), (0, 12, 6), (6, 0, 7)], [], [])
theorem nkf0_2 : ∀ c, c < 6 → ∀ d, d < 6 → nk_sgM nkKds [] nkf0_sp 275 16 600 [] [(29, nkf0_X c d, [])] 8 [nkf0_R c d] 3000 (nk_set (nk_set nkf0_L 5 (0, 18446744073709551616 + 1 + c, 18446744073709551616 + 1 + c)) 7 (0, 18446744073709551616 + 1 + d, 18446744073709551616 + 1 + d)) 17 = true := by decide +kernel
def nkf0_Xg : nkS := (8, [(0, 18446744073709551617, 18446744073709551622), (2, 46, 0), (0, 18446744073709551617, 18446744073709551622), (2, 44, 0), (0, 18446744073709551616, 18446744073709551651), (0, 18446744073709551616, 18446744073709551652), (0, 18446744071562067968, 18446744075857035263), (2, 40, 0)], [(0, 0), (1, 1), (2, 2), (3, 3)], [1, 3, 0, 2], [(0, 11, 4), (4, 0, 5), (0, 12, 6), (6, 0, 7)], [], [])
theorem nkf0_x : ∀ c, c < 6 → ∀ d, d < 6 → nk_ent 8 nkf0_Xg (nkf0_X c d) = some (8, nk_idl 8) := by decide +kernel
theorem nkf0_c : ∀ v, v < 36 → nk_calC nkKds 275 16 600 nkf0_W (nk_set nkf0_Xg 3 (0, 18446744073709551616 + v, 18446744073709551616 + v)) 29 (nkd0_en v) = some ((3, [1, 3, 0]), [2]) := by decide +kernel
def nkf0_L50 : nkS := (10, [(0, 18446744073709551617, 18446744073709551652), (0, 18446744073709551616, 18446744073709551653), (0, 18446744073709551617, 18446744073709551622), (2, 46, 0), (0, 18446744073709551617, 18446744073709551622), (2, 44, 0), (0, 18446744073709551616, 18446744073709551651), (0, 18446744073709551616, 18446744073709551652), (0, 18446744071562067968, 18446744075857035263), (2, 40, 0)], [(0, 0), (1, 1), (2, 8), (3, 9)], [], [(0, 11, 4), (4, 0, 5), (0, 12, 6), (6, 0, 7)], [(8, 2, 18446744073709551616), (2, 8, 18446744073709551616), (9, 3, 18446744073709551617), (3, 9, 18446744073709551615)], [])
theorem nkf0_50 : ∀ v, v < 36 → nk_afM (nk_aft (nk_set nkf0_Xg 3 (0, 18446744073709551616 + v, 18446744073709551616 + v)) [2] 3 (3, [1, 3, 0]) [] (nkd0_F v)) (fun S' => decide (S'.2.2.2.1 = [8, 2]) && nk_sgM nkKds [] nkf0_sp 275 16 600 [] [(17, nkf0_L50, [])] 8 [] 3000 (nk_set S' 8 (0, 18446744073709551616, 18446744073709551616)) 32) = true := by decide +kernel
theorem nkf0_60 : nk_ent 2 nkf0_L (nk_set nkf0_L50 8 (0, 18446744073709551616, 18446744073709551652)) = some (8, [7, 6, 5, 4, 9, 8, 1, 0]) := by decide +kernel
def nkf0_L51 : nkS := (10, [(0, 18446744073709551617, 18446744073709551652), (0, 18446744073709551616, 18446744073709551653), (0, 18446744073709551617, 18446744073709551622), (2, 46, 0), (0, 18446744073709551617, 18446744073709551622), (2, 44, 0), (0, 18446744073709551616, 18446744073709551651), (0, 18446744073709551616, 18446744073709551652), (0, 18446744071562067968, 18446744075857035263), (2, 40, 0)], [(0, 0), (1, 1), (2, 8), (3, 9)], [], [(0, 11, 4), (4, 0, 5), (0, 12, 6), (6, 0, 7)], [(8, 2, 18446744073709551617), (2, 8, 18446744073709551615), (9, 3, 18446744073709551617), (3, 9, 18446744073709551615)], [])
theorem nkf0_51 : ∀ v, v < 36 → nk_afM (nk_aft (nk_set nkf0_Xg 3 (0, 18446744073709551616 + v, 18446744073709551616 + v)) [2] 3 (3, [1, 3, 0]) [] (nkd0_F v)) (fun S' => decide (S'.2.2.2.1 = [8, 2]) && nk_sgM nkKds [] nkf0_sp 275 16 600 [] [(17, nkf0_L51, [])] 8 [] 3000 (nk_set S' 8 (0, 18446744073709551617, 18446744073709551617)) 32) = true := by decide +kernel
theorem nkf0_61 : nk_ent 2 nkf0_L (nk_set nkf0_L51 8 (0, 18446744073709551616, 18446744073709551652)) = some (8, [7, 6, 5, 4, 9, 8, 1, 0]) := by decide +kernel
theorem nkf0_r : ∀ c, c < 6 → ∀ d, d < 6 → nk_ent 2 nkf0_F (nkf0_R c d) = some (3, [2, 1, 0]) ∧ nk_stB (nkf0_R c d) = true := by decide +kernel
theorem nkf0_fits : nkMetG nkKds nkf0_en (fun _ _ _ => True) (fun E ρ _ H1 r _ _ => (∃ x : Int32, r = some (.int x)) ∧ ∀ (a : Nat) (k x : Int32), ρ 0 = .ref a → ρ 1 = .int k → r = some (.int x) → x ≠ 0 → nkFtQ E H1 a k 11 12 0) := nk_handG (spt := nkf0_sp) (by decide +kernel) (fun {y lo0} hlo0 {p l e R s m args below meth c cc D Γ ρ ls} hh _ hR => by
  have hl : lo0 = [(0, 0), (1, 1)] := Option.some.inj (hlo0.symm.trans (by decide +kernel))
  subst hl
  obtain ⟨a0, ea0, hΓ0⟩ := nk_rf (hR.1.1 0 _ rfl)
  obtain ⟨kk, ekk, -, -⟩ := nk_int (hR.1.1 1 _ rfl)
  refine nk_segH (nk_cons nmi_157 (nk_nil _)) nkf0_1 (by decide +kernel) hh hR (fun ce hce ρ2 H2 l2 ls2 st2 hX2 hR2 hF2 => ?_) (fun a ha ρ2 H2 r t hX2 hT2 hF2 hF3 hv ht => ?_)
  · obtain rfl := List.mem_singleton.mp hce
    have hR2 : nkR (D, nkKds, Γ) y.2.2.1 nkf0_W s.heap nkf0_L0 ρ2 H2 l2 ls2 st2 := hR2
    show W p l e R s m args below meth c H2 l2 0 0 _ (F0 m 17 ls2 st2)
    obtain ⟨cx, ecx, cx1, cx2⟩ := nk_int (hR2.1.1 5 _ rfl)
    obtain ⟨dx, edx, dx1, dx2⟩ := nk_int (hR2.1.1 7 _ rfl)
    obtain ⟨cn, hcn, ecn, fcn⟩ := nh_nI (x := cx) (by omega)
    obtain ⟨dn, hdn, edn, fdn⟩ := nh_nI (x := dx) (by omega)
    obtain ⟨C, rfl⟩ : ∃ C, cn = 1 + C := ⟨cn - 1, by omega⟩
    obtain ⟨Dp, rfl⟩ : ∃ Dp, dn = 1 + Dp := ⟨dn - 1, by omega⟩
    have hC : C < 6 := by omega
    have hD : Dp < 6 := by omega
    obtain ⟨ca, eca, -⟩ := nk_rf (hR2.1.1 4 _ rfl)
    obtain ⟨da, eda, -⟩ := nk_rf (hR2.1.1 6 _ rfl)
    have hprod : (1 + C) * (1 + Dp) ≤ 36 := by
      have : (1 + C) * (1 + Dp) ≤ 6 * 6 := Nat.mul_le_mul (by omega) (by omega)
      omega
    have loop : ∀ (rem v n : Nat) (ρ3 : Nat → Value) (H3 : Heap) (l3 : List Loc) (ls3 : Array Slot) (st3 : List Value), (1 + C) * (1 + Dp) - v = rem → v ≤ (1 + C) * (1 + Dp) → n ≤ v → nkX 2 ρ ρ3 → ρ3 2 = .int (nI n) → ρ3 3 = .int (nI v) → (∀ i, 4 ≤ i → i < 8 → ρ3 i = ρ2 i) → nkR (D, nkKds, Γ) y.2.2.1 nkf0_W s.heap nkf0_L ρ3 H3 l3 ls3 st3 → (n ≠ 0 → ∃ w, w < (1 + C) * (1 + Dp) ∧ nkDF (D, nkKds, Γ) H3 a0 w kk) → W p l e R s m args below meth c H3 l3 0 0 (MQ below (nkQg (D, nkKds, Γ) nkf0_en.2.2.2.2.2.1 nkf0_en.2.2.2.2.2.2 nkf0_en.2.2.2.2.1.1 ρ (fun _ H1 r _ _ => (∃ x : Int32, r = some (.int x)) ∧ ∀ (a : Nat) (k x : Int32), ρ 0 = .ref a → ρ 1 = .int k → r = some (.int x) → x ≠ 0 → nkFtQ (D, nkKds, Γ) H1 a k 11 12 0)) args s 0 0 (nkA (D, nkKds, Γ))) (F0 m 17 ls3 st3) := by
      intro rem
      induction rem using Nat.strongRecOn with
      | ind rem ih =>
        intro v n ρ3 H3 l3 ls3 st3 hrem hvc hnv hX3 b2 b3 y3 hR3 hdf
        have hR3s := nk_set_ok (nk_set_ok hR3 (i := 5) (v := (0, 18446744073709551616 + 1 + C, 18446744073709551616 + 1 + C)) (by rw [y3 5 (by decide) (by decide), ecx]; exact nk_okI (by omega) (by omega))) (i := 7) (v := (0, 18446744073709551616 + 1 + Dp, 18446744073709551616 + 1 + Dp)) (by rw [y3 7 (by decide) (by decide), edx]; exact nk_okI (by omega) (by omega))
        refine nk_segH (nk_nil _) (nkf0_2 C hC Dp hD) rfl hh hR3s (fun ce hce ρ4 H4 l4 ls4 st4 hX4 hR4 hF4 => ?_) (fun a ha ρ4 H4 r t hX4 hT4 hF4 hF5 hv ht => ?_)
        · obtain rfl := List.mem_singleton.mp hce
          have hR4 : nkR (D, nkKds, Γ) y.2.2.1 nkf0_W s.heap (nkf0_X C Dp) ρ4 H4 l4 ls4 st4 := hR4
          show W p l e R s m args below meth c H4 l4 0 0 _ (F0 m 29 ls4 st4)
          have c3 : ρ4 3 = .int (nI v) := (hX4 3 (by decide)).trans b3
          have h3 := hR4.1.1 3 _ rfl
          rw [c3] at h3
          have h3 := nk_ival h3 (by omega)
          have hv36 : v < 36 := by omega
          have hR5 := (nk_ent_ok (nkf0_x C hC Dp hD) hR4).1
          have py : ∀ i, i < 8 → nk_pk (8, nk_idl 8) ρ4 i = ρ4 i := fun i hi => nk_pk_at (nk_idl_g hi)
          have hR6 := nk_set_ok (i := 3) (v := (0, 18446744073709551616 + v, 18446744073709551616 + v)) hR5 (by rw [py 3 (by decide), c3]; exact nk_okI (by rw [nI_toInt (by omega)]; omega) (by rw [nI_toInt (by omega)]; omega))
          refine nk_callC hh (nkf0_c v hv36) (nkd0_df v hv36) hR6 trivial (fun F hF S' ρ' ρ7 H7 l7 st7 r hS' hX7 hρ hX' hR7 hF7 hG => ?_)
          obtain rfl := List.mem_singleton.mp hF
          obtain ⟨hiff, hr⟩ := hG a0 kk ((py 0 (by decide)).trans ((hX4 0 (by decide)).trans ((hX3 0 (by decide)).trans ea0))) ((py 1 (by decide)).trans ((hX4 1 (by decide)).trans ((hX3 1 (by decide)).trans ekk)))
          have y7 : ∀ i, i < 8 → ρ7 i = ρ3 i := fun i hi => (hX7 i hi).trans ((py i hi).trans (hX4 i hi))
          have hX7' : nkX 2 ρ ρ7 := fun i hi => (y7 i (by omega)).trans (hX3 i hi)
          have kp4 : ∀ {w : Nat}, nkDF (D, nkKds, Γ) H3 a0 w kk → nkDF (D, nkKds, Γ) H4 a0 w kk := fun h => h.kept hF4.2.2.2
          have kp7 : ∀ {w : Nat}, nkDF (D, nkKds, Γ) H4 a0 w kk → nkDF (D, nkKds, Γ) H7 a0 w kk := fun h => h.kept hF7.2.2.2
          rcases hr with hr | hr
          · subst hr
            have h5 := nk_afM_ok (nkf0_51 v hv36) hS'
            rw [Bool.and_eq_true] at h5
            have hs8 : ρ7 8 = .int 1 := by
              have h2 := hR7.2.2.1.1
              rw [of_decide_eq_true h5.1] at h2
              exact (List.head_eq_of_cons_eq h2).symm
            have hR8 := nk_set_ok (i := 8) (v := (0, 18446744073709551617, 18446744073709551617)) hR7 (by rw [hs8]; exact ⟨1, rfl, by decide, by decide⟩)
            refine nk_segH (nk_nil _) h5.2 rfl hh hR8 (fun ce hce ρ9 H9 l9 ls9 st9 hX9 hR9 hF9 => ?_) (fun a ha => by cases ha)
            obtain rfl := List.mem_singleton.mp hce
            have hR9 : nkR (D, nkKds, Γ) y.2.2.1 nkf0_W s.heap nkf0_L51 ρ9 H9 l9 ls9 st9 := hR9
            show W p l e R s m args below meth c H9 l9 0 0 _ (F0 m 17 ls9 st9)
            have y9 : ∀ i, i < 8 → ρ9 i = ρ3 i := fun i hi => (hX9 i hi).trans (y7 i hi)
            have u8 : ρ9 8 = .int (nI (n + 1)) := nk_dval hR9.1.2.2.1 (show (8, 2, 18446744073709551617) ∈ nkf0_L51.2.2.2.2.2.1 by decide) (show (2, 8, 18446744073709551615) ∈ nkf0_L51.2.2.2.2.2.1 by decide) ((y9 2 (by decide)).trans b2) (by omega) (d := 1) (by omega) (by omega) (by omega)
            have u9 : ρ9 9 = .int (nI (v + 1)) := nk_dval hR9.1.2.2.1 (show (9, 3, 18446744073709551617) ∈ nkf0_L51.2.2.2.2.2.1 by decide) (show (3, 9, 18446744073709551615) ∈ nkf0_L51.2.2.2.2.2.1 by decide) ((y9 3 (by decide)).trans b3) (by omega) (d := 1) (by omega) (by omega) (by omega)
            have hRa := nk_set_ok (i := 8) (v := (0, 18446744073709551616, 18446744073709551652)) hR9 (by rw [u8]; exact nk_okI (by rw [nI_toInt (by omega)]; omega) (by rw [nI_toInt (by omega)]; omega))
            obtain ⟨hRb, hXb, -, -⟩ := nk_ent_ok nkf0_61 hRa
            refine ih ((1 + C) * (1 + Dp) - (v + 1)) (by omega) (v + 1) (n + 1) (nk_pk (8, [7, 6, 5, 4, 9, 8, 1, 0]) ρ9) H9 l9 ls9 st9 rfl (by omega) (by omega) (fun i hi => (hXb i hi).trans ((y9 i (by omega)).trans (hX3 i hi))) u8 u9 (fun i h4 h8 => ?_) hRb (fun _ => ⟨v, by omega, ((kp7 (hiff.mp rfl)).kept hF9.2.2.2)⟩)
            have : i = 4 ∨ i = 5 ∨ i = 6 ∨ i = 7 := by omega
            rcases this with rfl | rfl | rfl | rfl
            · exact (y9 4 (by decide)).trans (y3 4 (by decide) (by decide))
            · exact (y9 5 (by decide)).trans (y3 5 (by decide) (by decide))
            · exact (y9 6 (by decide)).trans (y3 6 (by decide) (by decide))
            · exact (y9 7 (by decide)).trans (y3 7 (by decide) (by decide))
          · subst hr
            have h5 := nk_afM_ok (nkf0_50 v hv36) hS'
            rw [Bool.and_eq_true] at h5
            have hs8 : ρ7 8 = .int 0 := by
              have h2 := hR7.2.2.1.1
              rw [of_decide_eq_true h5.1] at h2
              exact (List.head_eq_of_cons_eq h2).symm
            have hR8 := nk_set_ok (i := 8) (v := (0, 18446744073709551616, 18446744073709551616)) hR7 (by rw [hs8]; exact ⟨0, rfl, by decide, by decide⟩)
            refine nk_segH (nk_nil _) h5.2 rfl hh hR8 (fun ce hce ρ9 H9 l9 ls9 st9 hX9 hR9 hF9 => ?_) (fun a ha => by cases ha)
            obtain rfl := List.mem_singleton.mp hce
            have hR9 : nkR (D, nkKds, Γ) y.2.2.1 nkf0_W s.heap nkf0_L50 ρ9 H9 l9 ls9 st9 := hR9
            show W p l e R s m args below meth c H9 l9 0 0 _ (F0 m 17 ls9 st9)
            have y9 : ∀ i, i < 8 → ρ9 i = ρ3 i := fun i hi => (hX9 i hi).trans (y7 i hi)
            have u8 : ρ9 8 = .int (nI n) := nk_dval hR9.1.2.2.1 (show (8, 2, 18446744073709551616) ∈ nkf0_L50.2.2.2.2.2.1 by decide) (show (2, 8, 18446744073709551616) ∈ nkf0_L50.2.2.2.2.2.1 by decide) ((y9 2 (by decide)).trans b2) (by omega) (d := 0) (by omega) (by omega) (by omega)
            have u9 : ρ9 9 = .int (nI (v + 1)) := nk_dval hR9.1.2.2.1 (show (9, 3, 18446744073709551617) ∈ nkf0_L50.2.2.2.2.2.1 by decide) (show (3, 9, 18446744073709551615) ∈ nkf0_L50.2.2.2.2.2.1 by decide) ((y9 3 (by decide)).trans b3) (by omega) (d := 1) (by omega) (by omega) (by omega)
            have hRa := nk_set_ok (i := 8) (v := (0, 18446744073709551616, 18446744073709551652)) hR9 (by rw [u8]; exact nk_okI (by rw [nI_toInt (by omega)]; omega) (by rw [nI_toInt (by omega)]; omega))
            obtain ⟨hRb, hXb, -, -⟩ := nk_ent_ok nkf0_60 hRa
            refine ih ((1 + C) * (1 + Dp) - (v + 1)) (by omega) (v + 1) n (nk_pk (8, [7, 6, 5, 4, 9, 8, 1, 0]) ρ9) H9 l9 ls9 st9 rfl (by omega) (by omega) (fun i hi => (hXb i hi).trans ((y9 i (by omega)).trans (hX3 i hi))) u8 u9 (fun i h4 h8 => ?_) hRb (fun hn => ?_)
            · have : i = 4 ∨ i = 5 ∨ i = 6 ∨ i = 7 := by omega
              rcases this with rfl | rfl | rfl | rfl
              · exact (y9 4 (by decide)).trans (y3 4 (by decide) (by decide))
              · exact (y9 5 (by decide)).trans (y3 5 (by decide) (by decide))
              · exact (y9 6 (by decide)).trans (y3 6 (by decide) (by decide))
              · exact (y9 7 (by decide)).trans (y3 7 (by decide) (by decide))
            · obtain ⟨w, hw, hd⟩ := hdf hn
              exact ⟨w, hw, ((kp7 (kp4 hd)).kept hF9.2.2.2)⟩
        · obtain rfl := List.mem_singleton.mp ha
          have y4 : ∀ i, i < 8 → ρ4 i = ρ3 i := fun i hi => hX4 i hi
          refine nk_finG (F := nkf0_F) (nkf0_r C hC Dp hD).1 (nkf0_r C hC Dp hD).2 hT4 (fun i hi => (y4 i (Nat.lt_of_lt_of_le hi (by decide))).trans (hX3 i hi)) (by decide) (List.mem_singleton.mpr rfl) hv ht hF5 ⟨⟨nI n, by rw [show r = some (ρ4 2) from hv.2, (y4 2 (by decide)).trans b2]⟩, ?_⟩
          intro a k x ea ek hr hx
          rw [ea0] at ea
          cases ea
          rw [ekk] at ek
          cases ek
          have hn : n ≠ 0 := fun q => by
            have h2 : r = some (ρ4 2) := hv.2
            rw [h2, (y4 2 (by decide)).trans b2, q] at hr
            cases hr
            exact hx rfl
          obtain ⟨w, hw, hd⟩ := hdf hn
          have g0 : ρ4 0 = .ref a0 := (y4 0 (by decide)).trans ((hX3 0 (by decide)).trans ea0)
          have g4 : ρ4 4 = .ref ca := (y4 4 (by decide)).trans ((y3 4 (by decide) (by decide)).trans eca)
          have g6 : ρ4 6 = .ref da := (y4 6 (by decide)).trans ((y3 6 (by decide) (by decide)).trans eda)
          have g5 : ρ4 5 = .int (nI (1 + C)) := (y4 5 (by decide)).trans ((y3 5 (by decide) (by decide)).trans (by rw [ecx, ecn]))
          have g7 : ρ4 7 = .int (nI (1 + Dp)) := (y4 7 (by decide)).trans ((y3 7 (by decide) (by decide)).trans (by rw [edx, edn]))
          refine ⟨ca, da, 1 + C, 1 + Dp, w, ?_, ?_, ?_, ?_, by omega, by omega, hw, hd.kept hF4.2.2.2⟩
          · rw [← g4]
            exact nkMe.fd hT4.2.1 (show (0, 11, 4) ∈ (nkf0_R 0 0).2.2.2.2.1 by decide) g0
          · rw [← g5]
            exact nkMe.fd hT4.2.1 (show (4, 0, 5) ∈ (nkf0_R 0 0).2.2.2.2.1 by decide) g4
          · rw [← g6]
            exact nkMe.fd hT4.2.1 (show (0, 12, 6) ∈ (nkf0_R 0 0).2.2.2.2.1 by decide) g0
          · rw [← g7]
            exact nkMe.fd hT4.2.1 (show (6, 0, 7) ∈ (nkf0_R 0 0).2.2.2.2.1 by decide) g6
    obtain ⟨hR3, hX3, -, -⟩ := nk_ent_ok (np := 2) (P := nkf0_L) (σ := (8, [7, 6, 5, 4, 3, 2, 1, 0])) (by decide +kernel) hR2
    have v2 : ρ2 2 = .int (nI 0) := by
      obtain ⟨r, er, r1, r2⟩ := nk_int (hR2.1.1 2 _ rfl)
      rw [er, nk_nI (x := r) (m := 0) (by omega)]
    have v3 : ρ2 3 = .int (nI 0) := by
      obtain ⟨r, er, r1, r2⟩ := nk_int (hR2.1.1 3 _ rfl)
      rw [er, nk_nI (x := r) (m := 0) (by omega)]
    refine loop _ 0 0 (nk_pk (8, [7, 6, 5, 4, 3, 2, 1, 0]) ρ2) H2 l2 ls2 st2 rfl (Nat.zero_le _) (Nat.le_refl _) (fun i hi => (hX3 i hi).trans (hX2 i hi)) v2 v3 (fun i h4 h8 => ?_) hR3 (fun q => absurd rfl q)
    have : i = 4 ∨ i = 5 ∨ i = 6 ∨ i = 7 := by omega
    rcases this with rfl | rfl | rfl | rfl <;> rfl
  · obtain rfl := List.mem_singleton.mp ha
    obtain ⟨r', er, r1, r2⟩ := nk_int (hT2.1 2 _ rfl)
    have h2 : r = some (ρ2 2) := hv.2
    refine nk_finG (F := nkf0_F) (σ := (3, [2, 1, 0])) (by decide +kernel) (by decide +kernel) hT2 hX2 (by decide) (List.mem_singleton.mpr rfl) hv ht hF3 ⟨⟨r', by rw [h2, er]⟩, ?_⟩
    intro a k x ea ek hr hx
    rw [h2, er] at hr
    cases hr
    exact absurd (show r' = 0 by rw [nk_nI (x := r') (m := 0) (by omega)]; rfl) hx)

def nkf1_sp : List (Nat × nkSp) := [(275, [(17, (2, 0), [11, 1]), (17, (2, 0), [12, 1])])]
def nkf1_F : nkS := (3, [(0, 18446744073709551616, 18446744073709551652), (0, 18446744071562067968, 18446744075857035263), (2, 41, 0)], [], [2], [], [], [])
def nkf1_W : nkWs := [(41, 38, 38), (41, 40, 40), (41, 42, 42), (62, 0, 59), (63, 0, 54), (64, 0, 4), (66, 0, 54), (70, 0, 467), (77, 0, 35)]
def nkf1_en : nkIn := (275, 16, 600, 2, (2, [(0, 18446744071562067968, 18446744075857035263), (2, 41, 0)], [], [], [], [], []), nkf1_W, [nkf1_F])
def nkf1_Z : nkS := (3, [(0, 18446744073709551616, 18446744073709551616), (0, 18446744071562067968, 18446744075857035263), (2, 41, 0)], [], [2], [], [], [])
def nkf1_L0 : nkS := (8, [(0, 18446744073709551617, 18446744073709551622), (2, 47, 0), (0, 18446744073709551617, 18446744073709551622), (2, 45, 0), (0, 18446744073709551616, 18446744073709551616), (0, 18446744073709551616, 18446744073709551616), (0, 18446744071562067968, 18446744075857035263), (2, 41, 0)], [(0, 0), (1, 1), (2, 2), (3, 3)], [], [(0, 11, 4), (4, 1, 5), (0, 12, 6), (6, 1, 7)], [], [])
def nkf1_L : nkS := (8, [(0, 18446744073709551617, 18446744073709551622), (2, 47, 0), (0, 18446744073709551617, 18446744073709551622), (2, 45, 0), (0, 18446744073709551616, 18446744073709551652), (0, 18446744073709551616, 18446744073709551652), (0, 18446744071562067968, 18446744075857035263), (2, 41, 0)], [(0, 0), (1, 1), (2, 2), (3, 3)], [], [(0, 11, 4), (4, 1, 5), (0, 12, 6), (6, 1, 7)], [], [])
theorem nkf1_1 : nk_sgM nkKds [nme_338] nkf1_sp 275 16 600 nkf1_W [(17, nkf1_L0, [])] 2 [nkf1_Z] 3000 (2, [(0, 18446744071562067968, 18446744075857035263), (2, 41, 0)], [(0, 0), (1, 1)], [], [], [], []) 0 = true := by decide +kernel
def nkf1_X (c d : Nat) : nkS := (8, [(0, 18446744073709551617, 18446744073709551622), (2, 47, 0), (0, 18446744073709551617, 18446744073709551622), (2, 45, 0), (0, 18446744073709551616, 18446744073709551615 + (1 + c) * (1 + d)), (0, 18446744073709551616, 18446744073709551652), (0, 18446744071562067968, 18446744075857035263), (2, 41, 0)], [(0, 0), (1, 1), (2, 2), (3, 3)], [1, 3, 0, 2], [(0, 11, 4), (4, 1, 5), (0, 12, 6), (6, 1, 7)], [], [])
def nkf1_R (c d : Nat) : nkS := (8, [(0, 18446744073709551617, 18446744073709551622), (2, 47, 0), (0, 18446744073709551617, 18446744073709551622), (2, 45, 0), (0, 18446744073709551616 + (1 + c) * (1 + d), 18446744073709551652), (0, 18446744073709551616, 18446744073709551652), (0, 18446744071562067968, 18446744075857035263), (2, 41, 0)], [], [2], [(0, 11, 4), (4, 1, 5), (0, 12, 6), (6, 1, 7)], [], [])
theorem nkf1_2 : ∀ c, c < 6 → ∀ d, d < 6 → nk_sgM nkKds [] nkf1_sp 275 16 600 [] [(29, nkf1_X c d, [])] 8 [nkf1_R c d] 3000 (nk_set (nk_set nkf1_L 5 (0, 18446744073709551616 + 1 + c, 18446744073709551616 + 1 + c)) 7 (0, 18446744073709551616 + 1 + d, 18446744073709551616 + 1 + d)) 17 = true := by decide +kernel
def nkf1_Xg : nkS := (8, [(0, 18446744073709551617, 18446744073709551622), (2, 47, 0), (0, 18446744073709551617, 18446744073709551622), (2, 45, 0), (0, 18446744073709551616, 18446744073709551651), (0, 18446744073709551616, 18446744073709551652), (0, 18446744071562067968, 18446744075857035263), (2, 41, 0)], [(0, 0), (1, 1), (2, 2), (3, 3)], [1, 3, 0, 2], [(0, 11, 4), (4, 1, 5), (0, 12, 6), (6, 1, 7)], [], [])
theorem nkf1_x : ∀ c, c < 6 → ∀ d, d < 6 → nk_ent 8 nkf1_Xg (nkf1_X c d) = some (8, nk_idl 8) := by decide +kernel
theorem nkf1_c : ∀ v, v < 36 → nk_calC nkKds 275 16 600 nkf1_W (nk_set nkf1_Xg 3 (0, 18446744073709551616 + v, 18446744073709551616 + v)) 29 (nkd1_en v) = some ((3, [1, 3, 0]), [2]) := by decide +kernel
def nkf1_L50 : nkS := (10, [(0, 18446744073709551617, 18446744073709551652), (0, 18446744073709551616, 18446744073709551653), (0, 18446744073709551617, 18446744073709551622), (2, 47, 0), (0, 18446744073709551617, 18446744073709551622), (2, 45, 0), (0, 18446744073709551616, 18446744073709551651), (0, 18446744073709551616, 18446744073709551652), (0, 18446744071562067968, 18446744075857035263), (2, 41, 0)], [(0, 0), (1, 1), (2, 8), (3, 9)], [], [(0, 11, 4), (4, 1, 5), (0, 12, 6), (6, 1, 7)], [(8, 2, 18446744073709551616), (2, 8, 18446744073709551616), (9, 3, 18446744073709551617), (3, 9, 18446744073709551615)], [])
theorem nkf1_50 : ∀ v, v < 36 → nk_afM (nk_aft (nk_set nkf1_Xg 3 (0, 18446744073709551616 + v, 18446744073709551616 + v)) [2] 3 (3, [1, 3, 0]) [] (nkd1_F v)) (fun S' => decide (S'.2.2.2.1 = [8, 2]) && nk_sgM nkKds [] nkf1_sp 275 16 600 [] [(17, nkf1_L50, [])] 8 [] 3000 (nk_set S' 8 (0, 18446744073709551616, 18446744073709551616)) 32) = true := by decide +kernel
theorem nkf1_60 : nk_ent 2 nkf1_L (nk_set nkf1_L50 8 (0, 18446744073709551616, 18446744073709551652)) = some (8, [7, 6, 5, 4, 9, 8, 1, 0]) := by decide +kernel
def nkf1_L51 : nkS := (10, [(0, 18446744073709551617, 18446744073709551652), (0, 18446744073709551616, 18446744073709551653), (0, 18446744073709551617, 18446744073709551622), (2, 47, 0), (0, 18446744073709551617, 18446744073709551622), (2, 45, 0), (0, 18446744073709551616, 18446744073709551651), (0, 18446744073709551616, 18446744073709551652), (0, 18446744071562067968, 18446744075857035263), (2, 41, 0)], [(0, 0), (1, 1), (2, 8), (3, 9)], [], [(0, 11, 4), (4, 1, 5), (0, 12, 6), (6, 1, 7)], [(8, 2, 18446744073709551617), (2, 8, 18446744073709551615), (9, 3, 18446744073709551617), (3, 9, 18446744073709551615)], [])
theorem nkf1_51 : ∀ v, v < 36 → nk_afM (nk_aft (nk_set nkf1_Xg 3 (0, 18446744073709551616 + v, 18446744073709551616 + v)) [2] 3 (3, [1, 3, 0]) [] (nkd1_F v)) (fun S' => decide (S'.2.2.2.1 = [8, 2]) && nk_sgM nkKds [] nkf1_sp 275 16 600 [] [(17, nkf1_L51, [])] 8 [] 3000 (nk_set S' 8 (0, 18446744073709551617, 18446744073709551617)) 32) = true := by decide +kernel
theorem nkf1_61 : nk_ent 2 nkf1_L (nk_set nkf1_L51 8 (0, 18446744073709551616, 18446744073709551652)) = some (8, [7, 6, 5, 4, 9, 8, 1, 0]) := by decide +kernel
theorem nkf1_r : ∀ c, c < 6 → ∀ d, d < 6 → nk_ent 2 nkf1_F (nkf1_R c d) = some (3, [2, 1, 0]) ∧ nk_stB (nkf1_R c d) = true := by decide +kernel
theorem nkf1_fits : nkMetG nkKds nkf1_en (fun _ _ _ => True) (fun E ρ _ H1 r _ _ => (∃ x : Int32, r = some (.int x)) ∧ ∀ (a : Nat) (k x : Int32), ρ 0 = .ref a → ρ 1 = .int k → r = some (.int x) → x ≠ 0 → nkFtQ E H1 a k 11 12 1) := nk_handG (spt := nkf1_sp) (by decide +kernel) (fun {y lo0} hlo0 {p l e R s m args below meth c cc D Γ ρ ls} hh _ hR => by
  have hl : lo0 = [(0, 0), (1, 1)] := Option.some.inj (hlo0.symm.trans (by decide +kernel))
  subst hl
  obtain ⟨a0, ea0, hΓ0⟩ := nk_rf (hR.1.1 0 _ rfl)
  obtain ⟨kk, ekk, -, -⟩ := nk_int (hR.1.1 1 _ rfl)
  refine nk_segH (nk_cons nmi_338 (nk_nil _)) nkf1_1 (by decide +kernel) hh hR (fun ce hce ρ2 H2 l2 ls2 st2 hX2 hR2 hF2 => ?_) (fun a ha ρ2 H2 r t hX2 hT2 hF2 hF3 hv ht => ?_)
  · obtain rfl := List.mem_singleton.mp hce
    have hR2 : nkR (D, nkKds, Γ) y.2.2.1 nkf1_W s.heap nkf1_L0 ρ2 H2 l2 ls2 st2 := hR2
    show W p l e R s m args below meth c H2 l2 0 0 _ (F0 m 17 ls2 st2)
    obtain ⟨cx, ecx, cx1, cx2⟩ := nk_int (hR2.1.1 5 _ rfl)
    obtain ⟨dx, edx, dx1, dx2⟩ := nk_int (hR2.1.1 7 _ rfl)
    obtain ⟨cn, hcn, ecn, fcn⟩ := nh_nI (x := cx) (by omega)
    obtain ⟨dn, hdn, edn, fdn⟩ := nh_nI (x := dx) (by omega)
    obtain ⟨C, rfl⟩ : ∃ C, cn = 1 + C := ⟨cn - 1, by omega⟩
    obtain ⟨Dp, rfl⟩ : ∃ Dp, dn = 1 + Dp := ⟨dn - 1, by omega⟩
    have hC : C < 6 := by omega
    have hD : Dp < 6 := by omega
    obtain ⟨ca, eca, -⟩ := nk_rf (hR2.1.1 4 _ rfl)
    obtain ⟨da, eda, -⟩ := nk_rf (hR2.1.1 6 _ rfl)
    have hprod : (1 + C) * (1 + Dp) ≤ 36 := by
      have : (1 + C) * (1 + Dp) ≤ 6 * 6 := Nat.mul_le_mul (by omega) (by omega)
      omega
    have loop : ∀ (rem v n : Nat) (ρ3 : Nat → Value) (H3 : Heap) (l3 : List Loc) (ls3 : Array Slot) (st3 : List Value), (1 + C) * (1 + Dp) - v = rem → v ≤ (1 + C) * (1 + Dp) → n ≤ v → nkX 2 ρ ρ3 → ρ3 2 = .int (nI n) → ρ3 3 = .int (nI v) → (∀ i, 4 ≤ i → i < 8 → ρ3 i = ρ2 i) → nkR (D, nkKds, Γ) y.2.2.1 nkf1_W s.heap nkf1_L ρ3 H3 l3 ls3 st3 → (n ≠ 0 → ∃ w, w < (1 + C) * (1 + Dp) ∧ nkDF (D, nkKds, Γ) H3 a0 w kk) → W p l e R s m args below meth c H3 l3 0 0 (MQ below (nkQg (D, nkKds, Γ) nkf1_en.2.2.2.2.2.1 nkf1_en.2.2.2.2.2.2 nkf1_en.2.2.2.2.1.1 ρ (fun _ H1 r _ _ => (∃ x : Int32, r = some (.int x)) ∧ ∀ (a : Nat) (k x : Int32), ρ 0 = .ref a → ρ 1 = .int k → r = some (.int x) → x ≠ 0 → nkFtQ (D, nkKds, Γ) H1 a k 11 12 1)) args s 0 0 (nkA (D, nkKds, Γ))) (F0 m 17 ls3 st3) := by
      intro rem
      induction rem using Nat.strongRecOn with
      | ind rem ih =>
        intro v n ρ3 H3 l3 ls3 st3 hrem hvc hnv hX3 b2 b3 y3 hR3 hdf
        have hR3s := nk_set_ok (nk_set_ok hR3 (i := 5) (v := (0, 18446744073709551616 + 1 + C, 18446744073709551616 + 1 + C)) (by rw [y3 5 (by decide) (by decide), ecx]; exact nk_okI (by omega) (by omega))) (i := 7) (v := (0, 18446744073709551616 + 1 + Dp, 18446744073709551616 + 1 + Dp)) (by rw [y3 7 (by decide) (by decide), edx]; exact nk_okI (by omega) (by omega))
        refine nk_segH (nk_nil _) (nkf1_2 C hC Dp hD) rfl hh hR3s (fun ce hce ρ4 H4 l4 ls4 st4 hX4 hR4 hF4 => ?_) (fun a ha ρ4 H4 r t hX4 hT4 hF4 hF5 hv ht => ?_)
        · obtain rfl := List.mem_singleton.mp hce
          have hR4 : nkR (D, nkKds, Γ) y.2.2.1 nkf1_W s.heap (nkf1_X C Dp) ρ4 H4 l4 ls4 st4 := hR4
          show W p l e R s m args below meth c H4 l4 0 0 _ (F0 m 29 ls4 st4)
          have c3 : ρ4 3 = .int (nI v) := (hX4 3 (by decide)).trans b3
          have h3 := hR4.1.1 3 _ rfl
          rw [c3] at h3
          have h3 := nk_ival h3 (by omega)
          have hv36 : v < 36 := by omega
          have hR5 := (nk_ent_ok (nkf1_x C hC Dp hD) hR4).1
          have py : ∀ i, i < 8 → nk_pk (8, nk_idl 8) ρ4 i = ρ4 i := fun i hi => nk_pk_at (nk_idl_g hi)
          have hR6 := nk_set_ok (i := 3) (v := (0, 18446744073709551616 + v, 18446744073709551616 + v)) hR5 (by rw [py 3 (by decide), c3]; exact nk_okI (by rw [nI_toInt (by omega)]; omega) (by rw [nI_toInt (by omega)]; omega))
          refine nk_callC hh (nkf1_c v hv36) (nkd1_df v hv36) hR6 trivial (fun F hF S' ρ' ρ7 H7 l7 st7 r hS' hX7 hρ hX' hR7 hF7 hG => ?_)
          obtain rfl := List.mem_singleton.mp hF
          obtain ⟨hiff, hr⟩ := hG a0 kk ((py 0 (by decide)).trans ((hX4 0 (by decide)).trans ((hX3 0 (by decide)).trans ea0))) ((py 1 (by decide)).trans ((hX4 1 (by decide)).trans ((hX3 1 (by decide)).trans ekk)))
          have y7 : ∀ i, i < 8 → ρ7 i = ρ3 i := fun i hi => (hX7 i hi).trans ((py i hi).trans (hX4 i hi))
          have hX7' : nkX 2 ρ ρ7 := fun i hi => (y7 i (by omega)).trans (hX3 i hi)
          have kp4 : ∀ {w : Nat}, nkDF (D, nkKds, Γ) H3 a0 w kk → nkDF (D, nkKds, Γ) H4 a0 w kk := fun h => h.kept hF4.2.2.2
          have kp7 : ∀ {w : Nat}, nkDF (D, nkKds, Γ) H4 a0 w kk → nkDF (D, nkKds, Γ) H7 a0 w kk := fun h => h.kept hF7.2.2.2
          rcases hr with hr | hr
          · subst hr
            have h5 := nk_afM_ok (nkf1_51 v hv36) hS'
            rw [Bool.and_eq_true] at h5
            have hs8 : ρ7 8 = .int 1 := by
              have h2 := hR7.2.2.1.1
              rw [of_decide_eq_true h5.1] at h2
              exact (List.head_eq_of_cons_eq h2).symm
            have hR8 := nk_set_ok (i := 8) (v := (0, 18446744073709551617, 18446744073709551617)) hR7 (by rw [hs8]; exact ⟨1, rfl, by decide, by decide⟩)
            refine nk_segH (nk_nil _) h5.2 rfl hh hR8 (fun ce hce ρ9 H9 l9 ls9 st9 hX9 hR9 hF9 => ?_) (fun a ha => by cases ha)
            obtain rfl := List.mem_singleton.mp hce
            have hR9 : nkR (D, nkKds, Γ) y.2.2.1 nkf1_W s.heap nkf1_L51 ρ9 H9 l9 ls9 st9 := hR9
            show W p l e R s m args below meth c H9 l9 0 0 _ (F0 m 17 ls9 st9)
            have y9 : ∀ i, i < 8 → ρ9 i = ρ3 i := fun i hi => (hX9 i hi).trans (y7 i hi)
            have u8 : ρ9 8 = .int (nI (n + 1)) := nk_dval hR9.1.2.2.1 (show (8, 2, 18446744073709551617) ∈ nkf1_L51.2.2.2.2.2.1 by decide) (show (2, 8, 18446744073709551615) ∈ nkf1_L51.2.2.2.2.2.1 by decide) ((y9 2 (by decide)).trans b2) (by omega) (d := 1) (by omega) (by omega) (by omega)
            have u9 : ρ9 9 = .int (nI (v + 1)) := nk_dval hR9.1.2.2.1 (show (9, 3, 18446744073709551617) ∈ nkf1_L51.2.2.2.2.2.1 by decide) (show (3, 9, 18446744073709551615) ∈ nkf1_L51.2.2.2.2.2.1 by decide) ((y9 3 (by decide)).trans b3) (by omega) (d := 1) (by omega) (by omega) (by omega)
            have hRa := nk_set_ok (i := 8) (v := (0, 18446744073709551616, 18446744073709551652)) hR9 (by rw [u8]; exact nk_okI (by rw [nI_toInt (by omega)]; omega) (by rw [nI_toInt (by omega)]; omega))
            obtain ⟨hRb, hXb, -, -⟩ := nk_ent_ok nkf1_61 hRa
            refine ih ((1 + C) * (1 + Dp) - (v + 1)) (by omega) (v + 1) (n + 1) (nk_pk (8, [7, 6, 5, 4, 9, 8, 1, 0]) ρ9) H9 l9 ls9 st9 rfl (by omega) (by omega) (fun i hi => (hXb i hi).trans ((y9 i (by omega)).trans (hX3 i hi))) u8 u9 (fun i h4 h8 => ?_) hRb (fun _ => ⟨v, by omega, ((kp7 (hiff.mp rfl)).kept hF9.2.2.2)⟩)
            have : i = 4 ∨ i = 5 ∨ i = 6 ∨ i = 7 := by omega
            rcases this with rfl | rfl | rfl | rfl
            · exact (y9 4 (by decide)).trans (y3 4 (by decide) (by decide))
            · exact (y9 5 (by decide)).trans (y3 5 (by decide) (by decide))
            · exact (y9 6 (by decide)).trans (y3 6 (by decide) (by decide))
            · exact (y9 7 (by decide)).trans (y3 7 (by decide) (by decide))
          · subst hr
            have h5 := nk_afM_ok (nkf1_50 v hv36) hS'
            rw [Bool.and_eq_true] at h5
            have hs8 : ρ7 8 = .int 0 := by
              have h2 := hR7.2.2.1.1
              rw [of_decide_eq_true h5.1] at h2
              exact (List.head_eq_of_cons_eq h2).symm
            have hR8 := nk_set_ok (i := 8) (v := (0, 18446744073709551616, 18446744073709551616)) hR7 (by rw [hs8]; exact ⟨0, rfl, by decide, by decide⟩)
            refine nk_segH (nk_nil _) h5.2 rfl hh hR8 (fun ce hce ρ9 H9 l9 ls9 st9 hX9 hR9 hF9 => ?_) (fun a ha => by cases ha)
            obtain rfl := List.mem_singleton.mp hce
            have hR9 : nkR (D, nkKds, Γ) y.2.2.1 nkf1_W s.heap nkf1_L50 ρ9 H9 l9 ls9 st9 := hR9
            show W p l e R s m args below meth c H9 l9 0 0 _ (F0 m 17 ls9 st9)
            have y9 : ∀ i, i < 8 → ρ9 i = ρ3 i := fun i hi => (hX9 i hi).trans (y7 i hi)
            have u8 : ρ9 8 = .int (nI n) := nk_dval hR9.1.2.2.1 (show (8, 2, 18446744073709551616) ∈ nkf1_L50.2.2.2.2.2.1 by decide) (show (2, 8, 18446744073709551616) ∈ nkf1_L50.2.2.2.2.2.1 by decide) ((y9 2 (by decide)).trans b2) (by omega) (d := 0) (by omega) (by omega) (by omega)
            have u9 : ρ9 9 = .int (nI (v + 1)) := nk_dval hR9.1.2.2.1 (show (9, 3, 18446744073709551617) ∈ nkf1_L50.2.2.2.2.2.1 by decide) (show (3, 9, 18446744073709551615) ∈ nkf1_L50.2.2.2.2.2.1 by decide) ((y9 3 (by decide)).trans b3) (by omega) (d := 1) (by omega) (by omega) (by omega)
            have hRa := nk_set_ok (i := 8) (v := (0, 18446744073709551616, 18446744073709551652)) hR9 (by rw [u8]; exact nk_okI (by rw [nI_toInt (by omega)]; omega) (by rw [nI_toInt (by omega)]; omega))
            obtain ⟨hRb, hXb, -, -⟩ := nk_ent_ok nkf1_60 hRa
            refine ih ((1 + C) * (1 + Dp) - (v + 1)) (by omega) (v + 1) n (nk_pk (8, [7, 6, 5, 4, 9, 8, 1, 0]) ρ9) H9 l9 ls9 st9 rfl (by omega) (by omega) (fun i hi => (hXb i hi).trans ((y9 i (by omega)).trans (hX3 i hi))) u8 u9 (fun i h4 h8 => ?_) hRb (fun hn => ?_)
            · have : i = 4 ∨ i = 5 ∨ i = 6 ∨ i = 7 := by omega
              rcases this with rfl | rfl | rfl | rfl
              · exact (y9 4 (by decide)).trans (y3 4 (by decide) (by decide))
              · exact (y9 5 (by decide)).trans (y3 5 (by decide) (by decide))
              · exact (y9 6 (by decide)).trans (y3 6 (by decide) (by decide))
              · exact (y9 7 (by decide)).trans (y3 7 (by decide) (by decide))
            · obtain ⟨w, hw, hd⟩ := hdf hn
              exact ⟨w, hw, ((kp7 (kp4 hd)).kept hF9.2.2.2)⟩
        · obtain rfl := List.mem_singleton.mp ha
          have y4 : ∀ i, i < 8 → ρ4 i = ρ3 i := fun i hi => hX4 i hi
          refine nk_finG (F := nkf1_F) (nkf1_r C hC Dp hD).1 (nkf1_r C hC Dp hD).2 hT4 (fun i hi => (y4 i (Nat.lt_of_lt_of_le hi (by decide))).trans (hX3 i hi)) (by decide) (List.mem_singleton.mpr rfl) hv ht hF5 ⟨⟨nI n, by rw [show r = some (ρ4 2) from hv.2, (y4 2 (by decide)).trans b2]⟩, ?_⟩
          intro a k x ea ek hr hx
          rw [ea0] at ea
          cases ea
          rw [ekk] at ek
          cases ek
          have hn : n ≠ 0 := fun q => by
            have h2 : r = some (ρ4 2) := hv.2
            rw [h2, (y4 2 (by decide)).trans b2, q] at hr
            cases hr
            exact hx rfl
          obtain ⟨w, hw, hd⟩ := hdf hn
          have g0 : ρ4 0 = .ref a0 := (y4 0 (by decide)).trans ((hX3 0 (by decide)).trans ea0)
          have g4 : ρ4 4 = .ref ca := (y4 4 (by decide)).trans ((y3 4 (by decide) (by decide)).trans eca)
          have g6 : ρ4 6 = .ref da := (y4 6 (by decide)).trans ((y3 6 (by decide) (by decide)).trans eda)
          have g5 : ρ4 5 = .int (nI (1 + C)) := (y4 5 (by decide)).trans ((y3 5 (by decide) (by decide)).trans (by rw [ecx, ecn]))
          have g7 : ρ4 7 = .int (nI (1 + Dp)) := (y4 7 (by decide)).trans ((y3 7 (by decide) (by decide)).trans (by rw [edx, edn]))
          refine ⟨ca, da, 1 + C, 1 + Dp, w, ?_, ?_, ?_, ?_, by omega, by omega, hw, hd.kept hF4.2.2.2⟩
          · rw [← g4]
            exact nkMe.fd hT4.2.1 (show (0, 11, 4) ∈ (nkf1_R 0 0).2.2.2.2.1 by decide) g0
          · rw [← g5]
            exact nkMe.fd hT4.2.1 (show (4, 1, 5) ∈ (nkf1_R 0 0).2.2.2.2.1 by decide) g4
          · rw [← g6]
            exact nkMe.fd hT4.2.1 (show (0, 12, 6) ∈ (nkf1_R 0 0).2.2.2.2.1 by decide) g0
          · rw [← g7]
            exact nkMe.fd hT4.2.1 (show (6, 1, 7) ∈ (nkf1_R 0 0).2.2.2.2.1 by decide) g6
    obtain ⟨hR3, hX3, -, -⟩ := nk_ent_ok (np := 2) (P := nkf1_L) (σ := (8, [7, 6, 5, 4, 3, 2, 1, 0])) (by decide +kernel) hR2
    have v2 : ρ2 2 = .int (nI 0) := by
      obtain ⟨r, er, r1, r2⟩ := nk_int (hR2.1.1 2 _ rfl)
      rw [er, nk_nI (x := r) (m := 0) (by omega)]
    have v3 : ρ2 3 = .int (nI 0) := by
      obtain ⟨r, er, r1, r2⟩ := nk_int (hR2.1.1 3 _ rfl)
      rw [er, nk_nI (x := r) (m := 0) (by omega)]
    refine loop _ 0 0 (nk_pk (8, [7, 6, 5, 4, 3, 2, 1, 0]) ρ2) H2 l2 ls2 st2 rfl (Nat.zero_le _) (Nat.le_refl _) (fun i hi => (hX3 i hi).trans (hX2 i hi)) v2 v3 (fun i h4 h8 => ?_) hR3 (fun q => absurd rfl q)
    have : i = 4 ∨ i = 5 ∨ i = 6 ∨ i = 7 := by omega
    rcases this with rfl | rfl | rfl | rfl <;> rfl
  · obtain rfl := List.mem_singleton.mp ha
    obtain ⟨r', er, r1, r2⟩ := nk_int (hT2.1 2 _ rfl)
    have h2 : r = some (ρ2 2) := hv.2
    refine nk_finG (F := nkf1_F) (σ := (3, [2, 1, 0])) (by decide +kernel) (by decide +kernel) hT2 hX2 (by decide) (List.mem_singleton.mpr rfl) hv ht hF3 ⟨⟨r', by rw [h2, er]⟩, ?_⟩
    intro a k x ea ek hr hx
    rw [h2, er] at hr
    cases hr
    exact absurd (show r' = 0 by rw [nk_nI (x := r') (m := 0) (by omega)]; rfl) hx)

