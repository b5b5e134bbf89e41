/-! later() before the first land(): printed by h_later.py -/
def nlR_E : nkS := (2, [(0, 18446744071562067968, 18446744075857035263), (2, 10, 0)], [(0, 0), (1, 1)], [], [], [], [])
def nlR_X1 : nkS := (3, [(0, 18446744071562067968, 18446744075857035263), (0, 18446744073709551616, 18446744073709552616), (2, 10, 0)], [(0, 0), (1, 1)], [1, 2], [(0, 14, 2)], [], [])
def nlR_Z1 : nkS := (3, [(0, 18446744073709551615, 18446744073709551615), (0, 18446744071562067968, 18446744073709551615), (2, 10, 0)], [], [2], [], [], [])
def nlR_Z2 : nkS := (3, [(0, 18446744073709551615, 18446744073709551615), (0, 18446744073709552617, 18446744075857035263), (2, 10, 0)], [], [2], [], [], [])
def nlR_X2 : nkS := (4, [(0, 18446744071562067968, 18446744073709651616), (0, 18446744071562067968, 18446744075857035263), (0, 18446744073709551616, 18446744073709552616), (2, 10, 0)], [(0, 0), (1, 1)], [1, 2, 0], [(0, 14, 2)], [], [])
def nlR_Z3 : nkS := (5, [(0, 18446744073709551615, 18446744073709551615), (0, 18446744073709651617, 18446744075857035263), (0, 18446744071562067968, 18446744075857035263), (0, 18446744073709551616, 18446744073709552616), (2, 10, 0)], [], [4], [], [], [])
def nlR_Z4 : nkS := (5, [(0, 18446744071562067968, 18446744075857035263), (0, 18446744071562067968, 18446744073709651616), (0, 18446744071562067968, 18446744075857035263), (0, 18446744073709551616, 18446744073709552616), (2, 10, 0)], [], [4], [(0, 14, 4)], [], [])
def nlR_F : nkS := (3, [(0, 18446744071562067968, 18446744075857035263), (0, 18446744071562067968, 18446744075857035263), (2, 10, 0)], [], [2], [], [], [])
def nlR_en : nkIn := (146, 0, 0, 2, (2, [(0, 18446744071562067968, 18446744075857035263), (2, 10, 0)], [], [], [], [], []), [(10, 14, 14)], [nlR_F])
theorem nlR_1 : nk_sgM nkKdL [] [] 146 0 0 [] [(16, nlR_X1, [])] 2 [nlR_Z1, nlR_Z2] 3000 nlR_E 0 = true := by decide +kernel
theorem nlR_2 : nk_sgM nkKdL [] [] 146 0 0 [] [(31, nlR_X2, [])] 4 [nlR_Z3] 3000 (nk_push nlR_X1 [] nk_fl) 17 = true := by decide +kernel
theorem nlR_3 : nk_sgM nkKdL [] [] 146 0 0 [(10, 14, 14)] [] 5 [nlR_Z4] 3000 (nk_push nlR_X2 [0] nk_fl) 32 = true := by decide +kernel
theorem nlR_later : nkMetG nkKdL nlR_en (fun _ _ _ => True) (fun E ρ H H1 v _ _ => nkLaQ 14 E ρ H H1 v) := nk_handG (spt := []) (by decide +kernel) (fun {y lo0} hlo0 {p l e R s m args below meth c cc D Γ ρ ls} hh _ hR => by
  have hl : lo0 = [(0, 0), (1, 1)] := Option.some.inj (hlo0.symm.trans (by decide +kernel))
  subst hl
  have hx := hh.2.1.1.1
  have hb := hh.2.1.1.2.1
  have fin : ∀ {P : nkS} {σ : nkSg}, nk_ent 2 nlR_F P = some σ → nk_stB P = true → ∀ {ρ2 : Nat → Value} {H2 : Heap} {v : Option Value} {u : State}, nkT (D, nkKdL, Γ) P ρ2 H2 → nkX 2 ρ ρ2 → nkRt P ρ2 v → u.heap = H2 → nkFr (D, nkKdL, Γ) nlR_en.2.2.2.2.2.1 s.heap H2 [] → nkLaQ 14 (D, nkKdL, Γ) ρ s.heap H2 v → nkQg (D, nkKdL, Γ) nlR_en.2.2.2.2.2.1 nlR_en.2.2.2.2.2.2 nlR_en.2.2.2.2.1.1 ρ (fun H H1 v _ _ => nkLaQ 14 (D, nkKdL, Γ) ρ H H1 v) args s (.returned v) u := fun {P σ} hent hst {ρ2 H2 v u} hT hX hv hu hF hQ => nk_finG hent hst hT hX (by decide) (List.mem_singleton.mpr rfl) hv hu hF hQ
  have nok : ∀ {ρ2 : Nat → Value} {H2 : Heap} {v : Option Value} {r : Nat}, nkX 2 ρ ρ2 → nkFr (D, nkKdL, Γ) [] s.heap H2 [] → v = some (ρ2 r) → ρ2 r = .int (-1) → (∀ (n t a : _), ρ2 1 = .int n → ρ2 0 = .ref a → nkFd (D, nkKdL, Γ) s.heap a 14 (.int t) → ¬ la_ok t n) → nkLaQ 14 (D, nkKdL, Γ) ρ s.heap H2 v := fun {ρ2 H2 v r} hX hF hv hr hn a n t e0 e1 h0 => by
    have h1 := hn n t a ((hX 1 (by decide)).trans e1) ((hX 0 (by decide)).trans e0) h0
    exact ⟨fun h => absurd h h1, fun _ => ⟨by rw [hv, hr], h0.kept hF.2.2.2 rfl⟩⟩
  refine nk_segH (nk_nil _) nlR_1 (show nk_sub [] nlR_en.2.2.2.2.2.1 = true by decide +kernel) hh hR (fun ce hce ρ2 H2 l2 ls2 st2 hX2 hR2 hF2 => ?_) (fun z hz ρ2 H2 v u hX2 hT2 hF2 hF3 hv hu => ?_)
  · obtain rfl := List.mem_singleton.mp hce
    have hR2 : nkR (D, nkKdL, Γ) y.2.2.1 nlR_en.2.2.2.2.2.1 s.heap nlR_X1 ρ2 H2 l2 ls2 st2 := hR2
    show W p l e R s m args below meth c H2 l2 0 0 _ (F0 m 16 ls2 st2)
    obtain ⟨t0, et, -, -⟩ := nk_int (hR2.1.1 2 _ rfl)
    obtain ⟨n0, en0, n1, n2⟩ := nk_int (hR2.1.1 1 _ rfl)
    obtain ⟨a0, ea0, -⟩ := nk_rf (hR2.1.1 0 _ rfl)
    have hfd2 := hR2.1.2.1.fd (show (0, 14, 2) ∈ nlR_X1.2.2.2.2.1 by decide) ea0
    have hst : st2 = [ρ2 1, ρ2 2] := hR2.2.2.1.1
    rw [hst, et, en0]
    refine lv_iadd hx hb (hh.2.1.2.2.1 16 (.iadd, 1) (show nk_dk (nk_nD nhDa 146 []) 16 = some (.iadd, 1) by decide +kernel)) ?_
    have hR3 := nk_push_ok (v := nk_fl) (x := .int (t0 + n0)) hR2 (rest := []) (xs := []) ⟨rfl, fun i hi => by cases hi⟩ (nk_fl_ok _ _)
    refine nk_segH (nk_nil _) nlR_2 (show nk_sub [] nlR_en.2.2.2.2.2.1 = true by decide +kernel) hh hR3 (fun ce hce ρ4 H4 l4 ls4 st4 hX4 hR4 hF4 => ?_) (fun z hz ρ4 H4 v u hX4 hT4 hF4 hF5 hv hu => ?_)
    · obtain rfl := List.mem_singleton.mp hce
      have hR4 : nkR (D, nkKdL, Γ) y.2.2.1 nlR_en.2.2.2.2.2.1 s.heap nlR_X2 ρ4 H4 l4 ls4 st4 := hR4
      show W p l e R s m args below meth c H4 l4 0 0 _ (F0 m 31 ls4 st4)
      have w0 : ρ4 0 = ρ2 0 := hX4 0 (by decide)
      have w1 : ρ4 1 = .int n0 := (hX4 1 (by decide)).trans en0
      have w2 : ρ4 2 = .int t0 := (hX4 2 (by decide)).trans et
      have w3 : ρ4 3 = .int (t0 + n0) := hX4 3 (by decide)
      obtain ⟨s0, es, -, s2⟩ := nk_int (hR4.1.1 3 _ rfl)
      rw [w3] at es
      cases es
      have hst4 : st4 = [ρ4 1, ρ4 2, ρ4 0] := hR4.2.2.1.1
      rw [hst4, w1, w2]
      refine lv_iadd hx hb (hh.2.1.2.2.1 31 (.iadd, 1) (show nk_dk (nk_nD nhDa 146 []) 31 = some (.iadd, 1) by decide +kernel)) ?_
      have hR5 := nk_push_ok (v := nk_fl) (x := .int (t0 + n0)) hR4 (rest := [0]) (xs := [ρ4 0]) ⟨rfl, fun i hi => by rw [List.mem_singleton.mp hi]; decide⟩ (nk_fl_ok _ _)
      refine nk_segH (nk_nil _) nlR_3 (nk_sub_rf _) hh hR5 (fun ce hce => by cases hce) (fun z hz ρ6 H6 v u hX6 hT6 hF6 hF7 hv hu => ?_)
      obtain rfl := List.mem_singleton.mp hz
      have u0 : ρ6 0 = ρ 0 := (hX6 0 (by decide)).trans (w0.trans (hX2 0 (by decide)))
      have u1 : ρ6 1 = ρ 1 := (hX6 1 (by decide)).trans ((hX4 1 (by decide)).trans (hX2 1 (by decide)))
      have u4 : ρ6 4 = .int (t0 + n0) := hX6 4 (by decide)
      refine fin (show nk_ent 2 nlR_F nlR_Z4 = some (3, [4, 1, 0]) by decide +kernel) (by decide +kernel) hT6 (fun i hi => ?_) hv hu hF7 (fun a n t e0 e1 h0 => ?_)
      · rcases (show i = 0 ∨ i = 1 by omega) with rfl | rfl
        · exact u0
        · exact u1
      · have q0 : a0 = a := by
          have := (hX2 0 (by decide)).trans e0
          rw [ea0] at this
          exact Value.ref.inj this
        subst q0
        have q1 : n0 = n := by
          have := (hX2 1 (by decide)).trans e1
          rw [en0] at this
          exact Value.int.inj this
        subst q1
        have q2 : t0 = t := by
          have := (h0.kept hF2.2.2.2 rfl).fn hfd2
          rw [et] at this
          exact (Value.int.inj this).symm
        subst q2
        have g := hT6.2.1.fd (show (0, 14, 4) ∈ nlR_Z4.2.2.2.2.1 by decide) (u0.trans e0)
        rw [u4] at g
        have hv : v = some (ρ6 4) := hv.2
        exact ⟨fun _ => ⟨by rw [hv, u4], g⟩, fun h => absurd ⟨by omega, by omega, by omega⟩ h⟩
    · obtain rfl := List.mem_singleton.mp hz
      have w3 : ρ4 3 = .int (t0 + n0) := hX4 3 (by decide)
      have w1 : ρ4 1 = .int n0 := (hX4 1 (by decide)).trans en0
      obtain ⟨s0, es, s1, -⟩ := nk_int (hT4.1 3 _ rfl)
      rw [w3] at es
      cases es
      have hX5 : nkX 2 ρ ρ4 := fun i hi => by
        rcases (show i = 0 ∨ i = 1 by omega) with rfl | rfl
        · exact (hX4 0 (by decide)).trans (hX2 0 (by decide))
        · exact (hX4 1 (by decide)).trans (hX2 1 (by decide))
      have hF8 : nkFr (D, nkKdL, Γ) [] s.heap H4 [] := hF2.thn hF4 (nk_sub_rf _)
      refine fin (show nk_ent 2 nlR_F nlR_Z3 = some (3, [4, 1, 0]) by decide +kernel) (by decide +kernel) hT4 hX5 hv hu hF5 (nok (r := 4) hX5 hF8 hv.2 (la_m1 (hT4.1 4 _ rfl)) (fun n t a e1 e0 h0 h => ?_))
      rw [w1] at e1
      cases e1
      have q0 : a0 = a := by
        have := (hX4 0 (by decide)).symm.trans e0
        have z : ρ2 0 = .ref a := this
        rw [ea0] at z
        exact Value.ref.inj z
      subst q0
      have q2 : t0 = t := by
        have := (h0.kept hF2.2.2.2 rfl).fn hfd2
        rw [et] at this
        exact (Value.int.inj this).symm
      subst q2
      have := h.2.2
      omega
  · rcases List.mem_cons.mp hz with rfl | hz
    · refine fin (show nk_ent 2 nlR_F nlR_Z1 = some (3, [2, 1, 0]) by decide +kernel) (by decide +kernel) hT2 hX2 hv hu hF3 (nok (r := 2) hX2 hF2 hv.2 (la_m1 (hT2.1 2 _ rfl)) (fun n t a e1 _ _ h => ?_))
      obtain ⟨n0, en0, n1, n2⟩ := nk_int (hT2.1 1 _ rfl)
      rw [e1] at en0
      cases en0
      have := h.1
      omega
    · obtain rfl := List.mem_singleton.mp hz
      refine fin (show nk_ent 2 nlR_F nlR_Z2 = some (3, [2, 1, 0]) by decide +kernel) (by decide +kernel) hT2 hX2 hv hu hF3 (nok (r := 2) hX2 hF2 hv.2 (la_m1 (hT2.1 2 _ rfl)) (fun n t a e1 _ _ h => ?_))
      obtain ⟨n0, en0, n1, n2⟩ := nk_int (hT2.1 1 _ rfl)
      rw [e1] at en0
      cases en0
      have := h.2.1
      omega)

