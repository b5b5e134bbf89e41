/-! pushE(), emit(): what they write: printed by h_push.py -/
def nkp0_F : nkS := (7, [(0, 18446744073709551618, 18446744073709551706), (2, 61, 0), (2, 60, 0), (0, 18446744073709551617, 18446744073709551705), (0, 18446744071562067968, 18446744075857035263), (0, 18446744073709551617, 18446744073709551624), (2, 40, 0)], [], [], [(0, 36, 6), (0, 29, 4), (0, 30, 5)], [(6, 3, 18446744073709551617), (3, 6, 18446744073709551615)], [])
def nkp0_en : nkIn := (187, 0, 0, 3, (6, [(2, 61, 0), (2, 60, 0), (0, 18446744073709551617, 18446744073709551705), (0, 18446744071562067968, 18446744075857035263), (0, 18446744073709551617, 18446744073709551624), (2, 40, 0)], [], [], [(0, 36, 3), (0, 29, 4), (0, 30, 5)], [], []), [(40, 36, 36), (60, 0, 89), (61, 0, 89)], [nkp0_F])
def nkp0_X : nkS := (6, [(2, 61, 0), (2, 60, 0), (0, 18446744073709551617, 18446744073709551705), (0, 18446744071562067968, 18446744075857035263), (0, 18446744073709551617, 18446744073709551624), (2, 40, 0)], [(0, 0), (1, 1), (2, 2)], [1, 3, 4], [(0, 36, 3), (0, 29, 4), (0, 30, 5)], [], [])
def nkp0_Y : nkS := (6, [(2, 61, 0), (2, 60, 0), (0, 18446744073709551617, 18446744073709551705), (0, 18446744071562067968, 18446744075857035263), (0, 18446744073709551617, 18446744073709551624), (2, 40, 0)], [(0, 0), (1, 1), (2, 2)], [2, 3, 5], [(0, 36, 3), (0, 29, 4), (0, 30, 5)], [], [])
def nkp0_S : nkS := (6, [(2, 61, 0), (2, 60, 0), (0, 18446744073709551617, 18446744073709551705), (0, 18446744071562067968, 18446744075857035263), (0, 18446744073709551617, 18446744073709551624), (2, 40, 0)], [(0, 0), (1, 1), (2, 2)], [], [(0, 36, 3), (0, 29, 4), (0, 30, 5)], [], [])
theorem nkp0_g1 : nk_sgM nkKd2 [] [] 187 0 0 [] [(9, nkp0_X, [])] 6 [] 300 nkp0_S 0 = true := by decide +kernel
theorem nkp0_g2 : nk_sgM nkKd2 [] [] 187 0 0 [] [(19, nkp0_Y, [])] 6 [] 300 (nkp0_X.1, nkp0_X.2.1, nkp0_X.2.2.1, [], nkp0_X.2.2.2.2.1.filter (nk_kpM nkp0_X 60 0 (90 - 1)), nkp0_X.2.2.2.2.2) 10 = true := by decide +kernel
theorem nkp0_g3 : nk_sgM nkKd2 [] [] 187 0 0 [(40, 36, 36)] [] 6 [nkp0_F] 300 (nkp0_Y.1, nkp0_Y.2.1, nkp0_Y.2.2.1, [], nkp0_Y.2.2.2.2.1.filter (nk_kpM nkp0_Y 61 0 (90 - 1)), nkp0_Y.2.2.2.2.2) 20 = true := by decide +kernel
theorem nkp0_met : nkMetG nkKd2 nkp0_en (fun _ _ _ => True) (fun E ρ H H1 _ _ _ => nkPuQ E ρ H H1 90) := nk_handG (spt := []) (by decide +kernel) (fun {y lo0} hlo0 {p l e R s m args below meth c cc D Γ ρ ls} hh _ hR => by
  have hl : lo0 = [(0, 0), (1, 1), (2, 2)] := Option.some.inj (hlo0.symm.trans (by decide +kernel))
  subst hl
  obtain ⟨w, ew, w1, w2⟩ := nk_int (hR.1.1 1 _ rfl)
  obtain ⟨sg, esg, -, -⟩ := nk_int (hR.1.1 2 _ rfl)
  obtain ⟨jx, ejx, j1, j2⟩ := nk_int (hR.1.1 3 _ rfl)
  obtain ⟨aw, eaw, haw⟩ := nk_rf (hR.1.1 4 _ rfl)
  obtain ⟨av, eav, hav⟩ := nk_rf (hR.1.1 5 _ rfl)
  have haw : Γ aw = 60 := haw
  have hav : Γ av = 61 := hav
  obtain ⟨n, hn, en, fn⟩ := nh_nI (x := jx) (by omega)
  have hcl : jx.toNatClampNeg = n := by rw [en]; exact nI_clamp hn
  have hk1 : nkKd2[Γ aw]? = some (1, 0, 90, 90, nkKd2_60.2.2.2.2) := by rw [haw]; rfl
  have hk2 : nkKd2[Γ av]? = some (1, 0, 90, 1, [(0, 18446744071562067968, 18446744075857035263)]) := by rw [hav]; rfl
  have cell1 : ∀ {H : Heap}, nkHc (D, nkKd2, Γ) H → ∃ z : Nat → Value, H[aw]? = some (arrV (D.2.2 0) 90 z) := fun h => by
    obtain ⟨z, hz, -⟩ := h aw _ hk1
    exact ⟨z, hz⟩
  have cell2 : ∀ {H : Heap}, nkHc (D, nkKd2, Γ) H → ∃ z : Nat → Value, H[av]? = some (arrV (D.2.2 0) 90 z) := fun h => by
    obtain ⟨z, hz, -⟩ := h av _ hk2
    exact ⟨z, hz⟩
  refine nk_segH (nk_nil _) nkp0_g1 (by decide +kernel) hh hR (fun ce hce ρ2 H2 locs2 ls2 st2 hX hR2 hF2 => ?_) (fun a ha => by cases ha)
  obtain rfl := List.mem_singleton.mp hce
  have hR2 : nkR (D, nkKd2, Γ) y.2.2.1 nkp0_en.2.2.2.2.2.1 s.heap nkp0_X ρ2 H2 locs2 ls2 st2 := hR2
  show W p l e R s m args below meth c H2 locs2 0 0 _ (F0 m 9 ls2 st2)
  obtain ⟨z1, hz1⟩ := cell1 hR2.1.2.2.2.2.1
  refine nk_hAst hh.2.1.1 (hh.2.1.2.2.1 9 (.iastore, 1) (show nk_dk (nk_nD nhDa 187 []) 9 = some (.iastore, 1) by decide +kernel)) (show nkp0_X.2.2.2.1 = 1 :: 3 :: 4 :: [] from rfl) hR2 ((hX 4 (by decide)).trans eaw) hk1 hz1 ((hX 3 (by decide)).trans ejx) (by omega) (by omega) ((hX 1 (by decide)).trans ew) (by
      show nkOk Γ (nk_ty nkKd2_60 jx.toNatClampNeg) (.int w)
      rw [hcl, nk_tyE n (by omega), if_neg (by omega)]
      exact nk_okI (by omega) (by omega)) haw (by decide +kernel) (show nk_wok nkKd2 60 = true by decide +kernel) (fun H3 locs3 st3 hz3 ho3 hR3 => ?_)
  refine nk_segH (nk_nil _) nkp0_g2 (by decide +kernel) hh hR3 (fun ce hce ρ4 H4 locs4 ls4 st4 hX4 hR4 hF4 => ?_) (fun a ha => by cases ha)
  obtain rfl := List.mem_singleton.mp hce
  have hR4 : nkR (D, nkKd2, Γ) y.2.2.1 nkp0_en.2.2.2.2.2.1 s.heap nkp0_Y ρ4 H4 locs4 ls4 st4 := hR4
  show W p l e R s m args below meth c H4 locs4 0 0 _ (F0 m 19 ls4 st4)
  obtain ⟨z4, hz4⟩ := cell2 hR4.1.2.2.2.2.1
  have x4 : ∀ i, i < 6 → ρ4 i = ρ i := fun i hi => (hX4 i hi).trans (hX i hi)
  refine nk_hAst hh.2.1.1 (hh.2.1.2.2.1 19 (.iastore, 1) (show nk_dk (nk_nD nhDa 187 []) 19 = some (.iastore, 1) by decide +kernel)) (show nkp0_Y.2.2.2.1 = 2 :: 3 :: 5 :: [] from rfl) hR4 ((x4 5 (by decide)).trans eav) hk2 hz4 ((x4 3 (by decide)).trans ejx) (by omega) (by omega) ((x4 2 (by decide)).trans esg) (by rw [nk_ty1 rfl rfl]; exact nk_fl_ok Γ sg) hav (by decide +kernel) (show nk_wok nkKd2 61 = true by decide +kernel) (fun H5 locs5 st5 hz5 ho5 hR5 => ?_)
  refine nk_segH (nk_nil _) nkp0_g3 (by decide +kernel) hh hR5 (fun ce hce => by cases hce) (fun a ha ρ6 H6 v t hX6 hT hF6 hF7 hv ht => ?_)
  obtain rfl := List.mem_singleton.mp ha
  refine nk_finG (F := nkp0_F) (σ := (7, [6, 5, 4, 3, 2, 1, 0])) (by decide +kernel) (by decide +kernel) hT (fun i hi => (hX6 i hi).trans (x4 i hi)) (by decide) (List.mem_singleton.mpr rfl) hv ht hF7 ?_
  intro aw' av' n' zw zs q1 q2 q3 q4 q5 q6
  have q1 := eaw.symm.trans q1
  cases q1
  have q2 := eav.symm.trans q2
  cases q2
  have q3 := Value.int.inj (ejx.symm.trans q3)
  have enn : n' = n := by
    have h1 := congrArg Int32.toInt q3
    rw [nI_toInt (by omega), fn] at h1
    omega
  subst enn
  obtain ⟨y6, hy6⟩ := cell1 hT.2.2.2.2.1
  obtain ⟨w6, hw6⟩ := cell2 hT.2.2.2.2.1
  obtain ⟨y4, hy4⟩ := cell1 hR4.1.2.2.2.2.1
  obtain ⟨w2', hw2⟩ := cell2 hR2.1.2.2.2.2.1
  have hne : aw ≠ av := fun q => by rw [q, hav] at haw; exact absurd haw (by decide)
  have hw3 : H3[av]? = some (arrV (D.2.2 0) 90 w2') := (ho3 av (Ne.symm hne)).trans hw2
  have hy5 : H5[aw]? = some (arrV (D.2.2 0) 90 y4) := (ho5 aw hne).trans hy4
  rw [hcl] at hz3 hz5
  refine ⟨y6, w6, hy6, hw6, fun j hj => ⟨?_, ?_⟩⟩
  · have r1 : y6 j = y4 j := nk_kpA (E := (D, nkKd2, Γ)) hF6.2.2.2 hk1 (by show nk_off _ (Γ aw) j = true; rw [haw]; exact nk_noK_ok (by decide +kernel) j) hj hy5 hy6
    have r2 : y4 j = updV z1 n' (.int w) j := nk_kpA (E := (D, nkKd2, Γ)) hF4.2.2.2 hk1 rfl hj hz3 hy4
    have r3 : z1 j = zw j := nk_kpA (E := (D, nkKd2, Γ)) hF2.2.2.2 hk1 rfl hj q5 hz1
    rw [r1, r2, ew]
    unfold updV
    split
    · rfl
    · exact r3
  · have r1 : w6 j = updV z4 n' (.int sg) j := nk_kpA (E := (D, nkKd2, Γ)) hF6.2.2.2 hk2 (by show nk_off _ (Γ av) j = true; rw [hav]; exact nk_noK_ok (by decide +kernel) j) hj hz5 hw6
    have r2 : z4 j = w2' j := nk_kpA (E := (D, nkKd2, Γ)) hF4.2.2.2 hk2 rfl hj hw3 hz4
    have r3 : w2' j = zs j := nk_kpA (E := (D, nkKd2, Γ)) hF2.2.2.2 hk2 rfl hj q6 hw2
    rw [r1, esg]
    unfold updV
    split
    · rfl
    · exact r2.trans r3)

def nkq0_F : nkS := (7, [(0, 18446744073709551617, 18446744073709551617), (2, 61, 0), (2, 60, 0), (0, 18446744073709551616, 18446744073709551616), (0, 18446744071562067968, 18446744075857035263), (0, 18446744073709551617, 18446744073709551624), (2, 40, 0)], [], [], [(0, 36, 6), (0, 29, 4), (0, 30, 5)], [(6, 3, 18446744073709551617), (3, 6, 18446744073709551615)], [])
def nkq0_en : nkIn := (187, 0, 0, 3, (6, [(2, 61, 0), (2, 60, 0), (0, 18446744073709551616, 18446744073709551616), (0, 18446744071562067968, 18446744075857035263), (0, 18446744073709551617, 18446744073709551624), (2, 40, 0)], [], [], [(0, 36, 3), (0, 29, 4), (0, 30, 5)], [], []), [(40, 36, 36), (60, 0, 89), (61, 0, 89)], [nkq0_F])
def nkq0_X : nkS := (6, [(2, 61, 0), (2, 60, 0), (0, 18446744073709551616, 18446744073709551616), (0, 18446744071562067968, 18446744075857035263), (0, 18446744073709551617, 18446744073709551624), (2, 40, 0)], [(0, 0), (1, 1), (2, 2)], [1, 3, 4], [(0, 36, 3), (0, 29, 4), (0, 30, 5)], [], [])
def nkq0_Y : nkS := (6, [(2, 61, 0), (2, 60, 0), (0, 18446744073709551616, 18446744073709551616), (0, 18446744071562067968, 18446744075857035263), (0, 18446744073709551617, 18446744073709551624), (2, 40, 0)], [(0, 0), (1, 1), (2, 2)], [2, 3, 5], [(0, 36, 3), (0, 29, 4), (0, 30, 5)], [], [])
def nkq0_S : nkS := (6, [(2, 61, 0), (2, 60, 0), (0, 18446744073709551616, 18446744073709551616), (0, 18446744071562067968, 18446744075857035263), (0, 18446744073709551617, 18446744073709551624), (2, 40, 0)], [(0, 0), (1, 1), (2, 2)], [], [(0, 36, 3), (0, 29, 4), (0, 30, 5)], [], [])
theorem nkq0_g1 : nk_sgM nkKd1 [] [] 187 0 0 [] [(9, nkq0_X, [])] 6 [] 300 nkq0_S 0 = true := by decide +kernel
theorem nkq0_g2 : nk_sgM nkKd1 [] [] 187 0 0 [] [(19, nkq0_Y, [])] 6 [] 300 (nkq0_X.1, nkq0_X.2.1, nkq0_X.2.2.1, [], nkq0_X.2.2.2.2.1.filter (nk_kpM nkq0_X 60 0 (90 - 1)), nkq0_X.2.2.2.2.2) 10 = true := by decide +kernel
theorem nkq0_g3 : nk_sgM nkKd1 [] [] 187 0 0 [(40, 36, 36)] [] 6 [nkq0_F] 300 (nkq0_Y.1, nkq0_Y.2.1, nkq0_Y.2.2.1, [], nkq0_Y.2.2.2.2.1.filter (nk_kpM nkq0_Y 61 0 (90 - 1)), nkq0_Y.2.2.2.2.2) 20 = true := by decide +kernel
theorem nkq0_met : nkMetG nkKd1 nkq0_en (fun _ _ _ => True) (fun E ρ H H1 _ _ _ => nkPuQ E ρ H H1 90) := nk_handG (spt := []) (by decide +kernel) (fun {y lo0} hlo0 {p l e R s m args below meth c cc D Γ ρ ls} hh _ hR => by
  have hl : lo0 = [(0, 0), (1, 1), (2, 2)] := Option.some.inj (hlo0.symm.trans (by decide +kernel))
  subst hl
  obtain ⟨w, ew, w1, w2⟩ := nk_int (hR.1.1 1 _ rfl)
  obtain ⟨sg, esg, -, -⟩ := nk_int (hR.1.1 2 _ rfl)
  obtain ⟨jx, ejx, j1, j2⟩ := nk_int (hR.1.1 3 _ rfl)
  obtain ⟨aw, eaw, haw⟩ := nk_rf (hR.1.1 4 _ rfl)
  obtain ⟨av, eav, hav⟩ := nk_rf (hR.1.1 5 _ rfl)
  have haw : Γ aw = 60 := haw
  have hav : Γ av = 61 := hav
  obtain ⟨n, hn, en, fn⟩ := nh_nI (x := jx) (by omega)
  have hcl : jx.toNatClampNeg = n := by rw [en]; exact nI_clamp hn
  have hk1 : nkKd1[Γ aw]? = some (1, 0, 90, 1, [(0, 18446744073709551616, 18446744073709551624)]) := by rw [haw]; rfl
  have hk2 : nkKd1[Γ av]? = some (1, 0, 90, 1, [(0, 18446744071562067968, 18446744075857035263)]) := by rw [hav]; rfl
  have cell1 : ∀ {H : Heap}, nkHc (D, nkKd1, Γ) H → ∃ z : Nat → Value, H[aw]? = some (arrV (D.2.2 0) 90 z) := fun h => by
    obtain ⟨z, hz, -⟩ := h aw _ hk1
    exact ⟨z, hz⟩
  have cell2 : ∀ {H : Heap}, nkHc (D, nkKd1, Γ) H → ∃ z : Nat → Value, H[av]? = some (arrV (D.2.2 0) 90 z) := fun h => by
    obtain ⟨z, hz, -⟩ := h av _ hk2
    exact ⟨z, hz⟩
  refine nk_segH (nk_nil _) nkq0_g1 (by decide +kernel) hh hR (fun ce hce ρ2 H2 locs2 ls2 st2 hX hR2 hF2 => ?_) (fun a ha => by cases ha)
  obtain rfl := List.mem_singleton.mp hce
  have hR2 : nkR (D, nkKd1, Γ) y.2.2.1 nkq0_en.2.2.2.2.2.1 s.heap nkq0_X ρ2 H2 locs2 ls2 st2 := hR2
  show W p l e R s m args below meth c H2 locs2 0 0 _ (F0 m 9 ls2 st2)
  obtain ⟨z1, hz1⟩ := cell1 hR2.1.2.2.2.2.1
  refine nk_hAst hh.2.1.1 (hh.2.1.2.2.1 9 (.iastore, 1) (show nk_dk (nk_nD nhDa 187 []) 9 = some (.iastore, 1) by decide +kernel)) (show nkq0_X.2.2.2.1 = 1 :: 3 :: 4 :: [] from rfl) hR2 ((hX 4 (by decide)).trans eaw) hk1 hz1 ((hX 3 (by decide)).trans ejx) (by omega) (by omega) ((hX 1 (by decide)).trans ew) (by
      rw [nk_ty1 rfl rfl]
      exact nk_okI (lo := 18446744073709551616) (hi := 18446744073709551624) (by omega) (by omega)) haw (by decide +kernel) (show nk_wok nkKd1 60 = true by decide +kernel) (fun H3 locs3 st3 hz3 ho3 hR3 => ?_)
  refine nk_segH (nk_nil _) nkq0_g2 (by decide +kernel) hh hR3 (fun ce hce ρ4 H4 locs4 ls4 st4 hX4 hR4 hF4 => ?_) (fun a ha => by cases ha)
  obtain rfl := List.mem_singleton.mp hce
  have hR4 : nkR (D, nkKd1, Γ) y.2.2.1 nkq0_en.2.2.2.2.2.1 s.heap nkq0_Y ρ4 H4 locs4 ls4 st4 := hR4
  show W p l e R s m args below meth c H4 locs4 0 0 _ (F0 m 19 ls4 st4)
  obtain ⟨z4, hz4⟩ := cell2 hR4.1.2.2.2.2.1
  have x4 : ∀ i, i < 6 → ρ4 i = ρ i := fun i hi => (hX4 i hi).trans (hX i hi)
  refine nk_hAst hh.2.1.1 (hh.2.1.2.2.1 19 (.iastore, 1) (show nk_dk (nk_nD nhDa 187 []) 19 = some (.iastore, 1) by decide +kernel)) (show nkq0_Y.2.2.2.1 = 2 :: 3 :: 5 :: [] from rfl) hR4 ((x4 5 (by decide)).trans eav) hk2 hz4 ((x4 3 (by decide)).trans ejx) (by omega) (by omega) ((x4 2 (by decide)).trans esg) (by rw [nk_ty1 rfl rfl]; exact nk_fl_ok Γ sg) hav (by decide +kernel) (show nk_wok nkKd1 61 = true by decide +kernel) (fun H5 locs5 st5 hz5 ho5 hR5 => ?_)
  refine nk_segH (nk_nil _) nkq0_g3 (by decide +kernel) hh hR5 (fun ce hce => by cases hce) (fun a ha ρ6 H6 v t hX6 hT hF6 hF7 hv ht => ?_)
  obtain rfl := List.mem_singleton.mp ha
  refine nk_finG (F := nkq0_F) (σ := (7, [6, 5, 4, 3, 2, 1, 0])) (by decide +kernel) (by decide +kernel) hT (fun i hi => (hX6 i hi).trans (x4 i hi)) (by decide) (List.mem_singleton.mpr rfl) hv ht hF7 ?_
  intro aw' av' n' zw zs q1 q2 q3 q4 q5 q6
  have q1 := eaw.symm.trans q1
  cases q1
  have q2 := eav.symm.trans q2
  cases q2
  have q3 := Value.int.inj (ejx.symm.trans q3)
  have enn : n' = n := by
    have h1 := congrArg Int32.toInt q3
    rw [nI_toInt (by omega), fn] at h1
    omega
  subst enn
  obtain ⟨y6, hy6⟩ := cell1 hT.2.2.2.2.1
  obtain ⟨w6, hw6⟩ := cell2 hT.2.2.2.2.1
  obtain ⟨y4, hy4⟩ := cell1 hR4.1.2.2.2.2.1
  obtain ⟨w2', hw2⟩ := cell2 hR2.1.2.2.2.2.1
  have hne : aw ≠ av := fun q => by rw [q, hav] at haw; exact absurd haw (by decide)
  have hw3 : H3[av]? = some (arrV (D.2.2 0) 90 w2') := (ho3 av (Ne.symm hne)).trans hw2
  have hy5 : H5[aw]? = some (arrV (D.2.2 0) 90 y4) := (ho5 aw hne).trans hy4
  rw [hcl] at hz3 hz5
  refine ⟨y6, w6, hy6, hw6, fun j hj => ⟨?_, ?_⟩⟩
  · have r1 : y6 j = y4 j := nk_kpA (E := (D, nkKd1, Γ)) hF6.2.2.2 hk1 (by show nk_off _ (Γ aw) j = true; rw [haw]; exact nk_noK_ok (by decide +kernel) j) hj hy5 hy6
    have r2 : y4 j = updV z1 n' (.int w) j := nk_kpA (E := (D, nkKd1, Γ)) hF4.2.2.2 hk1 rfl hj hz3 hy4
    have r3 : z1 j = zw j := nk_kpA (E := (D, nkKd1, Γ)) hF2.2.2.2 hk1 rfl hj q5 hz1
    rw [r1, r2, ew]
    unfold updV
    split
    · rfl
    · exact r3
  · have r1 : w6 j = updV z4 n' (.int sg) j := nk_kpA (E := (D, nkKd1, Γ)) hF6.2.2.2 hk2 (by show nk_off _ (Γ av) j = true; rw [hav]; exact nk_noK_ok (by decide +kernel) j) hj hz5 hw6
    have r2 : z4 j = w2' j := nk_kpA (E := (D, nkKd1, Γ)) hF4.2.2.2 hk2 rfl hj hw3 hz4
    have r3 : w2' j = zs j := nk_kpA (E := (D, nkKd1, Γ)) hF2.2.2.2 hk2 rfl hj q6 hw2
    rw [r1, esg]
    unfold updV
    split
    · rfl
    · exact r2.trans r3)

def nkm0e_F : nkS := (7, [(0, 18446744073709551617, 18446744073709552736), (2, 81, 0), (2, 80, 0), (0, 18446744073709551616, 18446744073709552735), (0, 18446744071562067968, 18446744075857035263), (0, 18446744071562067968, 18446744075857035263), (2, 40, 0)], [], [], [(0, 34, 6), (0, 27, 4), (0, 28, 5)], [(6, 3, 18446744073709551617), (3, 6, 18446744073709551615)], [])
def nkm0e_en : nkIn := (191, 0, 0, 3, (6, [(2, 81, 0), (2, 80, 0), (0, 18446744073709551616, 18446744073709552735), (0, 18446744071562067968, 18446744075857035263), (0, 18446744071562067968, 18446744075857035263), (2, 40, 0)], [], [], [(0, 34, 3), (0, 27, 4), (0, 28, 5)], [], []), [(40, 34, 34), (80, 0, 1119), (81, 0, 1119)], [nkm0e_F])
def nkm0e_X : nkS := (6, [(2, 81, 0), (2, 80, 0), (0, 18446744073709551616, 18446744073709552735), (0, 18446744071562067968, 18446744075857035263), (0, 18446744071562067968, 18446744075857035263), (2, 40, 0)], [(0, 0), (1, 1), (2, 2)], [1, 3, 4], [(0, 34, 3), (0, 27, 4), (0, 28, 5)], [], [])
def nkm0e_Y : nkS := (6, [(2, 81, 0), (2, 80, 0), (0, 18446744073709551616, 18446744073709552735), (0, 18446744071562067968, 18446744075857035263), (0, 18446744071562067968, 18446744075857035263), (2, 40, 0)], [(0, 0), (1, 1), (2, 2)], [2, 3, 5], [(0, 34, 3), (0, 27, 4), (0, 28, 5)], [], [])
def nkm0e_S : nkS := (6, [(2, 81, 0), (2, 80, 0), (0, 18446744073709551616, 18446744073709552735), (0, 18446744071562067968, 18446744075857035263), (0, 18446744071562067968, 18446744075857035263), (2, 40, 0)], [(0, 0), (1, 1), (2, 2)], [], [(0, 34, 3), (0, 27, 4), (0, 28, 5)], [], [])
theorem nkm0e_g1 : nk_sgM nkKd2 [] [] 191 0 0 [] [(9, nkm0e_X, [])] 6 [] 300 nkm0e_S 0 = true := by decide +kernel
theorem nkm0e_g2 : nk_sgM nkKd2 [] [] 191 0 0 [] [(19, nkm0e_Y, [])] 6 [] 300 (nkm0e_X.1, nkm0e_X.2.1, nkm0e_X.2.2.1, [], nkm0e_X.2.2.2.2.1.filter (nk_kpM nkm0e_X 80 0 (1120 - 1)), nkm0e_X.2.2.2.2.2) 10 = true := by decide +kernel
theorem nkm0e_g3 : nk_sgM nkKd2 [] [] 191 0 0 [(40, 34, 34)] [] 6 [nkm0e_F] 300 (nkm0e_Y.1, nkm0e_Y.2.1, nkm0e_Y.2.2.1, [], nkm0e_Y.2.2.2.2.1.filter (nk_kpM nkm0e_Y 81 0 (1120 - 1)), nkm0e_Y.2.2.2.2.2) 20 = true := by decide +kernel
theorem nkm0e_met : nkMetG nkKd2 nkm0e_en (fun _ _ _ => True) (fun E ρ H H1 _ _ _ => nkPuQ E ρ H H1 1120) := nk_handG (spt := []) (by decide +kernel) (fun {y lo0} hlo0 {p l e R s m args below meth c cc D Γ ρ ls} hh _ hR => by
  have hl : lo0 = [(0, 0), (1, 1), (2, 2)] := Option.some.inj (hlo0.symm.trans (by decide +kernel))
  subst hl
  obtain ⟨w, ew, w1, w2⟩ := nk_int (hR.1.1 1 _ rfl)
  obtain ⟨sg, esg, -, -⟩ := nk_int (hR.1.1 2 _ rfl)
  obtain ⟨jx, ejx, j1, j2⟩ := nk_int (hR.1.1 3 _ rfl)
  obtain ⟨aw, eaw, haw⟩ := nk_rf (hR.1.1 4 _ rfl)
  obtain ⟨av, eav, hav⟩ := nk_rf (hR.1.1 5 _ rfl)
  have haw : Γ aw = 80 := haw
  have hav : Γ av = 81 := hav
  obtain ⟨n, hn, en, fn⟩ := nh_nI (x := jx) (by omega)
  have hcl : jx.toNatClampNeg = n := by rw [en]; exact nI_clamp hn
  have hk1 : nkKd2[Γ aw]? = some (1, 0, 1120, 1, [(0, 18446744071562067968, 18446744075857035263)]) := by rw [haw]; rfl
  have hk2 : nkKd2[Γ av]? = some (1, 0, 1120, 1, [(0, 18446744071562067968, 18446744075857035263)]) := by rw [hav]; rfl
  have cell1 : ∀ {H : Heap}, nkHc (D, nkKd2, Γ) H → ∃ z : Nat → Value, H[aw]? = some (arrV (D.2.2 0) 1120 z) := fun h => by
    obtain ⟨z, hz, -⟩ := h aw _ hk1
    exact ⟨z, hz⟩
  have cell2 : ∀ {H : Heap}, nkHc (D, nkKd2, Γ) H → ∃ z : Nat → Value, H[av]? = some (arrV (D.2.2 0) 1120 z) := fun h => by
    obtain ⟨z, hz, -⟩ := h av _ hk2
    exact ⟨z, hz⟩
  refine nk_segH (nk_nil _) nkm0e_g1 (by decide +kernel) hh hR (fun ce hce ρ2 H2 locs2 ls2 st2 hX hR2 hF2 => ?_) (fun a ha => by cases ha)
  obtain rfl := List.mem_singleton.mp hce
  have hR2 : nkR (D, nkKd2, Γ) y.2.2.1 nkm0e_en.2.2.2.2.2.1 s.heap nkm0e_X ρ2 H2 locs2 ls2 st2 := hR2
  show W p l e R s m args below meth c H2 locs2 0 0 _ (F0 m 9 ls2 st2)
  obtain ⟨z1, hz1⟩ := cell1 hR2.1.2.2.2.2.1
  refine nk_hAst hh.2.1.1 (hh.2.1.2.2.1 9 (.iastore, 1) (show nk_dk (nk_nD nhDa 191 []) 9 = some (.iastore, 1) by decide +kernel)) (show nkm0e_X.2.2.2.1 = 1 :: 3 :: 4 :: [] from rfl) hR2 ((hX 4 (by decide)).trans eaw) hk1 hz1 ((hX 3 (by decide)).trans ejx) (by omega) (by omega) ((hX 1 (by decide)).trans ew) (by rw [nk_ty1 rfl rfl]; exact nk_fl_ok Γ w) haw (by decide +kernel) (show nk_wok nkKd2 80 = true by decide +kernel) (fun H3 locs3 st3 hz3 ho3 hR3 => ?_)
  refine nk_segH (nk_nil _) nkm0e_g2 (by decide +kernel) hh hR3 (fun ce hce ρ4 H4 locs4 ls4 st4 hX4 hR4 hF4 => ?_) (fun a ha => by cases ha)
  obtain rfl := List.mem_singleton.mp hce
  have hR4 : nkR (D, nkKd2, Γ) y.2.2.1 nkm0e_en.2.2.2.2.2.1 s.heap nkm0e_Y ρ4 H4 locs4 ls4 st4 := hR4
  show W p l e R s m args below meth c H4 locs4 0 0 _ (F0 m 19 ls4 st4)
  obtain ⟨z4, hz4⟩ := cell2 hR4.1.2.2.2.2.1
  have x4 : ∀ i, i < 6 → ρ4 i = ρ i := fun i hi => (hX4 i hi).trans (hX i hi)
  refine nk_hAst hh.2.1.1 (hh.2.1.2.2.1 19 (.iastore, 1) (show nk_dk (nk_nD nhDa 191 []) 19 = some (.iastore, 1) by decide +kernel)) (show nkm0e_Y.2.2.2.1 = 2 :: 3 :: 5 :: [] from rfl) hR4 ((x4 5 (by decide)).trans eav) hk2 hz4 ((x4 3 (by decide)).trans ejx) (by omega) (by omega) ((x4 2 (by decide)).trans esg) (by rw [nk_ty1 rfl rfl]; exact nk_fl_ok Γ sg) hav (by decide +kernel) (show nk_wok nkKd2 81 = true by decide +kernel) (fun H5 locs5 st5 hz5 ho5 hR5 => ?_)
  refine nk_segH (nk_nil _) nkm0e_g3 (by decide +kernel) hh hR5 (fun ce hce => by cases hce) (fun a ha ρ6 H6 v t hX6 hT hF6 hF7 hv ht => ?_)
  obtain rfl := List.mem_singleton.mp ha
  refine nk_finG (F := nkm0e_F) (σ := (7, [6, 5, 4, 3, 2, 1, 0])) (by decide +kernel) (by decide +kernel) hT (fun i hi => (hX6 i hi).trans (x4 i hi)) (by decide) (List.mem_singleton.mpr rfl) hv ht hF7 ?_
  intro aw' av' n' zw zs q1 q2 q3 q4 q5 q6
  have q1 := eaw.symm.trans q1
  cases q1
  have q2 := eav.symm.trans q2
  cases q2
  have q3 := Value.int.inj (ejx.symm.trans q3)
  have enn : n' = n := by
    have h1 := congrArg Int32.toInt q3
    rw [nI_toInt (by omega), fn] at h1
    omega
  subst enn
  obtain ⟨y6, hy6⟩ := cell1 hT.2.2.2.2.1
  obtain ⟨w6, hw6⟩ := cell2 hT.2.2.2.2.1
  obtain ⟨y4, hy4⟩ := cell1 hR4.1.2.2.2.2.1
  obtain ⟨w2', hw2⟩ := cell2 hR2.1.2.2.2.2.1
  have hne : aw ≠ av := fun q => by rw [q, hav] at haw; exact absurd haw (by decide)
  have hw3 : H3[av]? = some (arrV (D.2.2 0) 1120 w2') := (ho3 av (Ne.symm hne)).trans hw2
  have hy5 : H5[aw]? = some (arrV (D.2.2 0) 1120 y4) := (ho5 aw hne).trans hy4
  rw [hcl] at hz3 hz5
  refine ⟨y6, w6, hy6, hw6, fun j hj => ⟨?_, ?_⟩⟩
  · have r1 : y6 j = y4 j := nk_kpA (E := (D, nkKd2, Γ)) hF6.2.2.2 hk1 (by show nk_off _ (Γ aw) j = true; rw [haw]; exact nk_noK_ok (by decide +kernel) j) hj hy5 hy6
    have r2 : y4 j = updV z1 n' (.int w) j := nk_kpA (E := (D, nkKd2, Γ)) hF4.2.2.2 hk1 rfl hj hz3 hy4
    have r3 : z1 j = zw j := nk_kpA (E := (D, nkKd2, Γ)) hF2.2.2.2 hk1 rfl hj q5 hz1
    rw [r1, r2, ew]
    unfold updV
    split
    · rfl
    · exact r3
  · have r1 : w6 j = updV z4 n' (.int sg) j := nk_kpA (E := (D, nkKd2, Γ)) hF6.2.2.2 hk2 (by show nk_off _ (Γ av) j = true; rw [hav]; exact nk_noK_ok (by decide +kernel) j) hj hz5 hw6
    have r2 : z4 j = w2' j := nk_kpA (E := (D, nkKd2, Γ)) hF4.2.2.2 hk2 rfl hj hw3 hz4
    have r3 : w2' j = zs j := nk_kpA (E := (D, nkKd2, Γ)) hF2.2.2.2 hk2 rfl hj q6 hw2
    rw [r1, esg]
    unfold updV
    split
    · rfl
    · exact r2.trans r3)

def nkp1_F : nkS := (7, [(0, 18446744073709551618, 18446744073709551706), (2, 61, 0), (2, 60, 0), (0, 18446744073709551617, 18446744073709551705), (0, 18446744071562067968, 18446744075857035263), (0, 18446744073709551617, 18446744073709551624), (2, 41, 0)], [], [], [(0, 36, 6), (0, 29, 4), (0, 30, 5)], [(6, 3, 18446744073709551617), (3, 6, 18446744073709551615)], [])
def nkp1_en : nkIn := (187, 0, 0, 3, (6, [(2, 61, 0), (2, 60, 0), (0, 18446744073709551617, 18446744073709551705), (0, 18446744071562067968, 18446744075857035263), (0, 18446744073709551617, 18446744073709551624), (2, 41, 0)], [], [], [(0, 36, 3), (0, 29, 4), (0, 30, 5)], [], []), [(41, 36, 36), (60, 0, 89), (61, 0, 89)], [nkp1_F])
def nkp1_X : nkS := (6, [(2, 61, 0), (2, 60, 0), (0, 18446744073709551617, 18446744073709551705), (0, 18446744071562067968, 18446744075857035263), (0, 18446744073709551617, 18446744073709551624), (2, 41, 0)], [(0, 0), (1, 1), (2, 2)], [1, 3, 4], [(0, 36, 3), (0, 29, 4), (0, 30, 5)], [], [])
def nkp1_Y : nkS := (6, [(2, 61, 0), (2, 60, 0), (0, 18446744073709551617, 18446744073709551705), (0, 18446744071562067968, 18446744075857035263), (0, 18446744073709551617, 18446744073709551624), (2, 41, 0)], [(0, 0), (1, 1), (2, 2)], [2, 3, 5], [(0, 36, 3), (0, 29, 4), (0, 30, 5)], [], [])
def nkp1_S : nkS := (6, [(2, 61, 0), (2, 60, 0), (0, 18446744073709551617, 18446744073709551705), (0, 18446744071562067968, 18446744075857035263), (0, 18446744073709551617, 18446744073709551624), (2, 41, 0)], [(0, 0), (1, 1), (2, 2)], [], [(0, 36, 3), (0, 29, 4), (0, 30, 5)], [], [])
theorem nkp1_g1 : nk_sgM nkKd2 [] [] 187 0 0 [] [(9, nkp1_X, [])] 6 [] 300 nkp1_S 0 = true := by decide +kernel
theorem nkp1_g2 : nk_sgM nkKd2 [] [] 187 0 0 [] [(19, nkp1_Y, [])] 6 [] 300 (nkp1_X.1, nkp1_X.2.1, nkp1_X.2.2.1, [], nkp1_X.2.2.2.2.1.filter (nk_kpM nkp1_X 60 0 (90 - 1)), nkp1_X.2.2.2.2.2) 10 = true := by decide +kernel
theorem nkp1_g3 : nk_sgM nkKd2 [] [] 187 0 0 [(41, 36, 36)] [] 6 [nkp1_F] 300 (nkp1_Y.1, nkp1_Y.2.1, nkp1_Y.2.2.1, [], nkp1_Y.2.2.2.2.1.filter (nk_kpM nkp1_Y 61 0 (90 - 1)), nkp1_Y.2.2.2.2.2) 20 = true := by decide +kernel
theorem nkp1_met : nkMetG nkKd2 nkp1_en (fun _ _ _ => True) (fun E ρ H H1 _ _ _ => nkPuQ E ρ H H1 90) := nk_handG (spt := []) (by decide +kernel) (fun {y lo0} hlo0 {p l e R s m args below meth c cc D Γ ρ ls} hh _ hR => by
  have hl : lo0 = [(0, 0), (1, 1), (2, 2)] := Option.some.inj (hlo0.symm.trans (by decide +kernel))
  subst hl
  obtain ⟨w, ew, w1, w2⟩ := nk_int (hR.1.1 1 _ rfl)
  obtain ⟨sg, esg, -, -⟩ := nk_int (hR.1.1 2 _ rfl)
  obtain ⟨jx, ejx, j1, j2⟩ := nk_int (hR.1.1 3 _ rfl)
  obtain ⟨aw, eaw, haw⟩ := nk_rf (hR.1.1 4 _ rfl)
  obtain ⟨av, eav, hav⟩ := nk_rf (hR.1.1 5 _ rfl)
  have haw : Γ aw = 60 := haw
  have hav : Γ av = 61 := hav
  obtain ⟨n, hn, en, fn⟩ := nh_nI (x := jx) (by omega)
  have hcl : jx.toNatClampNeg = n := by rw [en]; exact nI_clamp hn
  have hk1 : nkKd2[Γ aw]? = some (1, 0, 90, 90, nkKd2_60.2.2.2.2) := by rw [haw]; rfl
  have hk2 : nkKd2[Γ av]? = some (1, 0, 90, 1, [(0, 18446744071562067968, 18446744075857035263)]) := by rw [hav]; rfl
  have cell1 : ∀ {H : Heap}, nkHc (D, nkKd2, Γ) H → ∃ z : Nat → Value, H[aw]? = some (arrV (D.2.2 0) 90 z) := fun h => by
    obtain ⟨z, hz, -⟩ := h aw _ hk1
    exact ⟨z, hz⟩
  have cell2 : ∀ {H : Heap}, nkHc (D, nkKd2, Γ) H → ∃ z : Nat → Value, H[av]? = some (arrV (D.2.2 0) 90 z) := fun h => by
    obtain ⟨z, hz, -⟩ := h av _ hk2
    exact ⟨z, hz⟩
  refine nk_segH (nk_nil _) nkp1_g1 (by decide +kernel) hh hR (fun ce hce ρ2 H2 locs2 ls2 st2 hX hR2 hF2 => ?_) (fun a ha => by cases ha)
  obtain rfl := List.mem_singleton.mp hce
  have hR2 : nkR (D, nkKd2, Γ) y.2.2.1 nkp1_en.2.2.2.2.2.1 s.heap nkp1_X ρ2 H2 locs2 ls2 st2 := hR2
  show W p l e R s m args below meth c H2 locs2 0 0 _ (F0 m 9 ls2 st2)
  obtain ⟨z1, hz1⟩ := cell1 hR2.1.2.2.2.2.1
  refine nk_hAst hh.2.1.1 (hh.2.1.2.2.1 9 (.iastore, 1) (show nk_dk (nk_nD nhDa 187 []) 9 = some (.iastore, 1) by decide +kernel)) (show nkp1_X.2.2.2.1 = 1 :: 3 :: 4 :: [] from rfl) hR2 ((hX 4 (by decide)).trans eaw) hk1 hz1 ((hX 3 (by decide)).trans ejx) (by omega) (by omega) ((hX 1 (by decide)).trans ew) (by
      show nkOk Γ (nk_ty nkKd2_60 jx.toNatClampNeg) (.int w)
      rw [hcl, nk_tyE n (by omega), if_neg (by omega)]
      exact nk_okI (by omega) (by omega)) haw (by decide +kernel) (show nk_wok nkKd2 60 = true by decide +kernel) (fun H3 locs3 st3 hz3 ho3 hR3 => ?_)
  refine nk_segH (nk_nil _) nkp1_g2 (by decide +kernel) hh hR3 (fun ce hce ρ4 H4 locs4 ls4 st4 hX4 hR4 hF4 => ?_) (fun a ha => by cases ha)
  obtain rfl := List.mem_singleton.mp hce
  have hR4 : nkR (D, nkKd2, Γ) y.2.2.1 nkp1_en.2.2.2.2.2.1 s.heap nkp1_Y ρ4 H4 locs4 ls4 st4 := hR4
  show W p l e R s m args below meth c H4 locs4 0 0 _ (F0 m 19 ls4 st4)
  obtain ⟨z4, hz4⟩ := cell2 hR4.1.2.2.2.2.1
  have x4 : ∀ i, i < 6 → ρ4 i = ρ i := fun i hi => (hX4 i hi).trans (hX i hi)
  refine nk_hAst hh.2.1.1 (hh.2.1.2.2.1 19 (.iastore, 1) (show nk_dk (nk_nD nhDa 187 []) 19 = some (.iastore, 1) by decide +kernel)) (show nkp1_Y.2.2.2.1 = 2 :: 3 :: 5 :: [] from rfl) hR4 ((x4 5 (by decide)).trans eav) hk2 hz4 ((x4 3 (by decide)).trans ejx) (by omega) (by omega) ((x4 2 (by decide)).trans esg) (by rw [nk_ty1 rfl rfl]; exact nk_fl_ok Γ sg) hav (by decide +kernel) (show nk_wok nkKd2 61 = true by decide +kernel) (fun H5 locs5 st5 hz5 ho5 hR5 => ?_)
  refine nk_segH (nk_nil _) nkp1_g3 (by decide +kernel) hh hR5 (fun ce hce => by cases hce) (fun a ha ρ6 H6 v t hX6 hT hF6 hF7 hv ht => ?_)
  obtain rfl := List.mem_singleton.mp ha
  refine nk_finG (F := nkp1_F) (σ := (7, [6, 5, 4, 3, 2, 1, 0])) (by decide +kernel) (by decide +kernel) hT (fun i hi => (hX6 i hi).trans (x4 i hi)) (by decide) (List.mem_singleton.mpr rfl) hv ht hF7 ?_
  intro aw' av' n' zw zs q1 q2 q3 q4 q5 q6
  have q1 := eaw.symm.trans q1
  cases q1
  have q2 := eav.symm.trans q2
  cases q2
  have q3 := Value.int.inj (ejx.symm.trans q3)
  have enn : n' = n := by
    have h1 := congrArg Int32.toInt q3
    rw [nI_toInt (by omega), fn] at h1
    omega
  subst enn
  obtain ⟨y6, hy6⟩ := cell1 hT.2.2.2.2.1
  obtain ⟨w6, hw6⟩ := cell2 hT.2.2.2.2.1
  obtain ⟨y4, hy4⟩ := cell1 hR4.1.2.2.2.2.1
  obtain ⟨w2', hw2⟩ := cell2 hR2.1.2.2.2.2.1
  have hne : aw ≠ av := fun q => by rw [q, hav] at haw; exact absurd haw (by decide)
  have hw3 : H3[av]? = some (arrV (D.2.2 0) 90 w2') := (ho3 av (Ne.symm hne)).trans hw2
  have hy5 : H5[aw]? = some (arrV (D.2.2 0) 90 y4) := (ho5 aw hne).trans hy4
  rw [hcl] at hz3 hz5
  refine ⟨y6, w6, hy6, hw6, fun j hj => ⟨?_, ?_⟩⟩
  · have r1 : y6 j = y4 j := nk_kpA (E := (D, nkKd2, Γ)) hF6.2.2.2 hk1 (by show nk_off _ (Γ aw) j = true; rw [haw]; exact nk_noK_ok (by decide +kernel) j) hj hy5 hy6
    have r2 : y4 j = updV z1 n' (.int w) j := nk_kpA (E := (D, nkKd2, Γ)) hF4.2.2.2 hk1 rfl hj hz3 hy4
    have r3 : z1 j = zw j := nk_kpA (E := (D, nkKd2, Γ)) hF2.2.2.2 hk1 rfl hj q5 hz1
    rw [r1, r2, ew]
    unfold updV
    split
    · rfl
    · exact r3
  · have r1 : w6 j = updV z4 n' (.int sg) j := nk_kpA (E := (D, nkKd2, Γ)) hF6.2.2.2 hk2 (by show nk_off _ (Γ av) j = true; rw [hav]; exact nk_noK_ok (by decide +kernel) j) hj hz5 hw6
    have r2 : z4 j = w2' j := nk_kpA (E := (D, nkKd2, Γ)) hF4.2.2.2 hk2 rfl hj hw3 hz4
    have r3 : w2' j = zs j := nk_kpA (E := (D, nkKd2, Γ)) hF2.2.2.2 hk2 rfl hj q6 hw2
    rw [r1, esg]
    unfold updV
    split
    · rfl
    · exact r2.trans r3)

def nkq1_F : nkS := (7, [(0, 18446744073709551617, 18446744073709551617), (2, 61, 0), (2, 60, 0), (0, 18446744073709551616, 18446744073709551616), (0, 18446744071562067968, 18446744075857035263), (0, 18446744073709551617, 18446744073709551624), (2, 41, 0)], [], [], [(0, 36, 6), (0, 29, 4), (0, 30, 5)], [(6, 3, 18446744073709551617), (3, 6, 18446744073709551615)], [])
def nkq1_en : nkIn := (187, 0, 0, 3, (6, [(2, 61, 0), (2, 60, 0), (0, 18446744073709551616, 18446744073709551616), (0, 18446744071562067968, 18446744075857035263), (0, 18446744073709551617, 18446744073709551624), (2, 41, 0)], [], [], [(0, 36, 3), (0, 29, 4), (0, 30, 5)], [], []), [(41, 36, 36), (60, 0, 89), (61, 0, 89)], [nkq1_F])
def nkq1_X : nkS := (6, [(2, 61, 0), (2, 60, 0), (0, 18446744073709551616, 18446744073709551616), (0, 18446744071562067968, 18446744075857035263), (0, 18446744073709551617, 18446744073709551624), (2, 41, 0)], [(0, 0), (1, 1), (2, 2)], [1, 3, 4], [(0, 36, 3), (0, 29, 4), (0, 30, 5)], [], [])
def nkq1_Y : nkS := (6, [(2, 61, 0), (2, 60, 0), (0, 18446744073709551616, 18446744073709551616), (0, 18446744071562067968, 18446744075857035263), (0, 18446744073709551617, 18446744073709551624), (2, 41, 0)], [(0, 0), (1, 1), (2, 2)], [2, 3, 5], [(0, 36, 3), (0, 29, 4), (0, 30, 5)], [], [])
def nkq1_S : nkS := (6, [(2, 61, 0), (2, 60, 0), (0, 18446744073709551616, 18446744073709551616), (0, 18446744071562067968, 18446744075857035263), (0, 18446744073709551617, 18446744073709551624), (2, 41, 0)], [(0, 0), (1, 1), (2, 2)], [], [(0, 36, 3), (0, 29, 4), (0, 30, 5)], [], [])
theorem nkq1_g1 : nk_sgM nkKd1 [] [] 187 0 0 [] [(9, nkq1_X, [])] 6 [] 300 nkq1_S 0 = true := by decide +kernel
theorem nkq1_g2 : nk_sgM nkKd1 [] [] 187 0 0 [] [(19, nkq1_Y, [])] 6 [] 300 (nkq1_X.1, nkq1_X.2.1, nkq1_X.2.2.1, [], nkq1_X.2.2.2.2.1.filter (nk_kpM nkq1_X 60 0 (90 - 1)), nkq1_X.2.2.2.2.2) 10 = true := by decide +kernel
theorem nkq1_g3 : nk_sgM nkKd1 [] [] 187 0 0 [(41, 36, 36)] [] 6 [nkq1_F] 300 (nkq1_Y.1, nkq1_Y.2.1, nkq1_Y.2.2.1, [], nkq1_Y.2.2.2.2.1.filter (nk_kpM nkq1_Y 61 0 (90 - 1)), nkq1_Y.2.2.2.2.2) 20 = true := by decide +kernel
theorem nkq1_met : nkMetG nkKd1 nkq1_en (fun _ _ _ => True) (fun E ρ H H1 _ _ _ => nkPuQ E ρ H H1 90) := nk_handG (spt := []) (by decide +kernel) (fun {y lo0} hlo0 {p l e R s m args below meth c cc D Γ ρ ls} hh _ hR => by
  have hl : lo0 = [(0, 0), (1, 1), (2, 2)] := Option.some.inj (hlo0.symm.trans (by decide +kernel))
  subst hl
  obtain ⟨w, ew, w1, w2⟩ := nk_int (hR.1.1 1 _ rfl)
  obtain ⟨sg, esg, -, -⟩ := nk_int (hR.1.1 2 _ rfl)
  obtain ⟨jx, ejx, j1, j2⟩ := nk_int (hR.1.1 3 _ rfl)
  obtain ⟨aw, eaw, haw⟩ := nk_rf (hR.1.1 4 _ rfl)
  obtain ⟨av, eav, hav⟩ := nk_rf (hR.1.1 5 _ rfl)
  have haw : Γ aw = 60 := haw
  have hav : Γ av = 61 := hav
  obtain ⟨n, hn, en, fn⟩ := nh_nI (x := jx) (by omega)
  have hcl : jx.toNatClampNeg = n := by rw [en]; exact nI_clamp hn
  have hk1 : nkKd1[Γ aw]? = some (1, 0, 90, 1, [(0, 18446744073709551616, 18446744073709551624)]) := by rw [haw]; rfl
  have hk2 : nkKd1[Γ av]? = some (1, 0, 90, 1, [(0, 18446744071562067968, 18446744075857035263)]) := by rw [hav]; rfl
  have cell1 : ∀ {H : Heap}, nkHc (D, nkKd1, Γ) H → ∃ z : Nat → Value, H[aw]? = some (arrV (D.2.2 0) 90 z) := fun h => by
    obtain ⟨z, hz, -⟩ := h aw _ hk1
    exact ⟨z, hz⟩
  have cell2 : ∀ {H : Heap}, nkHc (D, nkKd1, Γ) H → ∃ z : Nat → Value, H[av]? = some (arrV (D.2.2 0) 90 z) := fun h => by
    obtain ⟨z, hz, -⟩ := h av _ hk2
    exact ⟨z, hz⟩
  refine nk_segH (nk_nil _) nkq1_g1 (by decide +kernel) hh hR (fun ce hce ρ2 H2 locs2 ls2 st2 hX hR2 hF2 => ?_) (fun a ha => by cases ha)
  obtain rfl := List.mem_singleton.mp hce
  have hR2 : nkR (D, nkKd1, Γ) y.2.2.1 nkq1_en.2.2.2.2.2.1 s.heap nkq1_X ρ2 H2 locs2 ls2 st2 := hR2
  show W p l e R s m args below meth c H2 locs2 0 0 _ (F0 m 9 ls2 st2)
  obtain ⟨z1, hz1⟩ := cell1 hR2.1.2.2.2.2.1
  refine nk_hAst hh.2.1.1 (hh.2.1.2.2.1 9 (.iastore, 1) (show nk_dk (nk_nD nhDa 187 []) 9 = some (.iastore, 1) by decide +kernel)) (show nkq1_X.2.2.2.1 = 1 :: 3 :: 4 :: [] from rfl) hR2 ((hX 4 (by decide)).trans eaw) hk1 hz1 ((hX 3 (by decide)).trans ejx) (by omega) (by omega) ((hX 1 (by decide)).trans ew) (by
      rw [nk_ty1 rfl rfl]
      exact nk_okI (lo := 18446744073709551616) (hi := 18446744073709551624) (by omega) (by omega)) haw (by decide +kernel) (show nk_wok nkKd1 60 = true by decide +kernel) (fun H3 locs3 st3 hz3 ho3 hR3 => ?_)
  refine nk_segH (nk_nil _) nkq1_g2 (by decide +kernel) hh hR3 (fun ce hce ρ4 H4 locs4 ls4 st4 hX4 hR4 hF4 => ?_) (fun a ha => by cases ha)
  obtain rfl := List.mem_singleton.mp hce
  have hR4 : nkR (D, nkKd1, Γ) y.2.2.1 nkq1_en.2.2.2.2.2.1 s.heap nkq1_Y ρ4 H4 locs4 ls4 st4 := hR4
  show W p l e R s m args below meth c H4 locs4 0 0 _ (F0 m 19 ls4 st4)
  obtain ⟨z4, hz4⟩ := cell2 hR4.1.2.2.2.2.1
  have x4 : ∀ i, i < 6 → ρ4 i = ρ i := fun i hi => (hX4 i hi).trans (hX i hi)
  refine nk_hAst hh.2.1.1 (hh.2.1.2.2.1 19 (.iastore, 1) (show nk_dk (nk_nD nhDa 187 []) 19 = some (.iastore, 1) by decide +kernel)) (show nkq1_Y.2.2.2.1 = 2 :: 3 :: 5 :: [] from rfl) hR4 ((x4 5 (by decide)).trans eav) hk2 hz4 ((x4 3 (by decide)).trans ejx) (by omega) (by omega) ((x4 2 (by decide)).trans esg) (by rw [nk_ty1 rfl rfl]; exact nk_fl_ok Γ sg) hav (by decide +kernel) (show nk_wok nkKd1 61 = true by decide +kernel) (fun H5 locs5 st5 hz5 ho5 hR5 => ?_)
  refine nk_segH (nk_nil _) nkq1_g3 (by decide +kernel) hh hR5 (fun ce hce => by cases hce) (fun a ha ρ6 H6 v t hX6 hT hF6 hF7 hv ht => ?_)
  obtain rfl := List.mem_singleton.mp ha
  refine nk_finG (F := nkq1_F) (σ := (7, [6, 5, 4, 3, 2, 1, 0])) (by decide +kernel) (by decide +kernel) hT (fun i hi => (hX6 i hi).trans (x4 i hi)) (by decide) (List.mem_singleton.mpr rfl) hv ht hF7 ?_
  intro aw' av' n' zw zs q1 q2 q3 q4 q5 q6
  have q1 := eaw.symm.trans q1
  cases q1
  have q2 := eav.symm.trans q2
  cases q2
  have q3 := Value.int.inj (ejx.symm.trans q3)
  have enn : n' = n := by
    have h1 := congrArg Int32.toInt q3
    rw [nI_toInt (by omega), fn] at h1
    omega
  subst enn
  obtain ⟨y6, hy6⟩ := cell1 hT.2.2.2.2.1
  obtain ⟨w6, hw6⟩ := cell2 hT.2.2.2.2.1
  obtain ⟨y4, hy4⟩ := cell1 hR4.1.2.2.2.2.1
  obtain ⟨w2', hw2⟩ := cell2 hR2.1.2.2.2.2.1
  have hne : aw ≠ av := fun q => by rw [q, hav] at haw; exact absurd haw (by decide)
  have hw3 : H3[av]? = some (arrV (D.2.2 0) 90 w2') := (ho3 av (Ne.symm hne)).trans hw2
  have hy5 : H5[aw]? = some (arrV (D.2.2 0) 90 y4) := (ho5 aw hne).trans hy4
  rw [hcl] at hz3 hz5
  refine ⟨y6, w6, hy6, hw6, fun j hj => ⟨?_, ?_⟩⟩
  · have r1 : y6 j = y4 j := nk_kpA (E := (D, nkKd1, Γ)) hF6.2.2.2 hk1 (by show nk_off _ (Γ aw) j = true; rw [haw]; exact nk_noK_ok (by decide +kernel) j) hj hy5 hy6
    have r2 : y4 j = updV z1 n' (.int w) j := nk_kpA (E := (D, nkKd1, Γ)) hF4.2.2.2 hk1 rfl hj hz3 hy4
    have r3 : z1 j = zw j := nk_kpA (E := (D, nkKd1, Γ)) hF2.2.2.2 hk1 rfl hj q5 hz1
    rw [r1, r2, ew]
    unfold updV
    split
    · rfl
    · exact r3
  · have r1 : w6 j = updV z4 n' (.int sg) j := nk_kpA (E := (D, nkKd1, Γ)) hF6.2.2.2 hk2 (by show nk_off _ (Γ av) j = true; rw [hav]; exact nk_noK_ok (by decide +kernel) j) hj hz5 hw6
    have r2 : z4 j = w2' j := nk_kpA (E := (D, nkKd1, Γ)) hF4.2.2.2 hk2 rfl hj hw3 hz4
    have r3 : w2' j = zs j := nk_kpA (E := (D, nkKd1, Γ)) hF2.2.2.2 hk2 rfl hj q6 hw2
    rw [r1, esg]
    unfold updV
    split
    · rfl
    · exact r2.trans r3)

def nkm1e_F : nkS := (7, [(0, 18446744073709551617, 18446744073709552736), (2, 81, 0), (2, 80, 0), (0, 18446744073709551616, 18446744073709552735), (0, 18446744071562067968, 18446744075857035263), (0, 18446744071562067968, 18446744075857035263), (2, 41, 0)], [], [], [(0, 34, 6), (0, 27, 4), (0, 28, 5)], [(6, 3, 18446744073709551617), (3, 6, 18446744073709551615)], [])
def nkm1e_en : nkIn := (191, 0, 0, 3, (6, [(2, 81, 0), (2, 80, 0), (0, 18446744073709551616, 18446744073709552735), (0, 18446744071562067968, 18446744075857035263), (0, 18446744071562067968, 18446744075857035263), (2, 41, 0)], [], [], [(0, 34, 3), (0, 27, 4), (0, 28, 5)], [], []), [(41, 34, 34), (80, 0, 1119), (81, 0, 1119)], [nkm1e_F])
def nkm1e_X : nkS := (6, [(2, 81, 0), (2, 80, 0), (0, 18446744073709551616, 18446744073709552735), (0, 18446744071562067968, 18446744075857035263), (0, 18446744071562067968, 18446744075857035263), (2, 41, 0)], [(0, 0), (1, 1), (2, 2)], [1, 3, 4], [(0, 34, 3), (0, 27, 4), (0, 28, 5)], [], [])
def nkm1e_Y : nkS := (6, [(2, 81, 0), (2, 80, 0), (0, 18446744073709551616, 18446744073709552735), (0, 18446744071562067968, 18446744075857035263), (0, 18446744071562067968, 18446744075857035263), (2, 41, 0)], [(0, 0), (1, 1), (2, 2)], [2, 3, 5], [(0, 34, 3), (0, 27, 4), (0, 28, 5)], [], [])
def nkm1e_S : nkS := (6, [(2, 81, 0), (2, 80, 0), (0, 18446744073709551616, 18446744073709552735), (0, 18446744071562067968, 18446744075857035263), (0, 18446744071562067968, 18446744075857035263), (2, 41, 0)], [(0, 0), (1, 1), (2, 2)], [], [(0, 34, 3), (0, 27, 4), (0, 28, 5)], [], [])
theorem nkm1e_g1 : nk_sgM nkKd2 [] [] 191 0 0 [] [(9, nkm1e_X, [])] 6 [] 300 nkm1e_S 0 = true := by decide +kernel
theorem nkm1e_g2 : nk_sgM nkKd2 [] [] 191 0 0 [] [(19, nkm1e_Y, [])] 6 [] 300 (nkm1e_X.1, nkm1e_X.2.1, nkm1e_X.2.2.1, [], nkm1e_X.2.2.2.2.1.filter (nk_kpM nkm1e_X 80 0 (1120 - 1)), nkm1e_X.2.2.2.2.2) 10 = true := by decide +kernel
theorem nkm1e_g3 : nk_sgM nkKd2 [] [] 191 0 0 [(41, 34, 34)] [] 6 [nkm1e_F] 300 (nkm1e_Y.1, nkm1e_Y.2.1, nkm1e_Y.2.2.1, [], nkm1e_Y.2.2.2.2.1.filter (nk_kpM nkm1e_Y 81 0 (1120 - 1)), nkm1e_Y.2.2.2.2.2) 20 = true := by decide +kernel
theorem nkm1e_met : nkMetG nkKd2 nkm1e_en (fun _ _ _ => True) (fun E ρ H H1 _ _ _ => nkPuQ E ρ H H1 1120) := nk_handG (spt := []) (by decide +kernel) (fun {y lo0} hlo0 {p l e R s m args below meth c cc D Γ ρ ls} hh _ hR => by
  have hl : lo0 = [(0, 0), (1, 1), (2, 2)] := Option.some.inj (hlo0.symm.trans (by decide +kernel))
  subst hl
  obtain ⟨w, ew, w1, w2⟩ := nk_int (hR.1.1 1 _ rfl)
  obtain ⟨sg, esg, -, -⟩ := nk_int (hR.1.1 2 _ rfl)
  obtain ⟨jx, ejx, j1, j2⟩ := nk_int (hR.1.1 3 _ rfl)
  obtain ⟨aw, eaw, haw⟩ := nk_rf (hR.1.1 4 _ rfl)
  obtain ⟨av, eav, hav⟩ := nk_rf (hR.1.1 5 _ rfl)
  have haw : Γ aw = 80 := haw
  have hav : Γ av = 81 := hav
  obtain ⟨n, hn, en, fn⟩ := nh_nI (x := jx) (by omega)
  have hcl : jx.toNatClampNeg = n := by rw [en]; exact nI_clamp hn
  have hk1 : nkKd2[Γ aw]? = some (1, 0, 1120, 1, [(0, 18446744071562067968, 18446744075857035263)]) := by rw [haw]; rfl
  have hk2 : nkKd2[Γ av]? = some (1, 0, 1120, 1, [(0, 18446744071562067968, 18446744075857035263)]) := by rw [hav]; rfl
  have cell1 : ∀ {H : Heap}, nkHc (D, nkKd2, Γ) H → ∃ z : Nat → Value, H[aw]? = some (arrV (D.2.2 0) 1120 z) := fun h => by
    obtain ⟨z, hz, -⟩ := h aw _ hk1
    exact ⟨z, hz⟩
  have cell2 : ∀ {H : Heap}, nkHc (D, nkKd2, Γ) H → ∃ z : Nat → Value, H[av]? = some (arrV (D.2.2 0) 1120 z) := fun h => by
    obtain ⟨z, hz, -⟩ := h av _ hk2
    exact ⟨z, hz⟩
  refine nk_segH (nk_nil _) nkm1e_g1 (by decide +kernel) hh hR (fun ce hce ρ2 H2 locs2 ls2 st2 hX hR2 hF2 => ?_) (fun a ha => by cases ha)
  obtain rfl := List.mem_singleton.mp hce
  have hR2 : nkR (D, nkKd2, Γ) y.2.2.1 nkm1e_en.2.2.2.2.2.1 s.heap nkm1e_X ρ2 H2 locs2 ls2 st2 := hR2
  show W p l e R s m args below meth c H2 locs2 0 0 _ (F0 m 9 ls2 st2)
  obtain ⟨z1, hz1⟩ := cell1 hR2.1.2.2.2.2.1
  refine nk_hAst hh.2.1.1 (hh.2.1.2.2.1 9 (.iastore, 1) (show nk_dk (nk_nD nhDa 191 []) 9 = some (.iastore, 1) by decide +kernel)) (show nkm1e_X.2.2.2.1 = 1 :: 3 :: 4 :: [] from rfl) hR2 ((hX 4 (by decide)).trans eaw) hk1 hz1 ((hX 3 (by decide)).trans ejx) (by omega) (by omega) ((hX 1 (by decide)).trans ew) (by rw [nk_ty1 rfl rfl]; exact nk_fl_ok Γ w) haw (by decide +kernel) (show nk_wok nkKd2 80 = true by decide +kernel) (fun H3 locs3 st3 hz3 ho3 hR3 => ?_)
  refine nk_segH (nk_nil _) nkm1e_g2 (by decide +kernel) hh hR3 (fun ce hce ρ4 H4 locs4 ls4 st4 hX4 hR4 hF4 => ?_) (fun a ha => by cases ha)
  obtain rfl := List.mem_singleton.mp hce
  have hR4 : nkR (D, nkKd2, Γ) y.2.2.1 nkm1e_en.2.2.2.2.2.1 s.heap nkm1e_Y ρ4 H4 locs4 ls4 st4 := hR4
  show W p l e R s m args below meth c H4 locs4 0 0 _ (F0 m 19 ls4 st4)
  obtain ⟨z4, hz4⟩ := cell2 hR4.1.2.2.2.2.1
  have x4 : ∀ i, i < 6 → ρ4 i = ρ i := fun i hi => (hX4 i hi).trans (hX i hi)
  refine nk_hAst hh.2.1.1 (hh.2.1.2.2.1 19 (.iastore, 1) (show nk_dk (nk_nD nhDa 191 []) 19 = some (.iastore, 1) by decide +kernel)) (show nkm1e_Y.2.2.2.1 = 2 :: 3 :: 5 :: [] from rfl) hR4 ((x4 5 (by decide)).trans eav) hk2 hz4 ((x4 3 (by decide)).trans ejx) (by omega) (by omega) ((x4 2 (by decide)).trans esg) (by rw [nk_ty1 rfl rfl]; exact nk_fl_ok Γ sg) hav (by decide +kernel) (show nk_wok nkKd2 81 = true by decide +kernel) (fun H5 locs5 st5 hz5 ho5 hR5 => ?_)
  refine nk_segH (nk_nil _) nkm1e_g3 (by decide +kernel) hh hR5 (fun ce hce => by cases hce) (fun a ha ρ6 H6 v t hX6 hT hF6 hF7 hv ht => ?_)
  obtain rfl := List.mem_singleton.mp ha
  refine nk_finG (F := nkm1e_F) (σ := (7, [6, 5, 4, 3, 2, 1, 0])) (by decide +kernel) (by decide +kernel) hT (fun i hi => (hX6 i hi).trans (x4 i hi)) (by decide) (List.mem_singleton.mpr rfl) hv ht hF7 ?_
  intro aw' av' n' zw zs q1 q2 q3 q4 q5 q6
  have q1 := eaw.symm.trans q1
  cases q1
  have q2 := eav.symm.trans q2
  cases q2
  have q3 := Value.int.inj (ejx.symm.trans q3)
  have enn : n' = n := by
    have h1 := congrArg Int32.toInt q3
    rw [nI_toInt (by omega), fn] at h1
    omega
  subst enn
  obtain ⟨y6, hy6⟩ := cell1 hT.2.2.2.2.1
  obtain ⟨w6, hw6⟩ := cell2 hT.2.2.2.2.1
  obtain ⟨y4, hy4⟩ := cell1 hR4.1.2.2.2.2.1
  obtain ⟨w2', hw2⟩ := cell2 hR2.1.2.2.2.2.1
  have hne : aw ≠ av := fun q => by rw [q, hav] at haw; exact absurd haw (by decide)
  have hw3 : H3[av]? = some (arrV (D.2.2 0) 1120 w2') := (ho3 av (Ne.symm hne)).trans hw2
  have hy5 : H5[aw]? = some (arrV (D.2.2 0) 1120 y4) := (ho5 aw hne).trans hy4
  rw [hcl] at hz3 hz5
  refine ⟨y6, w6, hy6, hw6, fun j hj => ⟨?_, ?_⟩⟩
  · have r1 : y6 j = y4 j := nk_kpA (E := (D, nkKd2, Γ)) hF6.2.2.2 hk1 (by show nk_off _ (Γ aw) j = true; rw [haw]; exact nk_noK_ok (by decide +kernel) j) hj hy5 hy6
    have r2 : y4 j = updV z1 n' (.int w) j := nk_kpA (E := (D, nkKd2, Γ)) hF4.2.2.2 hk1 rfl hj hz3 hy4
    have r3 : z1 j = zw j := nk_kpA (E := (D, nkKd2, Γ)) hF2.2.2.2 hk1 rfl hj q5 hz1
    rw [r1, r2, ew]
    unfold updV
    split
    · rfl
    · exact r3
  · have r1 : w6 j = updV z4 n' (.int sg) j := nk_kpA (E := (D, nkKd2, Γ)) hF6.2.2.2 hk2 (by show nk_off _ (Γ av) j = true; rw [hav]; exact nk_noK_ok (by decide +kernel) j) hj hz5 hw6
    have r2 : z4 j = w2' j := nk_kpA (E := (D, nkKd2, Γ)) hF4.2.2.2 hk2 rfl hj hw3 hz4
    have r3 : w2' j = zs j := nk_kpA (E := (D, nkKd2, Γ)) hF2.2.2.2 hk2 rfl hj q6 hw2
    rw [r1, esg]
    unfold updV
    split
    · rfl
    · exact r2.trans r3)

