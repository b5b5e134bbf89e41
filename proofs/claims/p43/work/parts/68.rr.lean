/-! readRule(), by hand: printed by h_rr.py -/
def nky0_ev : List Nat := [0, 2, 4, 6, 8, 10, 12, 14, 16, 18, 20, 22, 24, 26, 28, 30]
def nky0_F (t : Nat) : nkS := (12, [(0, 18446744073709551617 + t, 18446744073709551617 + t), (0, 18446744073709552176, 18446744073709552454), (0, 18446744073709551616, 18446744073709553216), (0, 18446744073709551616, 18446744073709553216), (0, 18446744073709551616 + t, 18446744073709551616 + t), (2, 56, 0), (0, 18446744073709552176, 18446744073709552176), (0, 18446744073709551617, 18446744073709551617), (0, 18446744073709551616, 18446744073709553216), (0, 18446744073709551616, 18446744073709553216), (0, 18446744073709551616, 18446744073709553216), (2, 40, 0)], [], [], [(0, 6, 8), (0, 7, 9), (0, 3, 3), (0, 34, 10), (0, 21, 6), (6, 1, 11)], [(9, 3, 18446744073709551616), (8, 9, 18446744073709551616)], [])
def nky0_W : nkWs := [(40, 4, 10), (40, 34, 37), (52, 0, 1), (60, 0, 89), (61, 0, 89), (80, 0, 1119), (81, 0, 1119), (82, 0, 1), (83, 0, 1), (56, 1, 1)]
def nky0_en (t : Nat) : nkIn := (185, 24, 1200, 1, (8, [(0, 18446744073709551616 + t, 18446744073709551616 + t), (2, 56, 0), (0, 18446744073709552176, 18446744073709552176), (0, 18446744073709551617, 18446744073709551617), (0, 18446744073709551616, 18446744073709553216), (0, 18446744073709551616, 18446744073709553216), (0, 18446744073709551616, 18446744073709553216), (2, 40, 0)], [], [], [(0, 6, 1), (0, 7, 2), (0, 3, 3), (0, 33, 4), (0, 34, 5), (0, 21, 6), (6, 1, 7)], [(2, 3, 18446744073709551616), (1, 2, 18446744073709551616)], []), nky0_W, [nky0_F t])
def nky0_sp : List (Nat × nkSp) := [(185, [(32, (2, 0), [29]), (32, (2, 0), [30]), (32, (2, 0), [27]), (32, (2, 0), [24])])]
def nky0_X (t : Nat) : nkS := (14, [(0, 18446744073709551617 + t, 18446744073709551617 + t), (2, 82, 0), (2, 80, 0), (2, 61, 0), (2, 60, 0), (0, 18446744073709551616, 18446744073709551616), (0, 18446744073709551616 + t, 18446744073709551616 + t), (2, 56, 0), (0, 18446744073709552176, 18446744073709552176), (0, 18446744073709551617, 18446744073709551617), (0, 18446744073709551616, 18446744073709553216), (0, 18446744073709551616, 18446744073709553216), (0, 18446744073709551616, 18446744073709553216), (2, 40, 0)], [(0, 0)], [0], [(0, 6, 1), (0, 7, 2), (0, 3, 3), (0, 33, 4), (0, 34, 5), (0, 21, 6), (0, 37, 8), (0, 29, 9), (0, 30, 10), (0, 27, 11), (0, 24, 12), (12, 1, 5), (6, 1, 13)], [(2, 3, 18446744073709551616), (1, 2, 18446744073709551616)], [])
theorem nky0_r1 : ∀ t ∈ nky0_ev, nk_sgM nkKd1 [] nky0_sp 185 24 1200 [(40, 37, 37), (82, 1, 1), (56, 1, 1)] [(32, nky0_X t, [])] 8 [] 300 (8, [(0, 18446744073709551616 + t, 18446744073709551616 + t), (2, 56, 0), (0, 18446744073709552176, 18446744073709552176), (0, 18446744073709551617, 18446744073709551617), (0, 18446744073709551616, 18446744073709553216), (0, 18446744073709551616, 18446744073709553216), (0, 18446744073709551616, 18446744073709553216), (2, 40, 0)], [(0, 0)], [], [(0, 6, 1), (0, 7, 2), (0, 3, 3), (0, 33, 4), (0, 34, 5), (0, 21, 6), (6, 1, 7)], [(2, 3, 18446744073709551616), (1, 2, 18446744073709551616)], []) 0 = true := by decide +kernel
theorem nky0_c1 : ∀ t ∈ nky0_ev, nk_calC nkKd1 185 24 1200 nky0_W (nky0_X t) 32 nkx0_en = some ((10, [11, 10, 9, 3, 2, 1, 4, 8, 5, 0]), []) := by decide +kernel
def nky0_G (t : Nat) : nkS := (18, [(2, 83, 0), (0, 18446744073709551616, 18446744073709553216), (0, 18446744073709551616, 18446744073709553216), (0, 18446744073709551616, 18446744073709552736), (0, 18446744073709551617 + t, 18446744073709551617 + t), (2, 82, 0), (2, 80, 0), (2, 61, 0), (2, 60, 0), (0, 18446744073709551616, 18446744073709551616), (0, 18446744073709551616 + t, 18446744073709551616 + t), (2, 56, 0), (0, 18446744073709552176, 18446744073709552176), (0, 18446744073709551617, 18446744073709551617), (0, 18446744073709551616, 18446744073709553216), (0, 18446744073709551616, 18446744073709553216), (0, 18446744073709551616, 18446744073709553216), (2, 40, 0)], [], [], [(0, 34, 14), (0, 6, 15), (0, 7, 16), (0, 3, 3), (0, 21, 6), (6, 1, 13), (0, 27, 11), (0, 24, 12), (12, 1, 5), (0, 25, 17), (17, 1, 14)], [(15, 16, 18446744073709551616), (16, 3, 18446744073709551616)], [])
theorem nky0_r2 : ∀ t ∈ nky0_ev, nk_afM (nk_aft (nky0_X t) [] 10 (10, [11, 10, 9, 3, 2, 1, 4, 8, 5, 0]) nkx0_en.2.2.2.2.2.1 nkx0_F) (fun S' => nk_sgM nkKd1 [] nky0_sp 185 24 1200 [(83, 1, 1)] [] 17 [nky0_G t] 300 S' 35) = true := by decide +kernel
theorem nky0_n1 : ∀ t ∈ nky0_ev, nk_ent 8 (nky0_F t) (nk_set (nky0_G t) 14 (0, 18446744073709552176, 18446744073709552454)) = some (12, [13, 14, 16, 15, 7, 6, 5, 4, 3, 2, 1, 0]) := by decide +kernel
theorem nky0_n2 : ∀ t ∈ nky0_ev, nk_stB (nk_set (nky0_G t) 14 (0, 18446744073709552176, 18446744073709552454)) = true := by decide +kernel
theorem nky0_h : ∀ t ∈ nky0_ev, nk_hdB (nky0_en t) = true := by decide +kernel
theorem nky0_l : ∀ t ∈ nky0_ev, nk_lo0 (nky0_en t).2.2.2.2.1 0 (List.range 1) = some [(0, 0)] := by decide +kernel
theorem nky0_rr (t : Nat) (ht : t ∈ nky0_ev) : nkMetI nkKds (nky0_en t) := nk_handI (spt := nky0_sp) (nky0_h t ht) (fun {y lo0} hlo0 {p l e R s m args below meth c cc D Γ ρ ls} hh hR => by
  have hl : lo0 = [(0, 0)] := Option.some.inj (hlo0.symm.trans (nky0_l t ht))
  subst hl
  have hH0 : nkH (D, nkKds, Γ) s.heap := hR.1.2.2.2.2
  obtain ⟨hUq, hJ⟩ := hH0.2 (show nk_jf nkKds = true by decide +kernel)
  have hUq : nkUq Γ := hUq
  have hh1 : nkHc2 p R s m args meth c cc (D, nkKd1, Γ) nky0_sp (nky0_en t).1 y (nky0_en t).2.1 (nky0_en t).2.2.1 := hh.sw (nk_sim_len nk_s10)
  have hA : nkA (D, nkKds, Γ) = nkA (D, nkKd1, Γ) := nkA_sw (nk_sim_len nk_s01)
  have hR1 := hR.sw nk_s01 nk_s10 hH0.d1
  rw [hA]
  refine nk_segH (nk_nil _) (nky0_r1 t ht) (show nk_sub [(40, 37, 37), (82, 1, 1), (56, 1, 1)] nky0_W = true by decide +kernel) hh1 hR1 (fun ce hce ρ2 H2 l2 ls2 st2 hX2 hR2 hF2 => ?_) (fun a ha => by cases ha)
  obtain rfl := List.mem_singleton.mp hce
  have hR2 : nkR (D, nkKd1, Γ) y.2.2.1 nky0_W s.heap (nky0_X t) ρ2 H2 l2 ls2 st2 := hR2
  show W p l e R s m args below meth c H2 l2 0 0 _ (F0 m 32 ls2 st2)
  obtain ⟨ac, e11, hΓc⟩ := nk_rf (hR2.1.1 11 _ rfl)
  obtain ⟨af, e12, hΓf⟩ := nk_rf (hR2.1.1 12 _ rfl)
  have hΓc : Γ ac = 80 := hΓc
  have hΓf : Γ af = 82 := hΓf
  have hkc : nkKd1[Γ ac]? = some (1, 0, 1120, 1, [(0, 18446744071562067968, 18446744075857035263)]) := by rw [hΓc]; rfl
  have hkf : nkKd1[Γ af]? = some (1, 0, 2, 1, [(0, 18446744071562067968, 18446744075857035263)]) := by rw [hΓf]; rfl
  obtain ⟨zc0, hzc0, -⟩ := nk_cel1 (E := (D, nkKd1, Γ)) hR1.1.2.2.2.2.1 hkc
  obtain ⟨zc2, hzc2, -⟩ := nk_cel1 (E := (D, nkKd1, Γ)) hR2.1.2.2.2.2.1 hkc
  have c2 : ∀ k, k < 1120 → zc2 k = zc0 k := fun k hk => nk_kpA (E := (D, nkKd1, Γ)) hF2.2.2.2 hkc (by show nk_off _ (Γ ac) k = true; rw [hΓc]; exact nk_noK_ok (by decide +kernel) k) hk hzc0 hzc2
  refine nk_callC hh1 (nky0_c1 t ht) (nkx0_e zc0) hR2 ⟨hUq, fun ac' hac' => by
    have hac' : ρ2 11 = .ref ac' := hac'
    rw [e11] at hac'
    cases hac'
    exact ⟨zc2, hzc2, c2⟩⟩ (fun F hF S' ρ' ρ3 H3 l3 st3 v hS' hX3 hρ hX' hR3 hF3 hG => ?_)
  obtain rfl := List.mem_singleton.mp hF
  obtain ⟨ac', c', zc3, h, k9, k10, hzc3, hrow, hc', hzo⟩ := hG
  have k9 : ρ2 11 = .ref ac' := k9
  rw [e11] at k9
  cases k9
  refine nk_segH (nk_nil _) (nk_afM_ok (nky0_r2 t ht) hS') (show nk_sub [(83, 1, 1)] nky0_W = true by decide +kernel) hh1 hR3 (fun ce hce => by cases hce) (fun a ha ρ4 H4 v4 t4 hX4 hT4 hF4 hF5 hv ht4 => ?_)
  obtain rfl := List.mem_singleton.mp ha
  have y4 : ∀ i, i < 14 → ρ4 i = ρ2 i := fun i hi => (hX4 i (Nat.lt_of_lt_of_le hi (by decide))).trans (hX3 i hi)
  have u14 : ρ4 14 = .int (nI c') := (hX4 14 (by decide)).trans ((hρ 0).trans k10)
  have hcc := hrow.1
  have hTs : nkT (D, nkKd1, Γ) (nk_set (nky0_G t) 14 (0, 18446744073709552176, 18446744073709552454)) ρ4 H4 := ⟨fun i w hi => (nk_g_u hi).elim (fun q => by rw [q.1, q.2, u14]; exact nk_okI (by rw [nI_toInt (by omega)]; omega) (by rw [nI_toInt (by omega)]; omega)) (fun q => hT4.1 i w q), hT4.2⟩
  obtain ⟨at', e17, hΓt⟩ := nk_rf (hT4.1 17 _ rfl)
  have hΓt : Γ at' = 83 := hΓt
  have hkt : nkKd1[Γ at']? = some (1, 0, 2, 1, [(0, 18446744071562067968, 18446744075857035263)]) := by rw [hΓt]; rfl
  have v5 : ρ4 5 = .int (nI 560) := by
    obtain ⟨r, er, r1, r2⟩ := nk_int (hT4.1 5 _ rfl)
    rw [er, nk_nI (x := r) (m := 560) (by omega)]
  obtain ⟨zf0, hzf0, -⟩ := nk_cel1 (E := (D, nkKd1, Γ)) hR1.1.2.2.2.2.1 hkf
  obtain ⟨zt0, hzt0, -⟩ := nk_cel1 (E := (D, nkKd1, Γ)) hR1.1.2.2.2.2.1 hkt
  obtain ⟨zf2, hzf2, -⟩ := nk_cel1 (E := (D, nkKd1, Γ)) hR2.1.2.2.2.2.1 hkf
  obtain ⟨zt2, hzt2, -⟩ := nk_cel1 (E := (D, nkKd1, Γ)) hR2.1.2.2.2.2.1 hkt
  obtain ⟨zf3, hzf3, -⟩ := nk_cel1 (E := (D, nkKd1, Γ)) hR3.1.2.2.2.2.1 hkf
  obtain ⟨zt3, hzt3, -⟩ := nk_cel1 (E := (D, nkKd1, Γ)) hR3.1.2.2.2.2.1 hkt
  have hJ4 : nkJ (D, nkKds, Γ) H4 := fun _ => ⟨hUq, fun xc xf xt q1 q2 q3 yc yf yt g1 g2 g3 b hb => by
    have q1 : Γ xc = 80 := q1
    have q2 : Γ xf = 82 := q2
    have q3 : Γ xt = 83 := q3
    have o1 : xc = ac := hUq ac xc (by rw [q1, hΓc]) (by rw [hΓc]; decide) (by rw [hΓc]; decide)
    have o2 : xf = af := hUq af xf (by rw [q2, hΓf]) (by rw [hΓf]; decide) (by rw [hΓf]; decide)
    have o3 : xt = at' := hUq at' xt (by rw [q3, hΓt]) (by rw [hΓt]; decide) (by rw [hΓt]; decide)
    subst o1 o2 o3
    have hyc : ∀ k, k < 1120 → yc k = zc3 k := fun k hk => nk_kpA (E := (D, nkKd1, Γ)) hF4.2.2.2 hkc (by show nk_off _ (Γ xc) k = true; rw [hΓc]; exact nk_noK_ok (by decide +kernel) k) hk hzc3 g1
    by_cases hbr : b = 1
    · subst hbr
      have w1 : yf 1 = .int (nI 560) := (nk_meA (E := (D, nkKd1, Γ)) hT4.2.1 (show (12, 1, 5) ∈ (nky0_G t).2.2.2.2.1 from by show (12, 1, 5) ∈ (nky0_G 0).2.2.2.2.1; decide) ((y4 12 (by decide)).trans e12) hkf g2).symm.trans v5
      have w2 : yt 1 = .int (nI c') := (nk_meA (E := (D, nkKd1, Γ)) hT4.2.1 (show (17, 1, 14) ∈ (nky0_G t).2.2.2.2.1 from by show (17, 1, 14) ∈ (nky0_G 0).2.2.2.2.1; decide) e17 hkt g3).symm.trans u14
      exact ⟨⟨560, c', h, w1, w2, by omega, by omega, hrow.2.1, fun k h1 h2 => by rw [hyc k (by omega)]; exact hrow.2.2 k h1 h2⟩, ⟨560, c', w1, w2, by omega, by omega, Or.inr ⟨by omega, by omega⟩⟩⟩
    · have hbo : b = 0 := by omega
      subst hbo
      have w1 : yf 0 = zf0 0 := ((nk_kpA (E := (D, nkKd1, Γ)) hF4.2.2.2 hkf (by show nk_off _ (Γ xf) 0 = true; rw [hΓf]; decide +kernel) (by decide) hzf3 g2).trans (nk_kpA (E := (D, nkKd1, Γ)) hF3.2.2.2 hkf (by show nk_off _ (Γ xf) 0 = true; rw [hΓf]; decide +kernel) (by decide) hzf2 hzf3)).trans (nk_kpA (E := (D, nkKd1, Γ)) hF2.2.2.2 hkf (by show nk_off _ (Γ xf) 0 = true; rw [hΓf]; decide +kernel) (by decide) hzf0 hzf2)
      have w2 : yt 0 = zt0 0 := ((nk_kpA (E := (D, nkKd1, Γ)) hF4.2.2.2 hkt (by show nk_off _ (Γ xt) 0 = true; rw [hΓt]; decide +kernel) (by decide) hzt3 g3).trans (nk_kpA (E := (D, nkKd1, Γ)) hF3.2.2.2 hkt (by show nk_off _ (Γ xt) 0 = true; rw [hΓt]; decide +kernel) (by decide) hzt2 hzt3)).trans (nk_kpA (E := (D, nkKd1, Γ)) hF2.2.2.2 hkt (by show nk_off _ (Γ xt) 0 = true; rw [hΓt]; decide +kernel) (by decide) hzt0 hzt2)
      obtain ⟨⟨f, g, hgt, ef, eg, hf, hg, h0, hG⟩, f', g', ef', eg', hf', hg', hcase⟩ := hJ xc xf xt hΓc hΓf hΓt zc0 zf0 zt0 hzc0 hzf0 hzt0 0 (by decide)
      have eff : f' = f := by
        have h5 := congrArg Int32.toInt (Value.int.inj (ef.symm.trans ef'))
        rw [nI_toInt (by omega), nI_toInt (by omega)] at h5
        omega
      have egg : g' = g := by
        have h5 := congrArg Int32.toInt (Value.int.inj (eg.symm.trans eg'))
        rw [nI_toInt (by omega), nI_toInt (by omega)] at h5
        omega
      subst eff egg
      rw [w1, w2]
      refine ⟨⟨f', g', hgt, ef, eg, hf, hg, h0, fun k h1 h2 => ?_⟩, f', g', ef, eg, hf, hg, hcase⟩
      rw [hyc k (by omega), hzo k (by omega) (by omega)]
      exact hG k h1 h2⟩
  exact nk_finI (F := nky0_F t) (nky0_n1 t ht) (nky0_n2 t ht) (E := (D, nkKds, Γ)) ⟨hTs.1, hTs.2.1.sw nk_s10, hTs.2.2.1, hTs.2.2.2.1, hTs.2.2.2.2.d0 hJ4⟩ (fun i hi => (y4 i (Nat.lt_of_lt_of_le hi (by show 8 ≤ 14; decide))).trans (hX2 i hi)) (by show 8 ≤ 12; decide) (List.mem_singleton.mpr rfl) hv ht4 (hF5.sw nk_s01))

def nky1_ev : List Nat := [0, 2, 4, 6, 8, 10, 12, 14, 16, 18, 20, 22, 24, 26, 28, 30]
def nky1_F (t : Nat) : nkS := (12, [(0, 18446744073709551617 + t, 18446744073709551617 + t), (0, 18446744073709551616, 18446744073709551894), (0, 18446744073709551616, 18446744073709553216), (0, 18446744073709551616, 18446744073709553216), (0, 18446744073709551616 + t, 18446744073709551616 + t), (2, 56, 0), (0, 18446744073709551616, 18446744073709551616), (0, 18446744073709551616, 18446744073709551616), (0, 18446744073709551616, 18446744073709553216), (0, 18446744073709551616, 18446744073709553216), (0, 18446744073709551616, 18446744073709553216), (2, 41, 0)], [], [], [(0, 6, 8), (0, 7, 9), (0, 3, 3), (0, 34, 10), (0, 21, 6), (6, 0, 11)], [(9, 3, 18446744073709551616), (8, 9, 18446744073709551616)], [])
def nky1_W : nkWs := [(41, 4, 10), (41, 34, 37), (52, 0, 1), (60, 0, 89), (61, 0, 89), (80, 0, 1119), (81, 0, 1119), (82, 0, 1), (83, 0, 1), (56, 0, 0)]
def nky1_en (t : Nat) : nkIn := (185, 24, 1200, 1, (8, [(0, 18446744073709551616 + t, 18446744073709551616 + t), (2, 56, 0), (0, 18446744073709551616, 18446744073709551616), (0, 18446744073709551616, 18446744073709551616), (0, 18446744073709551616, 18446744073709553216), (0, 18446744073709551616, 18446744073709553216), (0, 18446744073709551616, 18446744073709553216), (2, 41, 0)], [], [], [(0, 6, 1), (0, 7, 2), (0, 3, 3), (0, 33, 4), (0, 34, 5), (0, 21, 6), (6, 0, 7)], [(2, 3, 18446744073709551616), (1, 2, 18446744073709551616)], []), nky1_W, [nky1_F t])
def nky1_sp : List (Nat × nkSp) := [(185, [(32, (2, 0), [29]), (32, (2, 0), [30]), (32, (2, 0), [27]), (32, (2, 0), [24])])]
def nky1_X (t : Nat) : nkS := (14, [(0, 18446744073709551617 + t, 18446744073709551617 + t), (2, 82, 0), (2, 80, 0), (2, 61, 0), (2, 60, 0), (0, 18446744073709551616, 18446744073709551616), (0, 18446744073709551616 + t, 18446744073709551616 + t), (2, 56, 0), (0, 18446744073709551616, 18446744073709551616), (0, 18446744073709551616, 18446744073709551616), (0, 18446744073709551616, 18446744073709553216), (0, 18446744073709551616, 18446744073709553216), (0, 18446744073709551616, 18446744073709553216), (2, 41, 0)], [(0, 0)], [0], [(0, 6, 1), (0, 7, 2), (0, 3, 3), (0, 33, 4), (0, 34, 5), (0, 21, 6), (0, 37, 8), (0, 29, 9), (0, 30, 10), (0, 27, 11), (0, 24, 12), (12, 0, 5), (6, 0, 13)], [(2, 3, 18446744073709551616), (1, 2, 18446744073709551616)], [])
theorem nky1_r1 : ∀ t ∈ nky1_ev, nk_sgM nkKd1 [] nky1_sp 185 24 1200 [(41, 37, 37), (82, 0, 0), (56, 0, 0)] [(32, nky1_X t, [])] 8 [] 300 (8, [(0, 18446744073709551616 + t, 18446744073709551616 + t), (2, 56, 0), (0, 18446744073709551616, 18446744073709551616), (0, 18446744073709551616, 18446744073709551616), (0, 18446744073709551616, 18446744073709553216), (0, 18446744073709551616, 18446744073709553216), (0, 18446744073709551616, 18446744073709553216), (2, 41, 0)], [(0, 0)], [], [(0, 6, 1), (0, 7, 2), (0, 3, 3), (0, 33, 4), (0, 34, 5), (0, 21, 6), (6, 0, 7)], [(2, 3, 18446744073709551616), (1, 2, 18446744073709551616)], []) 0 = true := by decide +kernel
theorem nky1_c1 : ∀ t ∈ nky1_ev, nk_calC nkKd1 185 24 1200 nky1_W (nky1_X t) 32 nkx1_en = some ((10, [11, 10, 9, 3, 2, 1, 4, 8, 5, 0]), []) := by decide +kernel
def nky1_G (t : Nat) : nkS := (18, [(2, 83, 0), (0, 18446744073709551616, 18446744073709553216), (0, 18446744073709551616, 18446744073709553216), (0, 18446744073709551616, 18446744073709552736), (0, 18446744073709551617 + t, 18446744073709551617 + t), (2, 82, 0), (2, 80, 0), (2, 61, 0), (2, 60, 0), (0, 18446744073709551616, 18446744073709551616), (0, 18446744073709551616 + t, 18446744073709551616 + t), (2, 56, 0), (0, 18446744073709551616, 18446744073709551616), (0, 18446744073709551616, 18446744073709551616), (0, 18446744073709551616, 18446744073709553216), (0, 18446744073709551616, 18446744073709553216), (0, 18446744073709551616, 18446744073709553216), (2, 41, 0)], [], [], [(0, 34, 14), (0, 6, 15), (0, 7, 16), (0, 3, 3), (0, 21, 6), (6, 0, 13), (0, 27, 11), (0, 24, 12), (12, 0, 5), (0, 25, 17), (17, 0, 14)], [(15, 16, 18446744073709551616), (16, 3, 18446744073709551616)], [])
theorem nky1_r2 : ∀ t ∈ nky1_ev, nk_afM (nk_aft (nky1_X t) [] 10 (10, [11, 10, 9, 3, 2, 1, 4, 8, 5, 0]) nkx1_en.2.2.2.2.2.1 nkx1_F) (fun S' => nk_sgM nkKd1 [] nky1_sp 185 24 1200 [(83, 0, 0)] [] 17 [nky1_G t] 300 S' 35) = true := by decide +kernel
theorem nky1_n1 : ∀ t ∈ nky1_ev, nk_ent 8 (nky1_F t) (nk_set (nky1_G t) 14 (0, 18446744073709551616, 18446744073709551894)) = some (12, [13, 14, 16, 15, 7, 6, 5, 4, 3, 2, 1, 0]) := by decide +kernel
theorem nky1_n2 : ∀ t ∈ nky1_ev, nk_stB (nk_set (nky1_G t) 14 (0, 18446744073709551616, 18446744073709551894)) = true := by decide +kernel
theorem nky1_h : ∀ t ∈ nky1_ev, nk_hdB (nky1_en t) = true := by decide +kernel
theorem nky1_l : ∀ t ∈ nky1_ev, nk_lo0 (nky1_en t).2.2.2.2.1 0 (List.range 1) = some [(0, 0)] := by decide +kernel
theorem nky1_rr (t : Nat) (ht : t ∈ nky1_ev) : nkMetI nkKds (nky1_en t) := nk_handI (spt := nky1_sp) (nky1_h t ht) (fun {y lo0} hlo0 {p l e R s m args below meth c cc D Γ ρ ls} hh hR => by
  have hl : lo0 = [(0, 0)] := Option.some.inj (hlo0.symm.trans (nky1_l t ht))
  subst hl
  have hH0 : nkH (D, nkKds, Γ) s.heap := hR.1.2.2.2.2
  obtain ⟨hUq, hJ⟩ := hH0.2 (show nk_jf nkKds = true by decide +kernel)
  have hUq : nkUq Γ := hUq
  have hh1 : nkHc2 p R s m args meth c cc (D, nkKd1, Γ) nky1_sp (nky1_en t).1 y (nky1_en t).2.1 (nky1_en t).2.2.1 := hh.sw (nk_sim_len nk_s10)
  have hA : nkA (D, nkKds, Γ) = nkA (D, nkKd1, Γ) := nkA_sw (nk_sim_len nk_s01)
  have hR1 := hR.sw nk_s01 nk_s10 hH0.d1
  rw [hA]
  refine nk_segH (nk_nil _) (nky1_r1 t ht) (show nk_sub [(41, 37, 37), (82, 0, 0), (56, 0, 0)] nky1_W = true by decide +kernel) hh1 hR1 (fun ce hce ρ2 H2 l2 ls2 st2 hX2 hR2 hF2 => ?_) (fun a ha => by cases ha)
  obtain rfl := List.mem_singleton.mp hce
  have hR2 : nkR (D, nkKd1, Γ) y.2.2.1 nky1_W s.heap (nky1_X t) ρ2 H2 l2 ls2 st2 := hR2
  show W p l e R s m args below meth c H2 l2 0 0 _ (F0 m 32 ls2 st2)
  obtain ⟨ac, e11, hΓc⟩ := nk_rf (hR2.1.1 11 _ rfl)
  obtain ⟨af, e12, hΓf⟩ := nk_rf (hR2.1.1 12 _ rfl)
  have hΓc : Γ ac = 80 := hΓc
  have hΓf : Γ af = 82 := hΓf
  have hkc : nkKd1[Γ ac]? = some (1, 0, 1120, 1, [(0, 18446744071562067968, 18446744075857035263)]) := by rw [hΓc]; rfl
  have hkf : nkKd1[Γ af]? = some (1, 0, 2, 1, [(0, 18446744071562067968, 18446744075857035263)]) := by rw [hΓf]; rfl
  obtain ⟨zc0, hzc0, -⟩ := nk_cel1 (E := (D, nkKd1, Γ)) hR1.1.2.2.2.2.1 hkc
  obtain ⟨zc2, hzc2, -⟩ := nk_cel1 (E := (D, nkKd1, Γ)) hR2.1.2.2.2.2.1 hkc
  have c2 : ∀ k, k < 1120 → zc2 k = zc0 k := fun k hk => nk_kpA (E := (D, nkKd1, Γ)) hF2.2.2.2 hkc (by show nk_off _ (Γ ac) k = true; rw [hΓc]; exact nk_noK_ok (by decide +kernel) k) hk hzc0 hzc2
  refine nk_callC hh1 (nky1_c1 t ht) (nkx1_e zc0) hR2 ⟨hUq, fun ac' hac' => by
    have hac' : ρ2 11 = .ref ac' := hac'
    rw [e11] at hac'
    cases hac'
    exact ⟨zc2, hzc2, c2⟩⟩ (fun F hF S' ρ' ρ3 H3 l3 st3 v hS' hX3 hρ hX' hR3 hF3 hG => ?_)
  obtain rfl := List.mem_singleton.mp hF
  obtain ⟨ac', c', zc3, h, k9, k10, hzc3, hrow, hc', hzo⟩ := hG
  have k9 : ρ2 11 = .ref ac' := k9
  rw [e11] at k9
  cases k9
  refine nk_segH (nk_nil _) (nk_afM_ok (nky1_r2 t ht) hS') (show nk_sub [(83, 0, 0)] nky1_W = true by decide +kernel) hh1 hR3 (fun ce hce => by cases hce) (fun a ha ρ4 H4 v4 t4 hX4 hT4 hF4 hF5 hv ht4 => ?_)
  obtain rfl := List.mem_singleton.mp ha
  have y4 : ∀ i, i < 14 → ρ4 i = ρ2 i := fun i hi => (hX4 i (Nat.lt_of_lt_of_le hi (by decide))).trans (hX3 i hi)
  have u14 : ρ4 14 = .int (nI c') := (hX4 14 (by decide)).trans ((hρ 0).trans k10)
  have hcc := hrow.1
  have hTs : nkT (D, nkKd1, Γ) (nk_set (nky1_G t) 14 (0, 18446744073709551616, 18446744073709551894)) ρ4 H4 := ⟨fun i w hi => (nk_g_u hi).elim (fun q => by rw [q.1, q.2, u14]; exact nk_okI (by rw [nI_toInt (by omega)]; omega) (by rw [nI_toInt (by omega)]; omega)) (fun q => hT4.1 i w q), hT4.2⟩
  obtain ⟨at', e17, hΓt⟩ := nk_rf (hT4.1 17 _ rfl)
  have hΓt : Γ at' = 83 := hΓt
  have hkt : nkKd1[Γ at']? = some (1, 0, 2, 1, [(0, 18446744071562067968, 18446744075857035263)]) := by rw [hΓt]; rfl
  have v5 : ρ4 5 = .int (nI 0) := by
    obtain ⟨r, er, r1, r2⟩ := nk_int (hT4.1 5 _ rfl)
    rw [er, nk_nI (x := r) (m := 0) (by omega)]
  obtain ⟨zf0, hzf0, -⟩ := nk_cel1 (E := (D, nkKd1, Γ)) hR1.1.2.2.2.2.1 hkf
  obtain ⟨zt0, hzt0, -⟩ := nk_cel1 (E := (D, nkKd1, Γ)) hR1.1.2.2.2.2.1 hkt
  obtain ⟨zf2, hzf2, -⟩ := nk_cel1 (E := (D, nkKd1, Γ)) hR2.1.2.2.2.2.1 hkf
  obtain ⟨zt2, hzt2, -⟩ := nk_cel1 (E := (D, nkKd1, Γ)) hR2.1.2.2.2.2.1 hkt
  obtain ⟨zf3, hzf3, -⟩ := nk_cel1 (E := (D, nkKd1, Γ)) hR3.1.2.2.2.2.1 hkf
  obtain ⟨zt3, hzt3, -⟩ := nk_cel1 (E := (D, nkKd1, Γ)) hR3.1.2.2.2.2.1 hkt
  have hJ4 : nkJ (D, nkKds, Γ) H4 := fun _ => ⟨hUq, fun xc xf xt q1 q2 q3 yc yf yt g1 g2 g3 b hb => by
    have q1 : Γ xc = 80 := q1
    have q2 : Γ xf = 82 := q2
    have q3 : Γ xt = 83 := q3
    have o1 : xc = ac := hUq ac xc (by rw [q1, hΓc]) (by rw [hΓc]; decide) (by rw [hΓc]; decide)
    have o2 : xf = af := hUq af xf (by rw [q2, hΓf]) (by rw [hΓf]; decide) (by rw [hΓf]; decide)
    have o3 : xt = at' := hUq at' xt (by rw [q3, hΓt]) (by rw [hΓt]; decide) (by rw [hΓt]; decide)
    subst o1 o2 o3
    have hyc : ∀ k, k < 1120 → yc k = zc3 k := fun k hk => nk_kpA (E := (D, nkKd1, Γ)) hF4.2.2.2 hkc (by show nk_off _ (Γ xc) k = true; rw [hΓc]; exact nk_noK_ok (by decide +kernel) k) hk hzc3 g1
    by_cases hbr : b = 0
    · subst hbr
      have w1 : yf 0 = .int (nI 0) := (nk_meA (E := (D, nkKd1, Γ)) hT4.2.1 (show (12, 0, 5) ∈ (nky1_G t).2.2.2.2.1 from by show (12, 0, 5) ∈ (nky1_G 0).2.2.2.2.1; decide) ((y4 12 (by decide)).trans e12) hkf g2).symm.trans v5
      have w2 : yt 0 = .int (nI c') := (nk_meA (E := (D, nkKd1, Γ)) hT4.2.1 (show (17, 0, 14) ∈ (nky1_G t).2.2.2.2.1 from by show (17, 0, 14) ∈ (nky1_G 0).2.2.2.2.1; decide) e17 hkt g3).symm.trans u14
      exact ⟨⟨0, c', h, w1, w2, by omega, by omega, hrow.2.1, fun k h1 h2 => by rw [hyc k (by omega)]; exact hrow.2.2 k h1 h2⟩, ⟨0, c', w1, w2, by omega, by omega, Or.inr ⟨by omega, by omega⟩⟩⟩
    · have hbo : b = 1 := by omega
      subst hbo
      have w1 : yf 1 = zf0 1 := ((nk_kpA (E := (D, nkKd1, Γ)) hF4.2.2.2 hkf (by show nk_off _ (Γ xf) 1 = true; rw [hΓf]; decide +kernel) (by decide) hzf3 g2).trans (nk_kpA (E := (D, nkKd1, Γ)) hF3.2.2.2 hkf (by show nk_off _ (Γ xf) 1 = true; rw [hΓf]; decide +kernel) (by decide) hzf2 hzf3)).trans (nk_kpA (E := (D, nkKd1, Γ)) hF2.2.2.2 hkf (by show nk_off _ (Γ xf) 1 = true; rw [hΓf]; decide +kernel) (by decide) hzf0 hzf2)
      have w2 : yt 1 = zt0 1 := ((nk_kpA (E := (D, nkKd1, Γ)) hF4.2.2.2 hkt (by show nk_off _ (Γ xt) 1 = true; rw [hΓt]; decide +kernel) (by decide) hzt3 g3).trans (nk_kpA (E := (D, nkKd1, Γ)) hF3.2.2.2 hkt (by show nk_off _ (Γ xt) 1 = true; rw [hΓt]; decide +kernel) (by decide) hzt2 hzt3)).trans (nk_kpA (E := (D, nkKd1, Γ)) hF2.2.2.2 hkt (by show nk_off _ (Γ xt) 1 = true; rw [hΓt]; decide +kernel) (by decide) hzt0 hzt2)
      obtain ⟨⟨f, g, hgt, ef, eg, hf, hg, h0, hG⟩, f', g', ef', eg', hf', hg', hcase⟩ := hJ xc xf xt hΓc hΓf hΓt zc0 zf0 zt0 hzc0 hzf0 hzt0 1 (by decide)
      have eff : f' = f := by
        have h5 := congrArg Int32.toInt (Value.int.inj (ef.symm.trans ef'))
        rw [nI_toInt (by omega), nI_toInt (by omega)] at h5
        omega
      have egg : g' = g := by
        have h5 := congrArg Int32.toInt (Value.int.inj (eg.symm.trans eg'))
        rw [nI_toInt (by omega), nI_toInt (by omega)] at h5
        omega
      subst eff egg
      rw [w1, w2]
      refine ⟨⟨f', g', hgt, ef, eg, hf, hg, h0, fun k h1 h2 => ?_⟩, f', g', ef, eg, hf, hg, hcase⟩
      rw [hyc k (by omega), hzo k (by omega) (by omega)]
      exact hG k h1 h2⟩
  exact nk_finI (F := nky1_F t) (nky1_n1 t ht) (nky1_n2 t ht) (E := (D, nkKds, Γ)) ⟨hTs.1, hTs.2.1.sw nk_s10, hTs.2.2.1, hTs.2.2.2.1, hTs.2.2.2.2.d0 hJ4⟩ (fun i hi => (y4 i (Nat.lt_of_lt_of_le hi (by show 8 ≤ 14; decide))).trans (hX2 i hi)) (by show 8 ≤ 12; decide) (List.mem_singleton.mpr rfl) hv ht4 (hF5.sw nk_s01))

