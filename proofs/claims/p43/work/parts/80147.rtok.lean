/-! Tokens.kindOfWord and Tokens.advance, by hand: printed by h_tok.py -/
def nqt_H : nkS := (5, [(0, 18446744073709551616, 18446744073709551708), (0, 18446744071562067968, 18446744075857035263), (1, 9223372036854775808, 27670116110564327423), (2, 11, 0), (2, 8, 0)], [(0, 0), (1, 2), (3, 3), (4, 4)], [], [], [], [])
def nqt_F : nkS := (3, [(0, 18446744071562067968, 18446744075857035263), (2, 11, 0), (2, 8, 0)], [], [2], [], [], [])
def nqt_O : nkS := (8, [(0, 18446744073709551617, 18446744073709551708), (0, 18446744071562067968, 18446744075857035263), (1, 9223372036854775808, 27670116110564327423), (0, 18446744073709551616, 18446744073709551707), (0, 18446744071562067968, 18446744075857035263), (1, 9223372036854775808, 27670116110564327423), (2, 11, 0), (2, 8, 0)], [(0, 0), (1, 5), (3, 6), (4, 7)], [], [], [(7, 4, 18446744073709551617), (4, 7, 18446744073709551615)], [])
def nqt_G : nkS := (6, [(0, 18446744071562067968, 18446744075857035263), (0, 18446744073709551616, 18446744073709551707), (0, 18446744071562067968, 18446744075857035263), (1, 9223372036854775808, 27670116110564327423), (2, 11, 0), (2, 8, 0)], [], [5], [], [], [])
def nqt_E : nkS := (2, [(2, 11, 0), (2, 8, 0)], [(0, 0)], [], [(0, 0, 1)], [], [])
def nqe_5 : nkIn := (18, 6, 200, 1, (2, [(2, 11, 0), (2, 8, 0)], [], [], [(0, 0, 1)], [], []), [], [(3, [(0, 18446744071562067968, 18446744075857035263), (2, 11, 0), (2, 8, 0)], [], [2], [], [], [])])
theorem nqt_a : nk_sgM nkKdL [] nkSpts 18 6 200 [] [(9, nqt_H, [])] 2 [] 3000 nqt_E 0 = true := by decide +kernel
theorem nqt_r : nk_sgM nkKdL [] nkSpts 18 6 200 [] [] 2 [nqt_F] 3000 nqt_H 75 = true := by decide +kernel
theorem nqt_b : nk_sgM nkKdL [] nkSpts 18 6 200 [] [(9, nqt_O, [])] 5 [nqt_G] 3000 (nk_push (nk_set nqt_H 4 (0, 18446744073709551616, 18446744073709551707)) [] nk_fl) 26 = true := by decide +kernel
theorem nqt_loop {p : Program} {l : Launch} {e : Env} {R : Room} {s : State} {m : MethodId} {args : Array Value} {below : List Frame} {meth : Method} {c : Code} {cc : ByteArray} {D : nhD} {Γ : Nat → Nat} {y : nhMth} {ρ0 : Nat → Value} (hh : nkHc2 p R s m args meth c cc (D, nkKdL, Γ) nkSpts 18 y 6 200)
    {K V : Nat → Nat} (hS : nsS K V (nkA (D, nkKdL, Γ)) s) (hK : vk_R "NightHouses$Tokens" 72 nkTx0 (K 0) s) :
    ∀ (d k : Nat) (ρ : Nat → Value) (H : Heap) (locs : List Loc) (ls : Array Slot) (st : List Value), 92 - k = d → k ≤ 92 → ρ 4 = .int (nI k) → nkX 2 ρ0 ρ → nkR (D, nkKdL, Γ) y.2.2.1 [] s.heap nqt_H ρ H locs ls st → W p l e R s m args below meth c H locs 0 0 (MQ below (nkQc (D, nkKdL, Γ) nqe_5.2.2.2.2.2.1 nqe_5.2.2.2.2.2.2 2 ρ0) args s 0 0 (nkA (D, nkKdL, Γ))) (F0 m 9 ls st) := by
  have hh' := hh
  obtain ⟨hy, ⟨⟨hx, hb, hml, ⟨C, hC, hown⟩, hts, -⟩, hZ, hdt, hR1, hR2⟩, hr, hlk⟩ := hh'
  have hC' : C = "NightHouses$Tokens" := Option.some.inj (hC.symm.trans (show nhOw[nk_nD nhMo 18 99]? = some "NightHouses$Tokens" by decide +kernel))
  subst hC'
  have hml : c.maxLocals = y.2.2.1 := hml
  have dd : ∀ {pc : Nat} {q : Instr × Nat}, nk_dk (nk_nD nhDa 18 []) pc = some q → decode cc pc = .ok (q.1, q.2) := fun h => hdt _ _ h
  intro d
  induction d using Nat.strongRecOn with
  | ind d ih =>
    intro k ρ H locs ls st hd hk e4 hX0 hR
    have h4 : ls[4]? = some (.val (.int (nI k))) := by
      have := (hR.2.1.2.2 (4, 4) (by decide)).2
      rw [← e4]
      exact this
    have hst : st = [] := hR.2.2.1.1
    subst hst
    have hls := hR.2.1.1
    obtain ⟨hPre, hvS⟩ := ns_pre hS hR
    refine lv_iload hx hb (i := 4) (dd (show nk_dk (nk_nD nhDa 18 []) 9 = some (.iload 4, 2) by decide +kernel)) h4 ?_
    refine va_ldcS hx hb hown hK (dd (show nk_dk (nk_nD nhDa 18 []) 11 = some (.ldc 72, 2) by decide +kernel)) ?_
    refine ns_callV (b := K 0) (As := []) (rest := [.int (nI k)]) hx hb hml hown hts ns_c7 ns_n0 ns_lk ns_i7 ns_v7 ns_d7 ⟨by omega, by omega⟩ (ns_m7 l K V _ (i := 0) (by decide)) rfl (vk_recv hS.1 (by decide) hvS) hPre hls (Nat.le_of_ble_eq_true rfl) (dd (show nk_dk (nk_nD nhDa 18 []) 13 = some (.invokevirtual 74, 3) by decide +kernel)) (fun v L hv hL => ?_)
    subst hv
    show W p l e R s m args below meth c H L 0 0 _ (F0 m 16 ls [.int (nI 92), .int (nI k)])
    have hRL := hR.loc hL
    refine lv_icmp_ge hx hb (tgt := 75) (dd (show nk_dk (nk_nD nhDa 18 []) 16 = some (.if_icmp .ge 59, 3) by decide +kernel)) (by decide) (fun _ => ?_) (fun hlt => ?_)
    · refine nk_segH (nk_nil _) nqt_r (nk_sub_rf _) hh hRL (fun ce hce => by cases hce) (fun a ha ρ2 H2 v t hX hT hF2 hF3 hv ht => ?_)
      obtain rfl := List.mem_singleton.mp ha
      exact nk_finI (show nk_ent 2 nqt_F nqt_F = some (3, [2, 1, 0]) by decide +kernel) (by decide +kernel) hT (fun i hi => (hX i hi).trans (hX0 i hi)) (by decide) (List.mem_singleton.mpr rfl) hv ht hF3
    · have hk2 : k < 92 := by
        rcases Nat.lt_or_ge k 92 with h | h
        · exact h
        · exact absurd (nI_le h (by omega)) hlt
      obtain ⟨hPre2, hvS2⟩ := ns_pre hS hRL
      refine va_ldcS hx hb hown hK (dd (show nk_dk (nk_nD nhDa 18 []) 19 = some (.ldc 72, 2) by decide +kernel)) ?_
      refine lv_iload hx hb (i := 4) (dd (show nk_dk (nk_nD nhDa 18 []) 21 = some (.iload 4, 2) by decide +kernel)) h4 ?_
      refine ns_callV (b := K 0) (As := [.int (nI k)]) (rest := []) hx hb hml hown hts ns_c5 ns_n0 ns_ll ns_i5 ns_v5 ns_d5 ⟨by omega, by omega⟩ (ns_m5 l K V _ (i := 0) (k := k) (by decide) hk2) rfl (vk_recv hS.1 (by decide) hvS2) hPre2 hls (Nat.le_of_ble_eq_true rfl) (dd (show nk_dk (nk_nD nhDa 18 []) 23 = some (.invokevirtual 76, 3) by decide +kernel)) (fun v L2 hv hL2 => ?_)
      obtain ⟨r, rfl⟩ := hv
      show W p l e R s m args below meth c H L2 0 0 _ (F0 m 26 ls [.int r])
      have hkI : (nI k).toInt = (k : Int) := nI_toInt (by omega)
      have hR3 := nk_push_ok (v := nk_fl) (x := .int r) (nk_set_ok (i := 4) (v := (0, 18446744073709551616, 18446744073709551707)) (hRL.loc hL2) (by rw [e4]; exact nk_okI (by omega) (by omega))) (rest := []) (xs := []) ⟨rfl, fun i hi => by cases hi⟩ (nk_fl_ok _ r)
      refine nk_segH (nk_nil _) nqt_b (nk_sub_rf _) hh hR3 (fun ce hce ρ3 H3 l3 ls3 st3 hX3 hR4 _ => ?_) (fun a ha ρ3 H3 v t hX3 hT _ hF hv ht => ?_)
      · obtain rfl := List.mem_singleton.mp hce
        have hR4 : nkR (D, nkKdL, Γ) y.2.2.1 [] s.heap nqt_O ρ3 H3 l3 ls3 st3 := hR4
        show W p l e R s m args below meth c H3 l3 0 0 _ (F0 m 9 ls3 st3)
        obtain ⟨q1, q2, -, -⟩ := nk_ent_ok (show nk_ent 2 nqt_H nqt_O = some (5, [7, 6, 5, 1, 0]) by decide +kernel) hR4
        have u4 : ρ3 4 = .int (nI k) := (hX3 4 (by decide)).trans e4
        have w1 : ρ3 7 = .int (nI (k + 1)) := by
          obtain ⟨a, ea, -, -⟩ := nk_int (hR4.1.1 7 _ rfl)
          have r1 := nk_di2 hR4.1.2.2.1 (show (7, 4, 18446744073709551617) ∈ nqt_O.2.2.2.2.2.1 by decide) ea u4
          have r2 := nk_di2 hR4.1.2.2.1 (show (4, 7, 18446744073709551615) ∈ nqt_O.2.2.2.2.2.1 by decide) u4 ea
          rw [ea, nk_nI (x := a) (m := k + 1) (by omega)]
        refine ih (92 - (k + 1)) (by omega) (k + 1) (nk_pk (5, [7, 6, 5, 1, 0]) ρ3) H3 l3 ls3 st3 rfl (by omega) w1 (fun i hi => ?_) q1
        rcases (show i = 0 ∨ i = 1 by omega) with rfl | rfl
        · exact (hX3 0 (by decide)).trans (hX0 0 (by decide))
        · exact (hX3 1 (by decide)).trans (hX0 1 (by decide))
      · obtain rfl := List.mem_singleton.mp ha
        refine nk_finI (show nk_ent 2 nqt_F nqt_G = some (3, [5, 1, 0]) by decide +kernel) (by decide +kernel) hT (fun i hi => ?_) (by decide) (List.mem_singleton.mpr rfl) hv ht hF
        rcases (show i = 0 ∨ i = 1 by omega) with rfl | rfl
        · exact (hX3 0 (by decide)).trans (hX0 0 (by decide))
        · exact (hX3 1 (by decide)).trans (hX0 1 (by decide))
theorem nqi_5 : nkMetI nkKdL nqe_5 := nk_handI (spt := nkSpts) (by decide +kernel) (fun {y lo0} hlo0 {p l e R s m args below meth c cc D Γ ρ ls} hh hR => by
  have hl : lo0 = [(0, 0)] := Option.some.inj (hlo0.symm.trans (by decide +kernel))
  subst hl
  obtain ⟨K, V, z1, ⟨z2, z3⟩, -, -, z6⟩ := hh.2.1.2.1
  refine nk_segH (nk_nil _) nqt_a (nk_sub_rf _) hh hR (fun ce hce ρ2 H2 locs2 ls2 st2 hX hR2 hF2 => ?_) (fun a ha => by cases ha)
  obtain rfl := List.mem_singleton.mp hce
  have hR2 : nkR (D, nkKdL, Γ) y.2.2.1 [] s.heap nqt_H ρ2 H2 locs2 ls2 st2 := hR2
  show W p l e R s m args below meth c H2 locs2 0 0 _ (F0 m 9 ls2 st2)
  obtain ⟨a, ea, b1, b2⟩ := nk_int (hR2.1.1 4 _ rfl)
  obtain ⟨k, hk, ek, fk⟩ := nh_nI (x := a) (by omega)
  exact nqt_loop hh ⟨z1, z6.1, z6.2⟩ z2 (92 - k) k ρ2 H2 locs2 ls2 st2 rfl (by omega) (by rw [ea, ek]) hX hR2)

def nqe_3 : nkIn := (20, 1, 21, 1, (2, [(2, 11, 0), (2, 8, 0)], [], [], [(0, 0, 1)], [], []), [(8, 2, 2), (8, 5, 5)], [(2, [(2, 11, 0), (2, 8, 0)], [], [], [], [], [])])
def nqc_3 : List nkCe := [(5, (4, [(0, 18446744071562067968, 18446744075857035263), (0, 18446744073709551616, 18446744073709553216), (2, 11, 0), (2, 8, 0)], [(0, 0)], [], [(0, 2, 2), (0, 5, 3), (0, 0, 1)], [], []), [(0, 0, 18446744073709551617), (1, 2, 18446744073709553217), (0, 0, 18446744073709551617)])]
theorem nqi_3 : nkMetI nkKdL nqe_3 := nk_sound (IT := []) (nk_nil _) (spt := nkSpts) (ces := nqc_3) (fuel := 200000) (by decide +kernel)
def nqe_4 : nkIn := (17, 1, 21, 1, (2, [(2, 11, 0), (2, 8, 0)], [], [], [(0, 0, 1)], [], []), [(8, 2, 2), (8, 6, 6)], [(2, [(2, 11, 0), (2, 8, 0)], [], [], [], [], [])])
def nqc_4 : List nkCe := [(5, (4, [(1, 9223372036854775808, 27670116110564327423), (0, 18446744073709551616, 18446744073709553216), (2, 11, 0), (2, 8, 0)], [(0, 0)], [], [(0, 2, 2), (0, 6, 3), (0, 0, 1)], [], []), [(0, 0, 18446744073709551617), (1, 2, 18446744073709553217), (0, 0, 18446744073709551617)])]
theorem nqi_4 : nkMetI nkKdL nqe_4 := nk_sound (IT := []) (nk_nil _) (spt := nkSpts) (ces := nqc_4) (fuel := 200000) (by decide +kernel)
def nqu_IT : List nkIn := [nqe_3, nqe_4, nqe_5]
theorem nqu_ITi : ∀ en ∈ nqu_IT, nkMetI nkKdL en := nk_cons nqi_3 (nk_cons nqi_4 (nk_cons nqi_5 (nk_nil _)))
def nqu6_X : nkS := (4, [(0, 18446744073709551616, 18446744073709553215), (0, 18446744071562067968, 18446744075857035263), (2, 11, 0), (2, 8, 0)], [(0, 0), (1, 2)], [0], [(0, 2, 3)], [], [])
def nqu6_Z : nkS := (2, [(2, 11, 0), (2, 8, 0)], [], [], [], [], [])
def nqu6_E : nkS := (2, [(2, 11, 0), (2, 8, 0)], [(0, 0)], [], [(0, 0, 1)], [], [])
def nqe_6 : nkIn := (14, 7, 225, 1, (2, [(2, 11, 0), (2, 8, 0)], [], [], [(0, 0, 1)], [], []), [(8, 2, 6)], [(2, [(2, 11, 0), (2, 8, 0)], [], [], [], [], [])])
theorem nqu6_A : nk_sgL nkKdL nqu_IT nkSpts 14 7 225 nqe_6.2.2.2.2.2.1 [(0, (3, [(0, 18446744073709551616, 18446744073709553216), (2, 11, 0), (2, 8, 0)], [(0, 0)], [], [(0, 2, 2), (0, 0, 1)], [], []), [(0, 0, 18446744073709551617), (1, 2, 18446744073709553217), (0, 0, 18446744073709551617)])] [(185, nqu6_X, [(0, 0, 18446744073709551616), (0, 0, 18446744073709551616), (0, 0, 18446744073709551616)])] 2 [nqu6_Z] 3000 nqu6_E 0 = true := by decide +kernel
theorem nqu6_B : nk_sgM nkKdL [] nkSpts 14 7 225 nqe_6.2.2.2.2.2.1 [] 2 [nqu6_Z] 3000 (nk_push nqu6_X [0] nk_fl) 192 = true := by decide +kernel
theorem nqi_6 : nkMetI nkKdL nqe_6 := nk_handI (spt := nkSpts) (by decide +kernel) (fun {y lo0} hlo0 {p l e R s m args below meth c cc D Γ ρ ls} hh hR => by
  have hl : lo0 = [(0, 0)] := Option.some.inj (hlo0.symm.trans (by decide +kernel))
  subst hl
  have hh' := hh
  obtain ⟨hy, ⟨⟨hx, hb, hml, ⟨C, hC, hown⟩, hts, -⟩, hZ, hdt, hR1, hR2⟩, hr, hlk⟩ := hh'
  have hC' : C = "NightHouses$Tokens" := Option.some.inj (hC.symm.trans (show nhOw[nk_nD nhMo 14 99]? = some "NightHouses$Tokens" by decide +kernel))
  subst hC'
  have hml : c.maxLocals = y.2.2.1 := hml
  have hR1 : R.frames = 7 := hR1
  have hR2 : R.locals = 225 := hR2
  have dd : ∀ {pc : Nat} {q : Instr × Nat}, nk_dk (nk_nD nhDa 14 []) pc = some q → decode cc pc = .ok (q.1, q.2) := fun h => hdt _ _ h
  obtain ⟨K, V, z1, ⟨z2, z3⟩, -, -, z6⟩ := hZ
  have hS : nsS K V (nkA (D, nkKdL, Γ)) s := ⟨z1, z6.1, z6.2⟩
  refine nk_segL nqu_ITi nqu6_A (nk_sub_rf _) hh hR (fun ce hce ρ2 H2 locs2 ls2 st2 hX hR2 _ => ?_) (fun a ha ρ2 H2 v t hX hT _ hF hv ht => ?_)
  · obtain rfl := List.mem_singleton.mp hce
    have hR2 : nkR (D, nkKdL, Γ) y.2.2.1 nqe_6.2.2.2.2.2.1 s.heap nqu6_X ρ2 H2 locs2 ls2 st2 := hR2
    show W p l e R s m args below meth c H2 locs2 0 0 _ (F0 m 185 ls2 st2)
    obtain ⟨t0, e0, -⟩ := nk_rf (hR2.1.1 0 _ rfl)
    obtain ⟨g, eg, -, -⟩ := nk_int (hR2.1.1 2 _ rfl)
    have hst : st2 = [ρ2 0] := hR2.2.2.1.1
    rw [e0] at hst
    have h1 : ls2[1]? = some (.val (.int g)) := by
      have := (hR2.2.1.2.2 (1, 2) (by decide)).2
      rw [← eg]
      exact this
    obtain ⟨hPre, hvS⟩ := ns_pre hS hR2
    have hls := hR2.2.1.1
    have hs0 := hR2.2.2.1
    rw [hst]
    refine va_ldcS hx hb hown z3 (dd (show nk_dk (nk_nD nhDa 14 []) 185 = some (.ldc 56, 2) by decide +kernel)) ?_
    refine lv_iload_n hx hb (dd (show nk_dk (nk_nD nhDa 14 []) 187 = some (.iload_n 1, 1) by decide +kernel)) rfl h1 ?_
    refine lv_i2c hx hb (dd (show nk_dk (nk_nD nhDa 14 []) 188 = some (.i2c, 1) by decide +kernel)) rfl ?_
    refine ns_callV (b := K 1) (As := [.int (g.toUInt32 % 65536).toInt32]) (rest := [.ref t0]) hx hb hml hown hts ns_c12 ns_n0 ns_lm ns_i12 ns_v12 ns_d12 ⟨by omega, by omega⟩ (ns_m12 l K V _ (i := 1) (by decide) _) rfl (vk_recv hS.1 (by decide) hvS) hPre hls (Nat.le_of_ble_eq_true rfl) (dd (show nk_dk (nk_nD nhDa 14 []) 189 = some (.invokevirtual 58, 3) by decide +kernel)) (fun v L hv hL => ?_)
    obtain ⟨r, rfl⟩ := hv
    show W p l e R s m args below meth c H2 L 0 0 _ (F0 m 192 ls2 (.int r :: [.ref t0]))
    rw [← hst]
    have hR3 := nk_push_ok (v := nk_fl) (x := .int r) (hR2.loc hL) (rest := [0]) (xs := st2) hs0 (nk_fl_ok _ r)
    refine nk_segH (nk_nil _) nqu6_B (nk_sub_rf _) hh hR3 (fun ce hce => by cases hce) (fun a ha ρ3 H3 v t hX3 hT _ hF hv ht => ?_)
    obtain rfl := List.mem_singleton.mp ha
    refine nk_finI (show nk_ent 2 nqu6_Z nqu6_Z = some (2, [1, 0]) by decide +kernel) (by decide +kernel) hT (fun i hi => ?_) (by decide) (List.mem_singleton.mpr rfl) hv ht hF
    have hi2 : i < 2 := hi
    refine (hX3 i hi2).trans (Eq.trans ?_ (hX i hi2))
    show updV ρ2 4 (.int r) i = ρ2 i
    unfold updV
    rw [if_neg (by omega)]
  · obtain rfl := List.mem_singleton.mp ha
    exact nk_finI (show nk_ent 2 nqu6_Z nqu6_Z = some (2, [1, 0]) by decide +kernel) (by decide +kernel) hT hX (by decide) (List.mem_singleton.mpr rfl) hv ht hF)

def nqu8_X : nkS := (3, [(0, 18446744073709551616, 18446744073709553215), (0, 18446744071562067968, 18446744075857035263), (2, 8, 0)], [(0, 0), (1, 1)], [0], [(0, 2, 2)], [], [])
def nqu8_Z : nkS := (1, [(2, 8, 0)], [], [], [], [], [])
def nqu8_E : nkS := (1, [(2, 8, 0)], [(0, 0)], [], [], [], [])
def nqe_8 : nkIn := (14, 7, 225, 1, (1, [(2, 8, 0)], [], [], [], [], []), [(8, 2, 6)], [(1, [(2, 8, 0)], [], [], [], [], [])])
theorem nqu8_A : nk_sgL nkKdL nqu_IT nkSpts 14 7 225 nqe_8.2.2.2.2.2.1 [(0, (2, [(0, 18446744073709551616, 18446744073709553216), (2, 8, 0)], [(0, 0)], [], [(0, 2, 1)], [], []), [(0, 0, 18446744073709551617), (1, 1, 18446744073709553217), (0, 0, 18446744073709551617)])] [(185, nqu8_X, [(0, 0, 18446744073709551616), (0, 0, 18446744073709551616), (0, 0, 18446744073709551616)])] 1 [nqu8_Z] 3000 nqu8_E 0 = true := by decide +kernel
theorem nqu8_B : nk_sgM nkKdL [] nkSpts 14 7 225 nqe_8.2.2.2.2.2.1 [] 1 [nqu8_Z] 3000 (nk_push nqu8_X [0] nk_fl) 192 = true := by decide +kernel
theorem nqi_8 : nkMetI nkKdL nqe_8 := nk_handI (spt := nkSpts) (by decide +kernel) (fun {y lo0} hlo0 {p l e R s m args below meth c cc D Γ ρ ls} hh hR => by
  have hl : lo0 = [(0, 0)] := Option.some.inj (hlo0.symm.trans (by decide +kernel))
  subst hl
  have hh' := hh
  obtain ⟨hy, ⟨⟨hx, hb, hml, ⟨C, hC, hown⟩, hts, -⟩, hZ, hdt, hR1, hR2⟩, hr, hlk⟩ := hh'
  have hC' : C = "NightHouses$Tokens" := Option.some.inj (hC.symm.trans (show nhOw[nk_nD nhMo 14 99]? = some "NightHouses$Tokens" by decide +kernel))
  subst hC'
  have hml : c.maxLocals = y.2.2.1 := hml
  have hR1 : R.frames = 7 := hR1
  have hR2 : R.locals = 225 := hR2
  have dd : ∀ {pc : Nat} {q : Instr × Nat}, nk_dk (nk_nD nhDa 14 []) pc = some q → decode cc pc = .ok (q.1, q.2) := fun h => hdt _ _ h
  obtain ⟨K, V, z1, ⟨z2, z3⟩, -, -, z6⟩ := hZ
  have hS : nsS K V (nkA (D, nkKdL, Γ)) s := ⟨z1, z6.1, z6.2⟩
  refine nk_segL nqu_ITi nqu8_A (nk_sub_rf _) hh hR (fun ce hce ρ2 H2 locs2 ls2 st2 hX hR2 _ => ?_) (fun a ha ρ2 H2 v t hX hT _ hF hv ht => ?_)
  · obtain rfl := List.mem_singleton.mp hce
    have hR2 : nkR (D, nkKdL, Γ) y.2.2.1 nqe_8.2.2.2.2.2.1 s.heap nqu8_X ρ2 H2 locs2 ls2 st2 := hR2
    show W p l e R s m args below meth c H2 locs2 0 0 _ (F0 m 185 ls2 st2)
    obtain ⟨t0, e0, -⟩ := nk_rf (hR2.1.1 0 _ rfl)
    obtain ⟨g, eg, -, -⟩ := nk_int (hR2.1.1 1 _ rfl)
    have hst : st2 = [ρ2 0] := hR2.2.2.1.1
    rw [e0] at hst
    have h1 : ls2[1]? = some (.val (.int g)) := by
      have := (hR2.2.1.2.2 (1, 1) (by decide)).2
      rw [← eg]
      exact this
    obtain ⟨hPre, hvS⟩ := ns_pre hS hR2
    have hls := hR2.2.1.1
    have hs0 := hR2.2.2.1
    rw [hst]
    refine va_ldcS hx hb hown z3 (dd (show nk_dk (nk_nD nhDa 14 []) 185 = some (.ldc 56, 2) by decide +kernel)) ?_
    refine lv_iload_n hx hb (dd (show nk_dk (nk_nD nhDa 14 []) 187 = some (.iload_n 1, 1) by decide +kernel)) rfl h1 ?_
    refine lv_i2c hx hb (dd (show nk_dk (nk_nD nhDa 14 []) 188 = some (.i2c, 1) by decide +kernel)) rfl ?_
    refine ns_callV (b := K 1) (As := [.int (g.toUInt32 % 65536).toInt32]) (rest := [.ref t0]) hx hb hml hown hts ns_c12 ns_n0 ns_lm ns_i12 ns_v12 ns_d12 ⟨by omega, by omega⟩ (ns_m12 l K V _ (i := 1) (by decide) _) rfl (vk_recv hS.1 (by decide) hvS) hPre hls (Nat.le_of_ble_eq_true rfl) (dd (show nk_dk (nk_nD nhDa 14 []) 189 = some (.invokevirtual 58, 3) by decide +kernel)) (fun v L hv hL => ?_)
    obtain ⟨r, rfl⟩ := hv
    show W p l e R s m args below meth c H2 L 0 0 _ (F0 m 192 ls2 (.int r :: [.ref t0]))
    rw [← hst]
    have hR3 := nk_push_ok (v := nk_fl) (x := .int r) (hR2.loc hL) (rest := [0]) (xs := st2) hs0 (nk_fl_ok _ r)
    refine nk_segH (nk_nil _) nqu8_B (nk_sub_rf _) hh hR3 (fun ce hce => by cases hce) (fun a ha ρ3 H3 v t hX3 hT _ hF hv ht => ?_)
    obtain rfl := List.mem_singleton.mp ha
    refine nk_finI (show nk_ent 1 nqu8_Z nqu8_Z = some (1, [0]) by decide +kernel) (by decide +kernel) hT (fun i hi => ?_) (by decide) (List.mem_singleton.mpr rfl) hv ht hF
    have hi2 : i < 1 := hi
    refine (hX3 i hi2).trans (Eq.trans ?_ (hX i hi2))
    show updV ρ2 3 (.int r) i = ρ2 i
    unfold updV
    rw [if_neg (by omega)]
  · obtain rfl := List.mem_singleton.mp ha
    exact nk_finI (show nk_ent 1 nqu8_Z nqu8_Z = some (1, [0]) by decide +kernel) (by decide +kernel) hT hX (by decide) (List.mem_singleton.mpr rfl) hv ht hF)

