/-! sign(), goOn(), must() with what they say of the token: printed by h_lex.py -/
def nkl0_sF : nkS := (5, [(0, 18446744073709551616, 18446744073709551871), (2, 43, 0), (0, 18446744073709551616, 18446744073709553216), (0, 18446744071562067968, 18446744075857035263), (2, 40, 0)], [], [4], [], [], [])
def nkl0_eS : nkIn := (167, 0, 0, 2, (4, [(2, 43, 0), (0, 18446744073709551616, 18446744073709553216), (0, 18446744073709551616, 18446744073709553216), (2, 40, 0)], [], [], [(0, 3, 2), (0, 1, 3)], [], []), [], [nkl0_sF])
def nkl0_sX : nkS := (4, [(2, 43, 0), (0, 18446744073709551616, 18446744073709553216), (0, 18446744073709551616, 18446744073709553215), (2, 40, 0)], [(0, 0), (1, 1)], [1, 3], [(0, 3, 2), (0, 1, 3)], [(1, 2, 18446744073709551615)], [])
def nkl0_sZ : nkS := (5, [(0, 18446744073709551616, 18446744073709551616), (2, 43, 0), (0, 18446744073709551616, 18446744073709553216), (0, 18446744073709551616, 18446744073709553216), (2, 40, 0)], [], [4], [], [(2, 1, 18446744073709551616)], [])
theorem nkl0_s1 : nk_sgM nkKd2 [] [] 167 0 0 [] [(13, nkl0_sX, [])] 4 [nkl0_sZ] 300 (4, [(2, 43, 0), (0, 18446744073709551616, 18446744073709553216), (0, 18446744073709551616, 18446744073709553216), (2, 40, 0)], [(0, 0), (1, 1)], [], [(0, 3, 2), (0, 1, 3)], [], []) 0 = true := by decide +kernel
def nkl0_sGa : nkS := (5, [(0, 18446744073709551616, 18446744073709551652), (2, 43, 0), (0, 18446744073709551616, 18446744073709553216), (0, 18446744073709551616, 18446744073709553215), (2, 40, 0)], [], [4], [], [], [])
theorem nkl0_s2a : nk_sgM nkKd2 [] [] 167 0 0 [] [] 4 [nkl0_sGa] 300 (nk_push nkl0_sX [] (0, 18446744073709551616, 18446744073709551652)) 14 = true := by decide +kernel
def nkl0_sGb : nkS := (5, [(0, 18446744073709551653, 18446744073709551678), (2, 43, 0), (0, 18446744073709551616, 18446744073709553216), (0, 18446744073709551616, 18446744073709553215), (2, 40, 0)], [], [4], [], [], [])
theorem nkl0_s2b : nk_sgM nkKd2 [] [] 167 0 0 [] [] 4 [nkl0_sGb] 300 (nk_push nkl0_sX [] (0, 18446744073709551653, 18446744073709551678)) 14 = true := by decide +kernel
def nkl0_sGc : nkS := (5, [(0, 18446744073709551679, 18446744073709551743), (2, 43, 0), (0, 18446744073709551616, 18446744073709553216), (0, 18446744073709551616, 18446744073709553215), (2, 40, 0)], [], [4], [], [], [])
theorem nkl0_s2c : nk_sgM nkKd2 [] [] 167 0 0 [] [] 4 [nkl0_sGc] 300 (nk_push nkl0_sX [] (0, 18446744073709551679, 18446744073709551743)) 14 = true := by decide +kernel
def nkl0_sGd : nkS := (5, [(0, 18446744073709551744, 18446744073709551871), (2, 43, 0), (0, 18446744073709551616, 18446744073709553216), (0, 18446744073709551616, 18446744073709553215), (2, 40, 0)], [], [4], [], [], [])
theorem nkl0_s2d : nk_sgM nkKd2 [] [] 167 0 0 [] [] 4 [nkl0_sGd] 300 (nk_push nkl0_sX [] (0, 18446744073709551488, 18446744073709551615)) 14 = true := by decide +kernel
def nkl0_gp : List (Nat × nkSp) := [(166, [(8, (2, 0), [6]), (8, (2, 0), [3]), (119, (2, 0), [7]), (259, (2, 0), [7]), (58, (2, 0), [1]), (58, (2, 0), [6]), (67, (9, 0), [18446744073709553215])])]
def nkl0_gF : nkS := (5, [(0, 18446744073709551616, 18446744073709553216), (0, 18446744073709551616, 18446744073709553216), (0, 18446744073709551616, 18446744073709553216), (0, 18446744073709551616, 18446744073709553216), (2, 40, 0)], [], [], [(0, 6, 3), (0, 7, 4), (0, 3, 2)], [(3, 4, 18446744073709551616), (4, 2, 18446744073709551616)], [])
def nkl0_eG : nkIn := (166, 8, 300, 1, (3, [(0, 18446744073709551616, 18446744073709553216), (0, 18446744073709551616, 18446744073709553216), (2, 40, 0)], [], [], [(0, 7, 1), (0, 3, 2)], [(1, 2, 18446744073709551616)], []), [(40, 6, 10)], [nkl0_gF])
def nkl0_gX : nkS := (5, [(2, 43, 0), (0, 18446744073709551616, 18446744073709553216), (0, 18446744073709551616, 18446744073709553216), (0, 18446744073709551616, 18446744073709553216), (2, 40, 0)], [(0, 0)], [3, 0], [(0, 6, 3), (0, 3, 2), (0, 1, 4)], [(1, 2, 18446744073709551616), (1, 3, 18446744073709551616)], [])
def nkl0_gc1 : List nkCe := [(8, (4, [(0, 18446744073709551616, 18446744073709553216), (0, 18446744073709551616, 18446744073709553216), (0, 18446744073709551616, 18446744073709553216), (2, 40, 0)], [(0, 0)], [], [(0, 6, 3), (0, 7, 1), (0, 3, 2)], [(1, 3, 18446744073709551616), (1, 2, 18446744073709551616)], []), [(0, 0, 18446744073709551618), (1, 3, 18446744073709553217), (0, 0, 18446744073709551617)])]
def nkl0_gx1 : List nkCe := [(63, nkl0_gX, [(0, 0, 18446744073709551616), (0, 0, 18446744073709551616), (0, 0, 18446744073709551616)])]
theorem nkl0_g1 : nk_sgL nkKd2 [] nkl0_gp 166 8 300 [(40, 6, 10)] nkl0_gc1 nkl0_gx1 3 [] 3000 (3, [(0, 18446744073709551616, 18446744073709553216), (0, 18446744073709551616, 18446744073709553216), (2, 40, 0)], [(0, 0)], [], [(0, 7, 1), (0, 3, 2)], [(1, 2, 18446744073709551616)], []) 0 = true := by decide +kernel
def nkl0_gXs : nkS := (6, [(0, 18446744073709551616, 18446744073709551871), (2, 43, 0), (0, 18446744073709551616, 18446744073709553216), (0, 18446744073709551616, 18446744073709553216), (0, 18446744073709551616, 18446744073709553216), (2, 40, 0)], [(0, 0)], [5], [(0, 6, 3), (0, 3, 2), (0, 1, 4)], [(1, 2, 18446744073709551616), (1, 3, 18446744073709551616)], [])
def nkl0_gA5 : nkS := (7, [(0, 18446744073709551616, 18446744073709553216), (0, 18446744073709551621, 18446744073709551621), (2, 43, 0), (0, 18446744073709551616, 18446744073709553216), (0, 18446744073709551616, 18446744073709553216), (0, 18446744073709551616, 18446744073709553216), (2, 40, 0)], [], [], [(0, 6, 3), (0, 3, 2), (0, 1, 4), (0, 8, 5), (0, 7, 6)], [(3, 6, 18446744073709551616), (6, 2, 18446744073709551616)], [])
def nkl0_gAn : nkS := (8, [(0, 18446744073709551616, 18446744073709551620), (0, 18446744073709551616, 18446744073709553216), (0, 18446744073709551616, 18446744073709553216), (2, 43, 0), (0, 18446744073709551616, 18446744073709553216), (0, 18446744073709551616, 18446744073709553216), (0, 18446744073709551616, 18446744073709553216), (2, 40, 0)], [], [], [(0, 6, 5), (0, 7, 6), (0, 3, 2), (0, 8, 7)], [(5, 6, 18446744073709551616), (6, 2, 18446744073709551616)], [])
def nkl0_gc2a : List nkCe := []
theorem nkl0_g2a : nk_afM (nk_aft nkl0_gX [] 4 (4, [4, 2, 3, 0]) [] nkl0_sF) (fun S' => nk_sgL nkKd2 [] nkl0_gp 166 8 300 [(40, 6, 10)] nkl0_gc2a [] 5 [nkl0_gAn] 30000 (nk_set S' 5 (0, 18446744073709551616, 18446744073709551652)) 66) = true := by decide +kernel
def nkl0_gc2b : List nkCe := [(259, (8, [(0, 18446744071562067968, 18446744075857035263), (0, 18446744073709551616, 18446744073709553216), (0, 18446744073709551664, 18446744073709551673), (2, 43, 0), (0, 18446744073709551616, 18446744073709553215), (0, 18446744073709551617, 18446744073709553216), (0, 18446744073709551616, 18446744073709553216), (2, 40, 0)], [(0, 0), (1, 5)], [], [(0, 7, 6), (0, 9, 7), (0, 6, 3), (0, 3, 2), (0, 1, 4)], [(1, 3, 18446744073709551616), (3, 6, 18446744073709551616), (6, 2, 18446744073709551616), (1, 2, 18446744073709551616)], []), [(0, 0, 18446744073709551618), (1, 6, 18446744073709553217), (0, 0, 18446744073709551617)])]
theorem nkl0_g2b : nk_afM (nk_aft nkl0_gX [] 4 (4, [4, 2, 3, 0]) [] nkl0_sF) (fun S' => nk_sgL nkKd2 [] nkl0_gp 166 8 300 [(40, 6, 10)] nkl0_gc2b [] 5 [nkl0_gA5, nkl0_gAn] 30000 (nk_set S' 5 (0, 18446744073709551653, 18446744073709551678)) 66) = true := by decide +kernel
def nkl0_gc2c : List nkCe := [(119, (7, [(0, 18446744073709551617, 18446744073709553216), (0, 18446744073709551713, 18446744073709551738), (2, 43, 0), (0, 18446744073709551616, 18446744073709553215), (0, 18446744073709551617, 18446744073709553216), (0, 18446744073709551616, 18446744073709553216), (2, 40, 0)], [(0, 0), (1, 5)], [], [(0, 7, 6), (0, 6, 3), (0, 3, 2), (0, 1, 4)], [(1, 3, 18446744073709551616), (3, 6, 18446744073709551616), (6, 2, 18446744073709551616), (1, 2, 18446744073709551616)], []), [(0, 0, 18446744073709551619), (1, 6, 18446744073709553217), (0, 0, 18446744073709551617)]), (156, (9, [(0, 18446744073709551617, 18446744073709553216), (1, 9223372036854775808, 27670116110564327423), (0, 18446744073709551616, 18446744073709553216), (0, 18446744073709551713, 18446744073709551738), (2, 43, 0), (0, 18446744073709551616, 18446744073709553215), (0, 18446744073709551617, 18446744073709553216), (0, 18446744073709551616, 18446744073709553216), (2, 40, 0)], [(0, 0), (1, 5), (2, 6)], [], [(0, 10, 7), (0, 7, 8), (0, 6, 3), (0, 3, 2), (0, 1, 4)], [(1, 3, 18446744073709551616), (3, 8, 18446744073709551616), (8, 2, 18446744073709551616), (1, 2, 18446744073709551616)], []), [(0, 0, 18446744073709551618), (1, 6, 18446744073709553217), (0, 0, 18446744073709551617)])]
theorem nkl0_g2c : nk_afM (nk_aft nkl0_gX [] 4 (4, [4, 2, 3, 0]) [] nkl0_sF) (fun S' => nk_sgL nkKd2 [] nkl0_gp 166 8 300 [(40, 6, 10)] nkl0_gc2c [] 5 [nkl0_gAn] 30000 (nk_set S' 5 (0, 18446744073709551679, 18446744073709551871)) 66) = true := by decide +kernel
def nkl0_m1 : nkS := (7, [(0, 18446744073709551616, 18446744073709553216), (0, 18446744073709551616, 18446744073709553216), (0, 18446744073709551616, 18446744073709553216), (0, 18446744073709551616, 18446744073709553216), (0, 18446744073709551616, 18446744073709553216), (0, 18446744073709551616, 18446744073709551617), (2, 40, 0)], [], [], [(0, 6, 5), (0, 7, 6), (0, 3, 4)], [(5, 6, 18446744073709551616), (6, 4, 18446744073709551616)], [])
def nkl0_m2 : nkS := (6, [(0, 18446744073709551617, 18446744073709551620), (0, 18446744073709551616, 18446744073709553216), (0, 18446744073709551616, 18446744073709553216), (0, 18446744073709551616, 18446744073709553216), (0, 18446744073709551616, 18446744073709551617), (2, 40, 0)], [], [], [(0, 6, 2), (0, 7, 3), (0, 3, 4), (0, 4, 5)], [(2, 3, 18446744073709551616), (3, 4, 18446744073709551616)], [])
def nkl0_eM : nkIn := (180, 10, 400, 2, (5, [(0, 18446744073709551616, 18446744073709553216), (0, 18446744073709551616, 18446744073709553216), (0, 18446744073709551616, 18446744073709553216), (0, 18446744073709551616, 18446744073709551617), (2, 40, 0)], [], [], [(0, 6, 2), (0, 7, 3), (0, 3, 4)], [(3, 4, 18446744073709551616), (2, 3, 18446744073709551616)], []), [(40, 4, 10)], [nkl0_m1, nkl0_m2])
def nkl0_mX : nkS := (5, [(0, 18446744073709551616, 18446744073709553216), (0, 18446744073709551616, 18446744073709553216), (0, 18446744073709551616, 18446744073709553216), (0, 18446744073709551616, 18446744073709551617), (2, 40, 0)], [(0, 0)], [0], [(0, 6, 2), (0, 7, 3), (0, 3, 4)], [(3, 4, 18446744073709551616), (2, 3, 18446744073709551616)], [])
theorem nkl0_ma : nk_sgM nkKd2 [] [] 180 10 400 [(40, 4, 5)] [(13, nkl0_mX, [])] 5 [nkl0_m2] 300 (5, [(0, 18446744073709551616, 18446744073709553216), (0, 18446744073709551616, 18446744073709553216), (0, 18446744073709551616, 18446744073709553216), (0, 18446744073709551616, 18446744073709551617), (2, 40, 0)], [(0, 0), (1, 1)], [], [(0, 6, 2), (0, 7, 3), (0, 3, 4)], [(3, 4, 18446744073709551616), (2, 3, 18446744073709551616)], []) 0 = true := by decide +kernel
theorem nkl0_mb : nk_afM (nk_aft nkl0_mX [] 3 (3, [4, 3, 0]) nkl0_eG.2.2.2.2.2.1 nkl0_gF) (fun S' => nk_sgM nkKd2 [] [] 180 10 400 [] [] 5 [nkl0_m1] 300 S' 16) = true := by decide +kernel
theorem nkl0_sign : nkMetG nkKd2 nkl0_eS (fun _ _ _ => True) (fun E ρ H _ v _ _ => nkSgQ E ρ H v) := nk_handG (spt := []) (by decide +kernel) (fun {y lo0} hlo0 {p l e R s m args below meth c cc D Γ ρ ls} hh _ hR => by
  have hl : lo0 = [(0, 0), (1, 1)] := Option.some.inj (hlo0.symm.trans (by decide +kernel))
  subst hl
  obtain ⟨kx, ek, k1, k2⟩ := nk_int (hR.1.1 1 _ rfl)
  obtain ⟨sx, es, s1, s2⟩ := nk_int (hR.1.1 2 _ rfl)
  obtain ⟨t, et, htΓ⟩ := nk_rf (hR.1.1 3 _ rfl)
  obtain ⟨j, hj, ej, fj⟩ := nh_nI (x := kx) (by omega)
  have hkt : nkKd2[Γ t]? = some (1, 1, 1600, 1, [(0, 18446744073709551488, 18446744073709551743)]) := by rw [show Γ t = 43 from htΓ]; rfl
  refine nk_segH (nk_nil _) nkl0_s1 (by decide +kernel) hh hR (fun ce hce ρ2 H2 locs2 ls2 st2 hX hR2 hF2 => ?_) (fun a ha ρ2 H2 v t2 hX hT hF2 hF3 hv ht => ?_)
  · obtain rfl := List.mem_singleton.mp hce
    have hR2 : nkR (D, nkKd2, Γ) y.2.2.1 nkl0_eS.2.2.2.2.2.1 s.heap nkl0_sX ρ2 H2 locs2 ls2 st2 := hR2
    show W p l e R s m args below meth c H2 locs2 0 0 _ (F0 m 13 ls2 st2)
    have f1 : ρ2 1 = .int kx := (hX 1 (by decide)).trans ek
    have f2 : ρ2 2 = .int sx := (hX 2 (by decide)).trans es
    have f3 : ρ2 3 = .ref t := (hX 3 (by decide)).trans et
    obtain ⟨z, hz, hzt⟩ : ∃ z : Nat → Value, H2[t]? = some (arrV (D.2.2 1) 1600 z) ∧ ∀ j, j < 1600 → nkOk Γ (0, 18446744073709551488, 18446744073709551743) (z j) := nk_cel1 (E := (D, nkKd2, Γ)) hR2.1.2.2.2.2.1 hkt
    have q := nk_di2 hR2.1.2.2.1 (a := 1) (b := 2) (c := 18446744073709551615) List.mem_cons_self f1 f2
    have hcl : kx.toNatClampNeg = j := by rw [ej]; exact nI_clamp hj
    obtain ⟨x, ex, x1, x2⟩ := nk_int (hzt j (by omega))
    have hzv : z kx.toNatClampNeg = .int x := by rw [hcl]; exact ex
    have hld : ∀ v : nkV, nkOk Γ v (.int x) → (∀ st', nkR (D, nkKd2, Γ) y.2.2.1 nkl0_eS.2.2.2.2.2.1 s.heap (nk_push nkl0_sX [] v) (updV ρ2 4 (.int x)) H2 locs2 ls2 st' → W p l e R s m args below meth c H2 locs2 0 0 (MQ below (nkQg (D, nkKd2, Γ) nkl0_eS.2.2.2.2.2.1 nkl0_eS.2.2.2.2.2.2 nkl0_eS.2.2.2.2.1.1 ρ (fun H _ v _ _ => nkSgQ (D, nkKd2, Γ) ρ H v)) args s 0 0 (nkA (D, nkKd2, Γ))) (F0 m 14 ls2 st')) → W p l e R s m args below meth c H2 locs2 0 0 (MQ below (nkQg (D, nkKd2, Γ) nkl0_eS.2.2.2.2.2.1 nkl0_eS.2.2.2.2.2.2 nkl0_eS.2.2.2.2.1.1 ρ (fun H _ v _ _ => nkSgQ (D, nkKd2, Γ) ρ H v)) args s 0 0 (nkA (D, nkKd2, Γ))) (F0 m 13 ls2 st2) := fun v hv kk => by
      refine nk_hAld hh.2.1.1 (hh.2.1.2.2.1 13 (.baload, 1) (show nk_dk (nk_nD nhDa 167 []) 13 = some (.baload, 1) by decide +kernel)) (show nkl0_sX.2.2.2.1 = 1 :: 3 :: [] from rfl) hR2 (ti := 1) (by decide) f3 hz f1 (by omega) (by omega) (v := v) (by rw [hzv]; exact hv) (fun st' hR3 => ?_)
      rw [hzv] at hR3
      exact kk st' hR3
    have fin : ∀ (lo hi : Nat) (a : nkS) (ρ5 : Nat → Value) (H5 : Heap) (v : Option Value), nkFr (D, nkKd2, Γ) nkl0_eS.2.2.2.2.2.1 s.heap H5 [] → a.2.2.2.1 = [4] → nkOk Γ (0, lo, hi) (ρ5 4) → nkRt a ρ5 v → 18446744073709551616 ≤ lo → hi ≤ 18446744073709551871 → (37 ≤ x.toInt → x.toInt ≤ 62 → 18446744073709551653 ≤ lo ∧ hi ≤ 18446744073709551678) → ((lo ≤ 18446744073709551678 ∧ 18446744073709551653 ≤ hi) → 37 ≤ x.toInt ∧ x.toInt ≤ 62) → nkSgQ (D, nkKd2, Γ) ρ s.heap v := by
      intro lo hi a ρ5 H5 v hF5 hst hok hv hlo hhi hc1 hc2 t' j' sz z' q1 q2 q3 q4 q5 q6
      have q1 := et.symm.trans q1
      cases q1
      have q2 := ek.symm.trans q2
      have q2 := Value.int.inj q2
      have ejj : j' = j := by
        have h1 := congrArg Int32.toInt q2
        rw [nI_toInt (by omega), fj] at h1
        omega
      subst ejj
      have q3 := Value.int.inj (es.symm.trans q3)
      have esz : sx.toInt = (sz : Int) := by rw [q3]; exact nI_toInt (by omega)
      have hzz : z j' = z' j' := nk_kpA (E := (D, nkKd2, Γ)) hR2.2.2.2.2.2.2 hkt rfl (by omega) q4 hz
      obtain ⟨r, er, r1, r2⟩ := nk_int hok
      have hv' : v = some (.int r) := by
        unfold nkRt at hv
        rw [hst] at hv
        rw [hv.2, er]
      refine ⟨r, hv', by omega, by omega, fun h1 h2 => ⟨by omega, x, hzz.symm.trans ex, ?_⟩, fun x' h0 hx' h1 h2 => ?_⟩
      · exact hc2 ⟨by omega, by omega⟩
      · have hxx := (hzz.symm.trans ex).symm.trans hx'
        cases hxx
        have := hc1 h1 h2
        exact ⟨by omega, by omega⟩
    by_cases c1 : x.toInt < 0
    · refine hld (0, 18446744073709551488, 18446744073709551615) (nk_okI (by omega) (by omega)) (fun st3 hR3 => ?_)
      refine nk_segH (nk_nil _) nkl0_s2d (by decide +kernel) hh hR3 (fun ce hce => by cases hce) (fun a ha ρ5 H5 v t5 hX5 hT5 hF5 hF6 hv ht => ?_)
      obtain rfl := List.mem_singleton.mp ha
      exact nk_finG (F := nkl0_sF) (σ := (5, [4, 3, 2, 1, 0])) (by decide +kernel) (by decide +kernel) hT5 (fun i hi => (hX5 i hi).trans ((nkX.push 4 ρ2 (.int x) i hi).trans (hX i hi))) (by decide) (List.mem_singleton.mpr rfl) hv ht hF6 (fin _ _ _ ρ5 H5 v hF6 rfl (hT5.1 4 _ rfl) hv (by decide) (by decide) (fun h1 _ => by omega) (fun h => absurd h (by decide)))
    · by_cases c2 : x.toInt ≤ 36
      · refine hld (0, 18446744073709551616, 18446744073709551652) (nk_okI (by omega) (by omega)) (fun st3 hR3 => ?_)
        refine nk_segH (nk_nil _) nkl0_s2a (by decide +kernel) hh hR3 (fun ce hce => by cases hce) (fun a ha ρ5 H5 v t5 hX5 hT5 hF5 hF6 hv ht => ?_)
        obtain rfl := List.mem_singleton.mp ha
        exact nk_finG (F := nkl0_sF) (σ := (5, [4, 3, 2, 1, 0])) (by decide +kernel) (by decide +kernel) hT5 (fun i hi => (hX5 i hi).trans ((nkX.push 4 ρ2 (.int x) i hi).trans (hX i hi))) (by decide) (List.mem_singleton.mpr rfl) hv ht hF6 (fin _ _ _ ρ5 H5 v hF6 rfl (hT5.1 4 _ rfl) hv (by decide) (by decide) (fun h1 _ => by omega) (fun h => absurd h (by decide)))
      · by_cases c3 : x.toInt ≤ 62
        · refine hld (0, 18446744073709551653, 18446744073709551678) (nk_okI (by omega) (by omega)) (fun st3 hR3 => ?_)
          refine nk_segH (nk_nil _) nkl0_s2b (by decide +kernel) hh hR3 (fun ce hce => by cases hce) (fun a ha ρ5 H5 v t5 hX5 hT5 hF5 hF6 hv ht => ?_)
          obtain rfl := List.mem_singleton.mp ha
          exact nk_finG (F := nkl0_sF) (σ := (5, [4, 3, 2, 1, 0])) (by decide +kernel) (by decide +kernel) hT5 (fun i hi => (hX5 i hi).trans ((nkX.push 4 ρ2 (.int x) i hi).trans (hX i hi))) (by decide) (List.mem_singleton.mpr rfl) hv ht hF6 (fin _ _ _ ρ5 H5 v hF6 rfl (hT5.1 4 _ rfl) hv (by decide) (by decide) (fun _ _ => by decide) (fun _ => by omega))
        · refine hld (0, 18446744073709551679, 18446744073709551743) (nk_okI (by omega) (by omega)) (fun st3 hR3 => ?_)
          refine nk_segH (nk_nil _) nkl0_s2c (by decide +kernel) hh hR3 (fun ce hce => by cases hce) (fun a ha ρ5 H5 v t5 hX5 hT5 hF5 hF6 hv ht => ?_)
          obtain rfl := List.mem_singleton.mp ha
          exact nk_finG (F := nkl0_sF) (σ := (5, [4, 3, 2, 1, 0])) (by decide +kernel) (by decide +kernel) hT5 (fun i hi => (hX5 i hi).trans ((nkX.push 4 ρ2 (.int x) i hi).trans (hX i hi))) (by decide) (List.mem_singleton.mpr rfl) hv ht hF6 (fin _ _ _ ρ5 H5 v hF6 rfl (hT5.1 4 _ rfl) hv (by decide) (by decide) (fun _ h2 => by omega) (fun h => absurd h (by decide)))
  · obtain rfl := List.mem_singleton.mp ha
    refine nk_finG (F := nkl0_sF) (σ := (5, [4, 3, 2, 1, 0])) (by decide +kernel) (by decide +kernel) hT hX (by decide) (List.mem_singleton.mpr rfl) hv ht hF3 ?_
    intro t' j' sz z' q1 q2 q3 q4 q5 q6
    obtain ⟨r, er, r1, r2⟩ := nk_int (hT.1 4 _ rfl)
    have q2 := Value.int.inj (ek.symm.trans q2)
    have q3 := Value.int.inj (es.symm.trans q3)
    have ekk : kx.toInt = (j' : Int) := by rw [q2]; exact nI_toInt (by omega)
    have ess : sx.toInt = (sz : Int) := by rw [q3]; exact nI_toInt (by omega)
    have q := nk_di2 hT.2.2.1 (a := 2) (b := 1) (c := 18446744073709551616) List.mem_cons_self ((hX 2 (by decide)).trans es) ((hX 1 (by decide)).trans ek)
    refine ⟨r, ?_, by omega, by omega, fun h1 h2 => by omega, fun x' h0 => by omega⟩
    have hv2 : v = some (ρ2 4) := hv.2
    rw [hv2, er])
theorem nkl0_goOn : nkMetG nkKd2 nkl0_eG (fun _ _ _ => True) (fun E ρ _ H1 _ _ _ => ∀ a, ρ 0 = .ref a → nkTok E H1 a 6 3 8 1) := nk_handG (spt := nkl0_gp) (by decide +kernel) (fun {y lo0} hlo0 {p l e R s m args below meth c cc D Γ ρ ls} hh _ hR => by
  have hl : lo0 = [(0, 0)] := Option.some.inj (hlo0.symm.trans (by decide +kernel))
  subst hl
  refine nk_segL (nk_nil _) nkl0_g1 (by decide +kernel) hh hR (fun ce hce ρ2 H2 locs2 ls2 st2 hX hR2 hF2 => ?_) (fun a ha => by cases ha)
  obtain rfl := List.mem_singleton.mp hce
  have hR2 : nkR (D, nkKd2, Γ) y.2.2.1 nkl0_eG.2.2.2.2.2.1 s.heap nkl0_gX ρ2 H2 locs2 ls2 st2 := hR2
  show W p l e R s m args below meth c H2 locs2 0 0 _ (F0 m 63 ls2 st2)
  obtain ⟨ax, ea, a1, a2⟩ := nk_int (hR2.1.1 3 _ rfl)
  obtain ⟨sx, es, s1, s2⟩ := nk_int (hR2.1.1 2 _ rfl)
  obtain ⟨t, et, htΓ⟩ := nk_rf (hR2.1.1 4 _ rfl)
  obtain ⟨j, hj, ej, fj⟩ := nh_nI (x := ax) (by omega)
  obtain ⟨sz, hsz, esz, fsz⟩ := nh_nI (x := sx) (by omega)
  have hkt : nkKd2[Γ t]? = some (1, 1, 1600, 1, [(0, 18446744073709551488, 18446744073709551743)]) := by rw [show Γ t = 43 from htΓ]; rfl
  obtain ⟨z, hz, hzt⟩ : ∃ z : Nat → Value, H2[t]? = some (arrV (D.2.2 1) 1600 z) ∧ ∀ j, j < 1600 → nkOk Γ (0, 18446744073709551488, 18446744073709551743) (z j) := nk_cel1 (E := (D, nkKd2, Γ)) hR2.1.2.2.2.2.1 hkt
  refine nk_callC hh (σ := (4, [4, 2, 3, 0])) (rest := []) (by decide +kernel) nkl0_sign hR2 trivial (fun F hF S' ρ' ρ3 H3 locs3 st3 v hS' hX3 hρ hX' hR3 hF3 hG => ?_)
  obtain rfl := List.mem_singleton.mp hF
  obtain ⟨r, hv, r1, r2, hg1, hg2⟩ := hG t j sz z et (by rw [← ej]; exact ea) (by rw [← esz]; exact es) hz (by omega) (by omega)
  subst hv
  have hn5 : ∀ i, i < 5 → ρ3 i = ρ2 i := hX3
  have hs5 : ρ3 5 = .int r := by
    have h1 := hρ 0
    have h2 := hR3.2.2.1.1
    have h3 : S'.2.2.2.1 = [5] := by
      have h4 := nk_afM_ok (f := fun S => decide (S.2.2.2.1 = [5])) (S := S') (by decide +kernel : nk_afM (nk_aft nkl0_gX [] 4 (4, [4, 2, 3, 0]) [] nkl0_sF) (fun S => decide (S.2.2.2.1 = [5])) = true) hS'
      exact of_decide_eq_true h4
    rw [h3] at h2
    exact (List.head_eq_of_cons_eq h2).symm
  have e0 : ∀ {a : Nat}, ρ 0 = .ref a → ρ2 0 = .ref a := fun h => (hX 0 (by decide)).trans h
  have fin : ∀ (ρ5 : Nat → Value) (H5 : Heap) (v5 : Option Value) (t5 : State), nkX 5 ρ3 ρ5 → nkT (D, nkKd2, Γ) nkl0_gAn ρ5 H5 → nkFr (D, nkKd2, Γ) nkl0_eG.2.2.2.2.2.1 s.heap H5 [] → nkRt nkl0_gAn ρ5 v5 → t5.heap = H5 → nkQg (D, nkKd2, Γ) nkl0_eG.2.2.2.2.2.1 nkl0_eG.2.2.2.2.2.2 nkl0_eG.2.2.2.2.1.1 ρ (fun _ H1 _ _ _ => ∀ a, ρ 0 = .ref a → nkTok (D, nkKd2, Γ) H1 a 6 3 8 1) args s (.returned v5) t5 := fun ρ5 H5 v5 t5 hX5 hT5 hF6 hv ht => by
    refine nk_finG (F := nkl0_gF) (σ := (5, [6, 5, 2, 1, 0])) (by decide +kernel) (by decide +kernel) hT5 (fun i hi => (hX5 i (Nat.lt_of_lt_of_le hi (by decide))).trans ((hX3 i (Nat.lt_of_lt_of_le hi (by decide))).trans (hX i hi))) (by decide) (List.mem_singleton.mpr rfl) hv ht hF6 ?_
    intro a ea0 h5
    have e5 : ρ5 0 = .ref a := (hX5 0 (by decide)).trans ((hX3 0 (by decide)).trans (e0 ea0))
    have h6 := (nkMe.fd hT5.2.1 (show (0, 8, 7) ∈ nkl0_gAn.2.2.2.2.1 by decide) e5).fn h5
    obtain ⟨q, eq, q1, q2⟩ := nk_int (hT5.1 7 _ rfl)
    rw [h6] at eq
    cases eq
    exact absurd q2 (by decide)
  by_cases c1 : r.toInt ≤ 36
  · have hR4 := nk_set_ok (i := 5) (v := (0, 18446744073709551616, 18446744073709551652)) hR3 (by rw [hs5]; exact nk_okI (by omega) (by omega))
    refine nk_segL (nk_nil _) (nk_afM_ok nkl0_g2a hS') (by decide +kernel) hh hR4 (fun ce hce => by cases hce) (fun a ha ρ5 H5 v5 t5 hX5 hT5 hF5 hF6 hv ht => ?_)
    obtain rfl := List.mem_singleton.mp ha
    exact fin ρ5 H5 v5 t5 hX5 hT5 hF6 hv ht
  · by_cases c2 : r.toInt ≤ 62
    · have hR4 := nk_set_ok (i := 5) (v := (0, 18446744073709551653, 18446744073709551678)) hR3 (by rw [hs5]; exact nk_okI (by omega) (by omega))
      obtain ⟨hjs, x, ex, x1, x2⟩ := hg1 (by omega) c2
      refine nk_segL (nk_nil _) (nk_afM_ok nkl0_g2b hS') (by decide +kernel) hh hR4 (fun ce hce => by cases hce) (fun a ha ρ5 H5 v5 t5 hX5 hT5 hF5 hF6 hv ht => ?_)
      rcases List.mem_cons.mp ha with rfl | ha
      · refine nk_finG (F := nkl0_gF) (σ := (5, [6, 3, 2, 1, 0])) (by decide +kernel) (by decide +kernel) hT5 (fun i hi => (hX5 i (Nat.lt_of_lt_of_le hi (by decide))).trans ((hX3 i (Nat.lt_of_lt_of_le hi (by decide))).trans (hX i hi))) (by decide) (List.mem_singleton.mpr rfl) hv ht hF6 ?_
        intro a ea0 _
        have e5 : ρ5 0 = .ref a := (hX5 0 (by decide)).trans ((hX3 0 (by decide)).trans (e0 ea0))
        have g3 : ρ5 3 = .int (nI j) := by rw [(hX5 3 (by decide)).trans (hX3 3 (by decide)), ea, ej]
        have g2 : ρ5 2 = .int (nI sz) := by rw [(hX5 2 (by decide)).trans (hX3 2 (by decide)), es, esz]
        have g4 : ρ5 4 = .ref t := by rw [(hX5 4 (by decide)).trans (hX3 4 (by decide)), et]
        obtain ⟨z5, hz5, -⟩ : ∃ z : Nat → Value, H5[t]? = some (arrV (D.2.2 1) 1600 z) ∧ ∀ j, j < 1600 → nkOk Γ (0, 18446744073709551488, 18446744073709551743) (z j) := nk_cel1 (E := (D, nkKd2, Γ)) hT5.2.2.2.2.1 hkt
        obtain ⟨z3, hz3, -⟩ : ∃ z : Nat → Value, H3[t]? = some (arrV (D.2.2 1) 1600 z) ∧ ∀ j, j < 1600 → nkOk Γ (0, 18446744073709551488, 18446744073709551743) (z j) := nk_cel1 (E := (D, nkKd2, Γ)) hR3.1.2.2.2.2.1 hkt
        have k1 : z3 j = z j := nk_kpA (E := (D, nkKd2, Γ)) hF3.2.2.2 hkt rfl (by omega) hz hz3
        have k2 : z5 j = z3 j := nk_kpA (E := (D, nkKd2, Γ)) hF5.2.2.2 hkt (by show nk_off _ (Γ t) j = true; rw [show Γ t = 43 from htΓ]; rfl) (by omega) hz3 hz5
        refine ⟨j, sz, t, z5, x, ?_, ?_, hjs, by omega, ?_, hz5, by rw [k2, k1]; exact ex, x1, x2⟩
        · rw [← g3]
          exact nkMe.fd hT5.2.1 (show (0, 6, 3) ∈ nkl0_gA5.2.2.2.2.1 by decide) e5
        · rw [← g2]
          exact nkMe.fd hT5.2.1 (show (0, 3, 2) ∈ nkl0_gA5.2.2.2.2.1 by decide) e5
        · rw [← g4]
          exact nkMe.fd hT5.2.1 (show (0, 1, 4) ∈ nkl0_gA5.2.2.2.2.1 by decide) e5
      · obtain rfl := List.mem_singleton.mp ha
        exact fin ρ5 H5 v5 t5 hX5 hT5 hF6 hv ht
    · have hR4 := nk_set_ok (i := 5) (v := (0, 18446744073709551679, 18446744073709551871)) hR3 (by rw [hs5]; exact nk_okI (by omega) (by omega))
      refine nk_segL (nk_nil _) (nk_afM_ok nkl0_g2c hS') (by decide +kernel) hh hR4 (fun ce hce => by cases hce) (fun a ha ρ5 H5 v5 t5 hX5 hT5 hF5 hF6 hv ht => ?_)
      obtain rfl := List.mem_singleton.mp ha
      exact fin ρ5 H5 v5 t5 hX5 hT5 hF6 hv ht)
theorem nkl0_must : nkMetG nkKd2 nkl0_eM (fun _ _ _ => True) (fun E ρ _ H1 _ F _ => F = nkl0_m2 ∨ ∀ a, ρ 0 = .ref a → nkTok E H1 a 6 3 8 1) := nk_handG (spt := []) (by decide +kernel) (fun {y lo0} hlo0 {p l e R s m args below meth c cc D Γ ρ ls} hh _ hR => by
  have hl : lo0 = [(0, 0), (1, 1)] := Option.some.inj (hlo0.symm.trans (by decide +kernel))
  subst hl
  refine nk_segH (nk_nil _) nkl0_ma (by decide +kernel) hh hR (fun ce hce ρ2 H2 locs2 ls2 st2 hX hR2 hF2 => ?_) (fun a ha ρ2 H2 v t hX hT hF2 hF3 hv ht => ?_)
  · obtain rfl := List.mem_singleton.mp hce
    have hR2 : nkR (D, nkKd2, Γ) y.2.2.1 nkl0_eM.2.2.2.2.2.1 s.heap nkl0_mX ρ2 H2 locs2 ls2 st2 := hR2
    show W p l e R s m args below meth c H2 locs2 0 0 _ (F0 m 13 ls2 st2)
    refine nk_callC hh (σ := (3, [4, 3, 0])) (rest := []) (by decide +kernel) nkl0_goOn hR2 trivial (fun F hF S' ρ' ρ3 H3 locs3 st3 v hS' hX3 hρ hX' hR3 hF3 hG => ?_)
    obtain rfl := List.mem_singleton.mp hF
    have hG : ∀ a, ρ2 0 = .ref a → nkTok (D, nkKd2, Γ) H3 a 6 3 8 1 := hG
    refine nk_segH (nk_nil _) (nk_afM_ok nkl0_mb hS') (by decide +kernel) hh hR3 (fun ce hce => by cases hce) (fun a ha ρ5 H5 v5 t5 hX5 hT5 hF5 hF6 hv ht => ?_)
    obtain rfl := List.mem_singleton.mp ha
    refine nk_finG (F := nkl0_m1) (σ := (7, [6, 5, 4, 3, 2, 1, 0])) (by decide +kernel) (by decide +kernel) hT5 (fun i hi => (hX5 i hi).trans ((hX3 i hi).trans (hX i hi))) (by decide) List.mem_cons_self hv ht hF6 (Or.inr (fun a ea0 => ?_))
    have e2 : ρ2 0 = .ref a := (hX 0 (by decide)).trans ea0
    have hk := nk_rf (hR.1.1 0 _ rfl)
    obtain ⟨a', ea', hΓ⟩ := hk
    rw [ea0] at ea'
    cases ea'
    exact nkTok.kept (hG a e2) (show Γ a = 40 from hΓ) (kt := 43) (by decide +kernel) hF5.2.2.2 hR3.1.2.2.2.2.1 hT5.2.2.2.2.1 (ci := 12) (n := 64) (P := 0) (ts := nkKds_40.2.2.2.2) (els := [(0, 18446744073709551488, 18446744073709551743)]) rfl rfl rfl (by decide) (by decide)
  · obtain rfl := List.mem_singleton.mp ha
    exact nk_finG (F := nkl0_m2) (σ := (6, [5, 4, 3, 2, 1, 0])) (by decide +kernel) (by decide +kernel) hT hX (by decide) (List.mem_cons_of_mem _ (List.mem_singleton.mpr rfl)) hv ht hF3 (Or.inl rfl))

def nkl1_sF : nkS := (5, [(0, 18446744073709551616, 18446744073709551871), (2, 43, 0), (0, 18446744073709551616, 18446744073709553216), (0, 18446744071562067968, 18446744075857035263), (2, 41, 0)], [], [4], [], [], [])
def nkl1_eS : nkIn := (167, 0, 0, 2, (4, [(2, 43, 0), (0, 18446744073709551616, 18446744073709553216), (0, 18446744073709551616, 18446744073709553216), (2, 41, 0)], [], [], [(0, 3, 2), (0, 1, 3)], [], []), [], [nkl1_sF])
def nkl1_sX : nkS := (4, [(2, 43, 0), (0, 18446744073709551616, 18446744073709553216), (0, 18446744073709551616, 18446744073709553215), (2, 41, 0)], [(0, 0), (1, 1)], [1, 3], [(0, 3, 2), (0, 1, 3)], [(1, 2, 18446744073709551615)], [])
def nkl1_sZ : nkS := (5, [(0, 18446744073709551616, 18446744073709551616), (2, 43, 0), (0, 18446744073709551616, 18446744073709553216), (0, 18446744073709551616, 18446744073709553216), (2, 41, 0)], [], [4], [], [(2, 1, 18446744073709551616)], [])
theorem nkl1_s1 : nk_sgM nkKd2 [] [] 167 0 0 [] [(13, nkl1_sX, [])] 4 [nkl1_sZ] 300 (4, [(2, 43, 0), (0, 18446744073709551616, 18446744073709553216), (0, 18446744073709551616, 18446744073709553216), (2, 41, 0)], [(0, 0), (1, 1)], [], [(0, 3, 2), (0, 1, 3)], [], []) 0 = true := by decide +kernel
def nkl1_sGa : nkS := (5, [(0, 18446744073709551616, 18446744073709551652), (2, 43, 0), (0, 18446744073709551616, 18446744073709553216), (0, 18446744073709551616, 18446744073709553215), (2, 41, 0)], [], [4], [], [], [])
theorem nkl1_s2a : nk_sgM nkKd2 [] [] 167 0 0 [] [] 4 [nkl1_sGa] 300 (nk_push nkl1_sX [] (0, 18446744073709551616, 18446744073709551652)) 14 = true := by decide +kernel
def nkl1_sGb : nkS := (5, [(0, 18446744073709551653, 18446744073709551678), (2, 43, 0), (0, 18446744073709551616, 18446744073709553216), (0, 18446744073709551616, 18446744073709553215), (2, 41, 0)], [], [4], [], [], [])
theorem nkl1_s2b : nk_sgM nkKd2 [] [] 167 0 0 [] [] 4 [nkl1_sGb] 300 (nk_push nkl1_sX [] (0, 18446744073709551653, 18446744073709551678)) 14 = true := by decide +kernel
def nkl1_sGc : nkS := (5, [(0, 18446744073709551679, 18446744073709551743), (2, 43, 0), (0, 18446744073709551616, 18446744073709553216), (0, 18446744073709551616, 18446744073709553215), (2, 41, 0)], [], [4], [], [], [])
theorem nkl1_s2c : nk_sgM nkKd2 [] [] 167 0 0 [] [] 4 [nkl1_sGc] 300 (nk_push nkl1_sX [] (0, 18446744073709551679, 18446744073709551743)) 14 = true := by decide +kernel
def nkl1_sGd : nkS := (5, [(0, 18446744073709551744, 18446744073709551871), (2, 43, 0), (0, 18446744073709551616, 18446744073709553216), (0, 18446744073709551616, 18446744073709553215), (2, 41, 0)], [], [4], [], [], [])
theorem nkl1_s2d : nk_sgM nkKd2 [] [] 167 0 0 [] [] 4 [nkl1_sGd] 300 (nk_push nkl1_sX [] (0, 18446744073709551488, 18446744073709551615)) 14 = true := by decide +kernel
def nkl1_gp : List (Nat × nkSp) := [(166, [(8, (2, 0), [6]), (8, (2, 0), [3]), (119, (2, 0), [7]), (259, (2, 0), [7]), (58, (2, 0), [1]), (58, (2, 0), [6]), (67, (9, 0), [18446744073709553215])])]
def nkl1_gF : nkS := (5, [(0, 18446744073709551616, 18446744073709553216), (0, 18446744073709551616, 18446744073709553216), (0, 18446744073709551616, 18446744073709553216), (0, 18446744073709551616, 18446744073709553216), (2, 41, 0)], [], [], [(0, 6, 3), (0, 7, 4), (0, 3, 2)], [(3, 4, 18446744073709551616), (4, 2, 18446744073709551616)], [])
def nkl1_eG : nkIn := (166, 8, 300, 1, (3, [(0, 18446744073709551616, 18446744073709553216), (0, 18446744073709551616, 18446744073709553216), (2, 41, 0)], [], [], [(0, 7, 1), (0, 3, 2)], [(1, 2, 18446744073709551616)], []), [(41, 6, 10)], [nkl1_gF])
def nkl1_gX : nkS := (5, [(2, 43, 0), (0, 18446744073709551616, 18446744073709553216), (0, 18446744073709551616, 18446744073709553216), (0, 18446744073709551616, 18446744073709553216), (2, 41, 0)], [(0, 0)], [3, 0], [(0, 6, 3), (0, 3, 2), (0, 1, 4)], [(1, 2, 18446744073709551616), (1, 3, 18446744073709551616)], [])
def nkl1_gc1 : List nkCe := [(8, (4, [(0, 18446744073709551616, 18446744073709553216), (0, 18446744073709551616, 18446744073709553216), (0, 18446744073709551616, 18446744073709553216), (2, 41, 0)], [(0, 0)], [], [(0, 6, 3), (0, 7, 1), (0, 3, 2)], [(1, 3, 18446744073709551616), (1, 2, 18446744073709551616)], []), [(0, 0, 18446744073709551618), (1, 3, 18446744073709553217), (0, 0, 18446744073709551617)])]
def nkl1_gx1 : List nkCe := [(63, nkl1_gX, [(0, 0, 18446744073709551616), (0, 0, 18446744073709551616), (0, 0, 18446744073709551616)])]
theorem nkl1_g1 : nk_sgL nkKd2 [] nkl1_gp 166 8 300 [(41, 6, 10)] nkl1_gc1 nkl1_gx1 3 [] 3000 (3, [(0, 18446744073709551616, 18446744073709553216), (0, 18446744073709551616, 18446744073709553216), (2, 41, 0)], [(0, 0)], [], [(0, 7, 1), (0, 3, 2)], [(1, 2, 18446744073709551616)], []) 0 = true := by decide +kernel
def nkl1_gXs : nkS := (6, [(0, 18446744073709551616, 18446744073709551871), (2, 43, 0), (0, 18446744073709551616, 18446744073709553216), (0, 18446744073709551616, 18446744073709553216), (0, 18446744073709551616, 18446744073709553216), (2, 41, 0)], [(0, 0)], [5], [(0, 6, 3), (0, 3, 2), (0, 1, 4)], [(1, 2, 18446744073709551616), (1, 3, 18446744073709551616)], [])
def nkl1_gA5 : nkS := (7, [(0, 18446744073709551616, 18446744073709553216), (0, 18446744073709551621, 18446744073709551621), (2, 43, 0), (0, 18446744073709551616, 18446744073709553216), (0, 18446744073709551616, 18446744073709553216), (0, 18446744073709551616, 18446744073709553216), (2, 41, 0)], [], [], [(0, 6, 3), (0, 3, 2), (0, 1, 4), (0, 8, 5), (0, 7, 6)], [(3, 6, 18446744073709551616), (6, 2, 18446744073709551616)], [])
def nkl1_gAn : nkS := (8, [(0, 18446744073709551616, 18446744073709551620), (0, 18446744073709551616, 18446744073709553216), (0, 18446744073709551616, 18446744073709553216), (2, 43, 0), (0, 18446744073709551616, 18446744073709553216), (0, 18446744073709551616, 18446744073709553216), (0, 18446744073709551616, 18446744073709553216), (2, 41, 0)], [], [], [(0, 6, 5), (0, 7, 6), (0, 3, 2), (0, 8, 7)], [(5, 6, 18446744073709551616), (6, 2, 18446744073709551616)], [])
def nkl1_gc2a : List nkCe := []
theorem nkl1_g2a : nk_afM (nk_aft nkl1_gX [] 4 (4, [4, 2, 3, 0]) [] nkl1_sF) (fun S' => nk_sgL nkKd2 [] nkl1_gp 166 8 300 [(41, 6, 10)] nkl1_gc2a [] 5 [nkl1_gAn] 30000 (nk_set S' 5 (0, 18446744073709551616, 18446744073709551652)) 66) = true := by decide +kernel
def nkl1_gc2b : List nkCe := [(259, (8, [(0, 18446744071562067968, 18446744075857035263), (0, 18446744073709551616, 18446744073709553216), (0, 18446744073709551664, 18446744073709551673), (2, 43, 0), (0, 18446744073709551616, 18446744073709553215), (0, 18446744073709551617, 18446744073709553216), (0, 18446744073709551616, 18446744073709553216), (2, 41, 0)], [(0, 0), (1, 5)], [], [(0, 7, 6), (0, 9, 7), (0, 6, 3), (0, 3, 2), (0, 1, 4)], [(1, 3, 18446744073709551616), (3, 6, 18446744073709551616), (6, 2, 18446744073709551616), (1, 2, 18446744073709551616)], []), [(0, 0, 18446744073709551618), (1, 6, 18446744073709553217), (0, 0, 18446744073709551617)])]
theorem nkl1_g2b : nk_afM (nk_aft nkl1_gX [] 4 (4, [4, 2, 3, 0]) [] nkl1_sF) (fun S' => nk_sgL nkKd2 [] nkl1_gp 166 8 300 [(41, 6, 10)] nkl1_gc2b [] 5 [nkl1_gA5, nkl1_gAn] 30000 (nk_set S' 5 (0, 18446744073709551653, 18446744073709551678)) 66) = true := by decide +kernel
def nkl1_gc2c : List nkCe := [(119, (7, [(0, 18446744073709551617, 18446744073709553216), (0, 18446744073709551713, 18446744073709551738), (2, 43, 0), (0, 18446744073709551616, 18446744073709553215), (0, 18446744073709551617, 18446744073709553216), (0, 18446744073709551616, 18446744073709553216), (2, 41, 0)], [(0, 0), (1, 5)], [], [(0, 7, 6), (0, 6, 3), (0, 3, 2), (0, 1, 4)], [(1, 3, 18446744073709551616), (3, 6, 18446744073709551616), (6, 2, 18446744073709551616), (1, 2, 18446744073709551616)], []), [(0, 0, 18446744073709551619), (1, 6, 18446744073709553217), (0, 0, 18446744073709551617)]), (156, (9, [(0, 18446744073709551617, 18446744073709553216), (1, 9223372036854775808, 27670116110564327423), (0, 18446744073709551616, 18446744073709553216), (0, 18446744073709551713, 18446744073709551738), (2, 43, 0), (0, 18446744073709551616, 18446744073709553215), (0, 18446744073709551617, 18446744073709553216), (0, 18446744073709551616, 18446744073709553216), (2, 41, 0)], [(0, 0), (1, 5), (2, 6)], [], [(0, 10, 7), (0, 7, 8), (0, 6, 3), (0, 3, 2), (0, 1, 4)], [(1, 3, 18446744073709551616), (3, 8, 18446744073709551616), (8, 2, 18446744073709551616), (1, 2, 18446744073709551616)], []), [(0, 0, 18446744073709551618), (1, 6, 18446744073709553217), (0, 0, 18446744073709551617)])]
theorem nkl1_g2c : nk_afM (nk_aft nkl1_gX [] 4 (4, [4, 2, 3, 0]) [] nkl1_sF) (fun S' => nk_sgL nkKd2 [] nkl1_gp 166 8 300 [(41, 6, 10)] nkl1_gc2c [] 5 [nkl1_gAn] 30000 (nk_set S' 5 (0, 18446744073709551679, 18446744073709551871)) 66) = true := by decide +kernel
def nkl1_m1 : nkS := (7, [(0, 18446744073709551616, 18446744073709553216), (0, 18446744073709551616, 18446744073709553216), (0, 18446744073709551616, 18446744073709553216), (0, 18446744073709551616, 18446744073709553216), (0, 18446744073709551616, 18446744073709553216), (0, 18446744073709551616, 18446744073709551617), (2, 41, 0)], [], [], [(0, 6, 5), (0, 7, 6), (0, 3, 4)], [(5, 6, 18446744073709551616), (6, 4, 18446744073709551616)], [])
def nkl1_m2 : nkS := (6, [(0, 18446744073709551617, 18446744073709551620), (0, 18446744073709551616, 18446744073709553216), (0, 18446744073709551616, 18446744073709553216), (0, 18446744073709551616, 18446744073709553216), (0, 18446744073709551616, 18446744073709551617), (2, 41, 0)], [], [], [(0, 6, 2), (0, 7, 3), (0, 3, 4), (0, 4, 5)], [(2, 3, 18446744073709551616), (3, 4, 18446744073709551616)], [])
def nkl1_eM : nkIn := (180, 10, 400, 2, (5, [(0, 18446744073709551616, 18446744073709553216), (0, 18446744073709551616, 18446744073709553216), (0, 18446744073709551616, 18446744073709553216), (0, 18446744073709551616, 18446744073709551617), (2, 41, 0)], [], [], [(0, 6, 2), (0, 7, 3), (0, 3, 4)], [(3, 4, 18446744073709551616), (2, 3, 18446744073709551616)], []), [(41, 4, 10)], [nkl1_m1, nkl1_m2])
def nkl1_mX : nkS := (5, [(0, 18446744073709551616, 18446744073709553216), (0, 18446744073709551616, 18446744073709553216), (0, 18446744073709551616, 18446744073709553216), (0, 18446744073709551616, 18446744073709551617), (2, 41, 0)], [(0, 0)], [0], [(0, 6, 2), (0, 7, 3), (0, 3, 4)], [(3, 4, 18446744073709551616), (2, 3, 18446744073709551616)], [])
theorem nkl1_ma : nk_sgM nkKd2 [] [] 180 10 400 [(41, 4, 5)] [(13, nkl1_mX, [])] 5 [nkl1_m2] 300 (5, [(0, 18446744073709551616, 18446744073709553216), (0, 18446744073709551616, 18446744073709553216), (0, 18446744073709551616, 18446744073709553216), (0, 18446744073709551616, 18446744073709551617), (2, 41, 0)], [(0, 0), (1, 1)], [], [(0, 6, 2), (0, 7, 3), (0, 3, 4)], [(3, 4, 18446744073709551616), (2, 3, 18446744073709551616)], []) 0 = true := by decide +kernel
theorem nkl1_mb : nk_afM (nk_aft nkl1_mX [] 3 (3, [4, 3, 0]) nkl1_eG.2.2.2.2.2.1 nkl1_gF) (fun S' => nk_sgM nkKd2 [] [] 180 10 400 [] [] 5 [nkl1_m1] 300 S' 16) = true := by decide +kernel
theorem nkl1_sign : nkMetG nkKd2 nkl1_eS (fun _ _ _ => True) (fun E ρ H _ v _ _ => nkSgQ E ρ H v) := nk_handG (spt := []) (by decide +kernel) (fun {y lo0} hlo0 {p l e R s m args below meth c cc D Γ ρ ls} hh _ hR => by
  have hl : lo0 = [(0, 0), (1, 1)] := Option.some.inj (hlo0.symm.trans (by decide +kernel))
  subst hl
  obtain ⟨kx, ek, k1, k2⟩ := nk_int (hR.1.1 1 _ rfl)
  obtain ⟨sx, es, s1, s2⟩ := nk_int (hR.1.1 2 _ rfl)
  obtain ⟨t, et, htΓ⟩ := nk_rf (hR.1.1 3 _ rfl)
  obtain ⟨j, hj, ej, fj⟩ := nh_nI (x := kx) (by omega)
  have hkt : nkKd2[Γ t]? = some (1, 1, 1600, 1, [(0, 18446744073709551488, 18446744073709551743)]) := by rw [show Γ t = 43 from htΓ]; rfl
  refine nk_segH (nk_nil _) nkl1_s1 (by decide +kernel) hh hR (fun ce hce ρ2 H2 locs2 ls2 st2 hX hR2 hF2 => ?_) (fun a ha ρ2 H2 v t2 hX hT hF2 hF3 hv ht => ?_)
  · obtain rfl := List.mem_singleton.mp hce
    have hR2 : nkR (D, nkKd2, Γ) y.2.2.1 nkl1_eS.2.2.2.2.2.1 s.heap nkl1_sX ρ2 H2 locs2 ls2 st2 := hR2
    show W p l e R s m args below meth c H2 locs2 0 0 _ (F0 m 13 ls2 st2)
    have f1 : ρ2 1 = .int kx := (hX 1 (by decide)).trans ek
    have f2 : ρ2 2 = .int sx := (hX 2 (by decide)).trans es
    have f3 : ρ2 3 = .ref t := (hX 3 (by decide)).trans et
    obtain ⟨z, hz, hzt⟩ : ∃ z : Nat → Value, H2[t]? = some (arrV (D.2.2 1) 1600 z) ∧ ∀ j, j < 1600 → nkOk Γ (0, 18446744073709551488, 18446744073709551743) (z j) := nk_cel1 (E := (D, nkKd2, Γ)) hR2.1.2.2.2.2.1 hkt
    have q := nk_di2 hR2.1.2.2.1 (a := 1) (b := 2) (c := 18446744073709551615) List.mem_cons_self f1 f2
    have hcl : kx.toNatClampNeg = j := by rw [ej]; exact nI_clamp hj
    obtain ⟨x, ex, x1, x2⟩ := nk_int (hzt j (by omega))
    have hzv : z kx.toNatClampNeg = .int x := by rw [hcl]; exact ex
    have hld : ∀ v : nkV, nkOk Γ v (.int x) → (∀ st', nkR (D, nkKd2, Γ) y.2.2.1 nkl1_eS.2.2.2.2.2.1 s.heap (nk_push nkl1_sX [] v) (updV ρ2 4 (.int x)) H2 locs2 ls2 st' → W p l e R s m args below meth c H2 locs2 0 0 (MQ below (nkQg (D, nkKd2, Γ) nkl1_eS.2.2.2.2.2.1 nkl1_eS.2.2.2.2.2.2 nkl1_eS.2.2.2.2.1.1 ρ (fun H _ v _ _ => nkSgQ (D, nkKd2, Γ) ρ H v)) args s 0 0 (nkA (D, nkKd2, Γ))) (F0 m 14 ls2 st')) → W p l e R s m args below meth c H2 locs2 0 0 (MQ below (nkQg (D, nkKd2, Γ) nkl1_eS.2.2.2.2.2.1 nkl1_eS.2.2.2.2.2.2 nkl1_eS.2.2.2.2.1.1 ρ (fun H _ v _ _ => nkSgQ (D, nkKd2, Γ) ρ H v)) args s 0 0 (nkA (D, nkKd2, Γ))) (F0 m 13 ls2 st2) := fun v hv kk => by
      refine nk_hAld hh.2.1.1 (hh.2.1.2.2.1 13 (.baload, 1) (show nk_dk (nk_nD nhDa 167 []) 13 = some (.baload, 1) by decide +kernel)) (show nkl1_sX.2.2.2.1 = 1 :: 3 :: [] from rfl) hR2 (ti := 1) (by decide) f3 hz f1 (by omega) (by omega) (v := v) (by rw [hzv]; exact hv) (fun st' hR3 => ?_)
      rw [hzv] at hR3
      exact kk st' hR3
    have fin : ∀ (lo hi : Nat) (a : nkS) (ρ5 : Nat → Value) (H5 : Heap) (v : Option Value), nkFr (D, nkKd2, Γ) nkl1_eS.2.2.2.2.2.1 s.heap H5 [] → a.2.2.2.1 = [4] → nkOk Γ (0, lo, hi) (ρ5 4) → nkRt a ρ5 v → 18446744073709551616 ≤ lo → hi ≤ 18446744073709551871 → (37 ≤ x.toInt → x.toInt ≤ 62 → 18446744073709551653 ≤ lo ∧ hi ≤ 18446744073709551678) → ((lo ≤ 18446744073709551678 ∧ 18446744073709551653 ≤ hi) → 37 ≤ x.toInt ∧ x.toInt ≤ 62) → nkSgQ (D, nkKd2, Γ) ρ s.heap v := by
      intro lo hi a ρ5 H5 v hF5 hst hok hv hlo hhi hc1 hc2 t' j' sz z' q1 q2 q3 q4 q5 q6
      have q1 := et.symm.trans q1
      cases q1
      have q2 := ek.symm.trans q2
      have q2 := Value.int.inj q2
      have ejj : j' = j := by
        have h1 := congrArg Int32.toInt q2
        rw [nI_toInt (by omega), fj] at h1
        omega
      subst ejj
      have q3 := Value.int.inj (es.symm.trans q3)
      have esz : sx.toInt = (sz : Int) := by rw [q3]; exact nI_toInt (by omega)
      have hzz : z j' = z' j' := nk_kpA (E := (D, nkKd2, Γ)) hR2.2.2.2.2.2.2 hkt rfl (by omega) q4 hz
      obtain ⟨r, er, r1, r2⟩ := nk_int hok
      have hv' : v = some (.int r) := by
        unfold nkRt at hv
        rw [hst] at hv
        rw [hv.2, er]
      refine ⟨r, hv', by omega, by omega, fun h1 h2 => ⟨by omega, x, hzz.symm.trans ex, ?_⟩, fun x' h0 hx' h1 h2 => ?_⟩
      · exact hc2 ⟨by omega, by omega⟩
      · have hxx := (hzz.symm.trans ex).symm.trans hx'
        cases hxx
        have := hc1 h1 h2
        exact ⟨by omega, by omega⟩
    by_cases c1 : x.toInt < 0
    · refine hld (0, 18446744073709551488, 18446744073709551615) (nk_okI (by omega) (by omega)) (fun st3 hR3 => ?_)
      refine nk_segH (nk_nil _) nkl1_s2d (by decide +kernel) hh hR3 (fun ce hce => by cases hce) (fun a ha ρ5 H5 v t5 hX5 hT5 hF5 hF6 hv ht => ?_)
      obtain rfl := List.mem_singleton.mp ha
      exact nk_finG (F := nkl1_sF) (σ := (5, [4, 3, 2, 1, 0])) (by decide +kernel) (by decide +kernel) hT5 (fun i hi => (hX5 i hi).trans ((nkX.push 4 ρ2 (.int x) i hi).trans (hX i hi))) (by decide) (List.mem_singleton.mpr rfl) hv ht hF6 (fin _ _ _ ρ5 H5 v hF6 rfl (hT5.1 4 _ rfl) hv (by decide) (by decide) (fun h1 _ => by omega) (fun h => absurd h (by decide)))
    · by_cases c2 : x.toInt ≤ 36
      · refine hld (0, 18446744073709551616, 18446744073709551652) (nk_okI (by omega) (by omega)) (fun st3 hR3 => ?_)
        refine nk_segH (nk_nil _) nkl1_s2a (by decide +kernel) hh hR3 (fun ce hce => by cases hce) (fun a ha ρ5 H5 v t5 hX5 hT5 hF5 hF6 hv ht => ?_)
        obtain rfl := List.mem_singleton.mp ha
        exact nk_finG (F := nkl1_sF) (σ := (5, [4, 3, 2, 1, 0])) (by decide +kernel) (by decide +kernel) hT5 (fun i hi => (hX5 i hi).trans ((nkX.push 4 ρ2 (.int x) i hi).trans (hX i hi))) (by decide) (List.mem_singleton.mpr rfl) hv ht hF6 (fin _ _ _ ρ5 H5 v hF6 rfl (hT5.1 4 _ rfl) hv (by decide) (by decide) (fun h1 _ => by omega) (fun h => absurd h (by decide)))
      · by_cases c3 : x.toInt ≤ 62
        · refine hld (0, 18446744073709551653, 18446744073709551678) (nk_okI (by omega) (by omega)) (fun st3 hR3 => ?_)
          refine nk_segH (nk_nil _) nkl1_s2b (by decide +kernel) hh hR3 (fun ce hce => by cases hce) (fun a ha ρ5 H5 v t5 hX5 hT5 hF5 hF6 hv ht => ?_)
          obtain rfl := List.mem_singleton.mp ha
          exact nk_finG (F := nkl1_sF) (σ := (5, [4, 3, 2, 1, 0])) (by decide +kernel) (by decide +kernel) hT5 (fun i hi => (hX5 i hi).trans ((nkX.push 4 ρ2 (.int x) i hi).trans (hX i hi))) (by decide) (List.mem_singleton.mpr rfl) hv ht hF6 (fin _ _ _ ρ5 H5 v hF6 rfl (hT5.1 4 _ rfl) hv (by decide) (by decide) (fun _ _ => by decide) (fun _ => by omega))
        · refine hld (0, 18446744073709551679, 18446744073709551743) (nk_okI (by omega) (by omega)) (fun st3 hR3 => ?_)
          refine nk_segH (nk_nil _) nkl1_s2c (by decide +kernel) hh hR3 (fun ce hce => by cases hce) (fun a ha ρ5 H5 v t5 hX5 hT5 hF5 hF6 hv ht => ?_)
          obtain rfl := List.mem_singleton.mp ha
          exact nk_finG (F := nkl1_sF) (σ := (5, [4, 3, 2, 1, 0])) (by decide +kernel) (by decide +kernel) hT5 (fun i hi => (hX5 i hi).trans ((nkX.push 4 ρ2 (.int x) i hi).trans (hX i hi))) (by decide) (List.mem_singleton.mpr rfl) hv ht hF6 (fin _ _ _ ρ5 H5 v hF6 rfl (hT5.1 4 _ rfl) hv (by decide) (by decide) (fun _ h2 => by omega) (fun h => absurd h (by decide)))
  · obtain rfl := List.mem_singleton.mp ha
    refine nk_finG (F := nkl1_sF) (σ := (5, [4, 3, 2, 1, 0])) (by decide +kernel) (by decide +kernel) hT hX (by decide) (List.mem_singleton.mpr rfl) hv ht hF3 ?_
    intro t' j' sz z' q1 q2 q3 q4 q5 q6
    obtain ⟨r, er, r1, r2⟩ := nk_int (hT.1 4 _ rfl)
    have q2 := Value.int.inj (ek.symm.trans q2)
    have q3 := Value.int.inj (es.symm.trans q3)
    have ekk : kx.toInt = (j' : Int) := by rw [q2]; exact nI_toInt (by omega)
    have ess : sx.toInt = (sz : Int) := by rw [q3]; exact nI_toInt (by omega)
    have q := nk_di2 hT.2.2.1 (a := 2) (b := 1) (c := 18446744073709551616) List.mem_cons_self ((hX 2 (by decide)).trans es) ((hX 1 (by decide)).trans ek)
    refine ⟨r, ?_, by omega, by omega, fun h1 h2 => by omega, fun x' h0 => by omega⟩
    have hv2 : v = some (ρ2 4) := hv.2
    rw [hv2, er])
theorem nkl1_goOn : nkMetG nkKd2 nkl1_eG (fun _ _ _ => True) (fun E ρ _ H1 _ _ _ => ∀ a, ρ 0 = .ref a → nkTok E H1 a 6 3 8 1) := nk_handG (spt := nkl1_gp) (by decide +kernel) (fun {y lo0} hlo0 {p l e R s m args below meth c cc D Γ ρ ls} hh _ hR => by
  have hl : lo0 = [(0, 0)] := Option.some.inj (hlo0.symm.trans (by decide +kernel))
  subst hl
  refine nk_segL (nk_nil _) nkl1_g1 (by decide +kernel) hh hR (fun ce hce ρ2 H2 locs2 ls2 st2 hX hR2 hF2 => ?_) (fun a ha => by cases ha)
  obtain rfl := List.mem_singleton.mp hce
  have hR2 : nkR (D, nkKd2, Γ) y.2.2.1 nkl1_eG.2.2.2.2.2.1 s.heap nkl1_gX ρ2 H2 locs2 ls2 st2 := hR2
  show W p l e R s m args below meth c H2 locs2 0 0 _ (F0 m 63 ls2 st2)
  obtain ⟨ax, ea, a1, a2⟩ := nk_int (hR2.1.1 3 _ rfl)
  obtain ⟨sx, es, s1, s2⟩ := nk_int (hR2.1.1 2 _ rfl)
  obtain ⟨t, et, htΓ⟩ := nk_rf (hR2.1.1 4 _ rfl)
  obtain ⟨j, hj, ej, fj⟩ := nh_nI (x := ax) (by omega)
  obtain ⟨sz, hsz, esz, fsz⟩ := nh_nI (x := sx) (by omega)
  have hkt : nkKd2[Γ t]? = some (1, 1, 1600, 1, [(0, 18446744073709551488, 18446744073709551743)]) := by rw [show Γ t = 43 from htΓ]; rfl
  obtain ⟨z, hz, hzt⟩ : ∃ z : Nat → Value, H2[t]? = some (arrV (D.2.2 1) 1600 z) ∧ ∀ j, j < 1600 → nkOk Γ (0, 18446744073709551488, 18446744073709551743) (z j) := nk_cel1 (E := (D, nkKd2, Γ)) hR2.1.2.2.2.2.1 hkt
  refine nk_callC hh (σ := (4, [4, 2, 3, 0])) (rest := []) (by decide +kernel) nkl1_sign hR2 trivial (fun F hF S' ρ' ρ3 H3 locs3 st3 v hS' hX3 hρ hX' hR3 hF3 hG => ?_)
  obtain rfl := List.mem_singleton.mp hF
  obtain ⟨r, hv, r1, r2, hg1, hg2⟩ := hG t j sz z et (by rw [← ej]; exact ea) (by rw [← esz]; exact es) hz (by omega) (by omega)
  subst hv
  have hn5 : ∀ i, i < 5 → ρ3 i = ρ2 i := hX3
  have hs5 : ρ3 5 = .int r := by
    have h1 := hρ 0
    have h2 := hR3.2.2.1.1
    have h3 : S'.2.2.2.1 = [5] := by
      have h4 := nk_afM_ok (f := fun S => decide (S.2.2.2.1 = [5])) (S := S') (by decide +kernel : nk_afM (nk_aft nkl1_gX [] 4 (4, [4, 2, 3, 0]) [] nkl1_sF) (fun S => decide (S.2.2.2.1 = [5])) = true) hS'
      exact of_decide_eq_true h4
    rw [h3] at h2
    exact (List.head_eq_of_cons_eq h2).symm
  have e0 : ∀ {a : Nat}, ρ 0 = .ref a → ρ2 0 = .ref a := fun h => (hX 0 (by decide)).trans h
  have fin : ∀ (ρ5 : Nat → Value) (H5 : Heap) (v5 : Option Value) (t5 : State), nkX 5 ρ3 ρ5 → nkT (D, nkKd2, Γ) nkl1_gAn ρ5 H5 → nkFr (D, nkKd2, Γ) nkl1_eG.2.2.2.2.2.1 s.heap H5 [] → nkRt nkl1_gAn ρ5 v5 → t5.heap = H5 → nkQg (D, nkKd2, Γ) nkl1_eG.2.2.2.2.2.1 nkl1_eG.2.2.2.2.2.2 nkl1_eG.2.2.2.2.1.1 ρ (fun _ H1 _ _ _ => ∀ a, ρ 0 = .ref a → nkTok (D, nkKd2, Γ) H1 a 6 3 8 1) args s (.returned v5) t5 := fun ρ5 H5 v5 t5 hX5 hT5 hF6 hv ht => by
    refine nk_finG (F := nkl1_gF) (σ := (5, [6, 5, 2, 1, 0])) (by decide +kernel) (by decide +kernel) hT5 (fun i hi => (hX5 i (Nat.lt_of_lt_of_le hi (by decide))).trans ((hX3 i (Nat.lt_of_lt_of_le hi (by decide))).trans (hX i hi))) (by decide) (List.mem_singleton.mpr rfl) hv ht hF6 ?_
    intro a ea0 h5
    have e5 : ρ5 0 = .ref a := (hX5 0 (by decide)).trans ((hX3 0 (by decide)).trans (e0 ea0))
    have h6 := (nkMe.fd hT5.2.1 (show (0, 8, 7) ∈ nkl1_gAn.2.2.2.2.1 by decide) e5).fn h5
    obtain ⟨q, eq, q1, q2⟩ := nk_int (hT5.1 7 _ rfl)
    rw [h6] at eq
    cases eq
    exact absurd q2 (by decide)
  by_cases c1 : r.toInt ≤ 36
  · have hR4 := nk_set_ok (i := 5) (v := (0, 18446744073709551616, 18446744073709551652)) hR3 (by rw [hs5]; exact nk_okI (by omega) (by omega))
    refine nk_segL (nk_nil _) (nk_afM_ok nkl1_g2a hS') (by decide +kernel) hh hR4 (fun ce hce => by cases hce) (fun a ha ρ5 H5 v5 t5 hX5 hT5 hF5 hF6 hv ht => ?_)
    obtain rfl := List.mem_singleton.mp ha
    exact fin ρ5 H5 v5 t5 hX5 hT5 hF6 hv ht
  · by_cases c2 : r.toInt ≤ 62
    · have hR4 := nk_set_ok (i := 5) (v := (0, 18446744073709551653, 18446744073709551678)) hR3 (by rw [hs5]; exact nk_okI (by omega) (by omega))
      obtain ⟨hjs, x, ex, x1, x2⟩ := hg1 (by omega) c2
      refine nk_segL (nk_nil _) (nk_afM_ok nkl1_g2b hS') (by decide +kernel) hh hR4 (fun ce hce => by cases hce) (fun a ha ρ5 H5 v5 t5 hX5 hT5 hF5 hF6 hv ht => ?_)
      rcases List.mem_cons.mp ha with rfl | ha
      · refine nk_finG (F := nkl1_gF) (σ := (5, [6, 3, 2, 1, 0])) (by decide +kernel) (by decide +kernel) hT5 (fun i hi => (hX5 i (Nat.lt_of_lt_of_le hi (by decide))).trans ((hX3 i (Nat.lt_of_lt_of_le hi (by decide))).trans (hX i hi))) (by decide) (List.mem_singleton.mpr rfl) hv ht hF6 ?_
        intro a ea0 _
        have e5 : ρ5 0 = .ref a := (hX5 0 (by decide)).trans ((hX3 0 (by decide)).trans (e0 ea0))
        have g3 : ρ5 3 = .int (nI j) := by rw [(hX5 3 (by decide)).trans (hX3 3 (by decide)), ea, ej]
        have g2 : ρ5 2 = .int (nI sz) := by rw [(hX5 2 (by decide)).trans (hX3 2 (by decide)), es, esz]
        have g4 : ρ5 4 = .ref t := by rw [(hX5 4 (by decide)).trans (hX3 4 (by decide)), et]
        obtain ⟨z5, hz5, -⟩ : ∃ z : Nat → Value, H5[t]? = some (arrV (D.2.2 1) 1600 z) ∧ ∀ j, j < 1600 → nkOk Γ (0, 18446744073709551488, 18446744073709551743) (z j) := nk_cel1 (E := (D, nkKd2, Γ)) hT5.2.2.2.2.1 hkt
        obtain ⟨z3, hz3, -⟩ : ∃ z : Nat → Value, H3[t]? = some (arrV (D.2.2 1) 1600 z) ∧ ∀ j, j < 1600 → nkOk Γ (0, 18446744073709551488, 18446744073709551743) (z j) := nk_cel1 (E := (D, nkKd2, Γ)) hR3.1.2.2.2.2.1 hkt
        have k1 : z3 j = z j := nk_kpA (E := (D, nkKd2, Γ)) hF3.2.2.2 hkt rfl (by omega) hz hz3
        have k2 : z5 j = z3 j := nk_kpA (E := (D, nkKd2, Γ)) hF5.2.2.2 hkt (by show nk_off _ (Γ t) j = true; rw [show Γ t = 43 from htΓ]; rfl) (by omega) hz3 hz5
        refine ⟨j, sz, t, z5, x, ?_, ?_, hjs, by omega, ?_, hz5, by rw [k2, k1]; exact ex, x1, x2⟩
        · rw [← g3]
          exact nkMe.fd hT5.2.1 (show (0, 6, 3) ∈ nkl1_gA5.2.2.2.2.1 by decide) e5
        · rw [← g2]
          exact nkMe.fd hT5.2.1 (show (0, 3, 2) ∈ nkl1_gA5.2.2.2.2.1 by decide) e5
        · rw [← g4]
          exact nkMe.fd hT5.2.1 (show (0, 1, 4) ∈ nkl1_gA5.2.2.2.2.1 by decide) e5
      · obtain rfl := List.mem_singleton.mp ha
        exact fin ρ5 H5 v5 t5 hX5 hT5 hF6 hv ht
    · have hR4 := nk_set_ok (i := 5) (v := (0, 18446744073709551679, 18446744073709551871)) hR3 (by rw [hs5]; exact nk_okI (by omega) (by omega))
      refine nk_segL (nk_nil _) (nk_afM_ok nkl1_g2c hS') (by decide +kernel) hh hR4 (fun ce hce => by cases hce) (fun a ha ρ5 H5 v5 t5 hX5 hT5 hF5 hF6 hv ht => ?_)
      obtain rfl := List.mem_singleton.mp ha
      exact fin ρ5 H5 v5 t5 hX5 hT5 hF6 hv ht)
theorem nkl1_must : nkMetG nkKd2 nkl1_eM (fun _ _ _ => True) (fun E ρ _ H1 _ F _ => F = nkl1_m2 ∨ ∀ a, ρ 0 = .ref a → nkTok E H1 a 6 3 8 1) := nk_handG (spt := []) (by decide +kernel) (fun {y lo0} hlo0 {p l e R s m args below meth c cc D Γ ρ ls} hh _ hR => by
  have hl : lo0 = [(0, 0), (1, 1)] := Option.some.inj (hlo0.symm.trans (by decide +kernel))
  subst hl
  refine nk_segH (nk_nil _) nkl1_ma (by decide +kernel) hh hR (fun ce hce ρ2 H2 locs2 ls2 st2 hX hR2 hF2 => ?_) (fun a ha ρ2 H2 v t hX hT hF2 hF3 hv ht => ?_)
  · obtain rfl := List.mem_singleton.mp hce
    have hR2 : nkR (D, nkKd2, Γ) y.2.2.1 nkl1_eM.2.2.2.2.2.1 s.heap nkl1_mX ρ2 H2 locs2 ls2 st2 := hR2
    show W p l e R s m args below meth c H2 locs2 0 0 _ (F0 m 13 ls2 st2)
    refine nk_callC hh (σ := (3, [4, 3, 0])) (rest := []) (by decide +kernel) nkl1_goOn hR2 trivial (fun F hF S' ρ' ρ3 H3 locs3 st3 v hS' hX3 hρ hX' hR3 hF3 hG => ?_)
    obtain rfl := List.mem_singleton.mp hF
    have hG : ∀ a, ρ2 0 = .ref a → nkTok (D, nkKd2, Γ) H3 a 6 3 8 1 := hG
    refine nk_segH (nk_nil _) (nk_afM_ok nkl1_mb hS') (by decide +kernel) hh hR3 (fun ce hce => by cases hce) (fun a ha ρ5 H5 v5 t5 hX5 hT5 hF5 hF6 hv ht => ?_)
    obtain rfl := List.mem_singleton.mp ha
    refine nk_finG (F := nkl1_m1) (σ := (7, [6, 5, 4, 3, 2, 1, 0])) (by decide +kernel) (by decide +kernel) hT5 (fun i hi => (hX5 i hi).trans ((hX3 i hi).trans (hX i hi))) (by decide) List.mem_cons_self hv ht hF6 (Or.inr (fun a ea0 => ?_))
    have e2 : ρ2 0 = .ref a := (hX 0 (by decide)).trans ea0
    have hk := nk_rf (hR.1.1 0 _ rfl)
    obtain ⟨a', ea', hΓ⟩ := hk
    rw [ea0] at ea'
    cases ea'
    exact nkTok.kept (hG a e2) (show Γ a = 41 from hΓ) (kt := 43) (by decide +kernel) hF5.2.2.2 hR3.1.2.2.2.2.1 hT5.2.2.2.2.1 (ci := 12) (n := 64) (P := 0) (ts := nkKds_41.2.2.2.2) (els := [(0, 18446744073709551488, 18446744073709551743)]) rfl rfl rfl (by decide) (by decide)
  · obtain rfl := List.mem_singleton.mp ha
    exact nk_finG (F := nkl1_m2) (σ := (6, [5, 4, 3, 2, 1, 0])) (by decide +kernel) (by decide +kernel) hT hX (by decide) (List.mem_cons_of_mem _ (List.mem_singleton.mpr rfl)) hv ht hF3 (Or.inl rfl))

