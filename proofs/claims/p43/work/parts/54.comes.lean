/-! comes(), by hand: printed by h_comes.py -/
def nkm0_sp : List (Nat × nkSp) := [(202, [(0, (2, 0), [27])])]
def nkm0_en : nkIn := (202, 8, 300, 1, (1, [(2, 40, 0)], [], [], [], [], []), [(62, 0, 59)], [(2, [(0, 18446744071562067968, 18446744075857035263), (2, 40, 0)], [], [1], [], [], [])])
def nkm0_A : nkS := (7, [(2, 82, 0), (2, 83, 0), (2, 80, 0), (0, 18446744071562067968, 18446744075857035263), (0, 18446744071562067968, 18446744075857035263), (0, 18446744073709551616, 18446744073709551616), (2, 40, 0)], [(0, 0), (1, 1), (2, 2)], [3, 2], [(0, 27, 4), (0, 25, 5), (5, 0, 3), (0, 24, 6), (6, 0, 2)], [], [])
def nkm0_H : nkS := (6, [(2, 83, 0), (2, 80, 0), (0, 18446744071562067968, 18446744075857035263), (0, 18446744073709551616, 18446744073709552736), (0, 18446744073709551616, 18446744073709551676), (2, 40, 0)], [(0, 0), (1, 1), (2, 2)], [3, 2], [(0, 27, 4), (0, 25, 5), (5, 0, 3)], [], [])
def nkm0_X : nkS := (6, [(2, 83, 0), (2, 80, 0), (0, 18446744071562067968, 18446744075857035263), (0, 18446744073709551616, 18446744073709552736), (0, 18446744073709551616, 18446744073709551676), (2, 40, 0)], [(0, 0), (1, 1), (2, 2)], [2, 4], [(0, 27, 4), (0, 25, 5), (5, 0, 3)], [(2, 3, 18446744073709551615)], [])
def nkm0_F : nkS := (7, [(0, 18446744071562067968, 18446744075857035263), (2, 83, 0), (2, 80, 0), (0, 18446744071562067968, 18446744075857035263), (0, 18446744073709551616, 18446744073709552736), (0, 18446744073709551616, 18446744073709551676), (2, 40, 0)], [], [6], [], [], [])
def nkm0_Ot : nkS := (7, [(0, 18446744073709551617, 18446744073709552736), (2, 83, 0), (2, 80, 0), (0, 18446744071562067968, 18446744075857035263), (0, 18446744073709551616, 18446744073709552735), (0, 18446744073709551617, 18446744073709551676), (2, 40, 0)], [(0, 0), (1, 1), (2, 6)], [3, 6], [(0, 27, 4), (0, 25, 5), (5, 0, 3)], [(6, 2, 18446744073709551617), (2, 6, 18446744073709551615)], [])
def nkm0_St : nkS := nk_set (nk_set (nk_push nkm0_X [] (0, 18446744073709551742, 18446744073709551742)) 1 (0, 18446744073709551617, 18446744073709551676)) 2 (0, 18446744073709551616, 18446744073709552735)
theorem nkm0_gt : nk_sgM nkKds [] nkm0_sp 202 8 300 nkm0_en.2.2.2.2.2.1 [(22, nkm0_Ot, [])] 6 [] 3000 nkm0_St 31 = true := by decide +kernel
def nkm0_Ol : nkS := (8, [(0, 18446744073709551617, 18446744073709552736), (0, 18446744073709551616, 18446744073709551676), (2, 83, 0), (2, 80, 0), (0, 18446744071562067968, 18446744075857035263), (0, 18446744073709551616, 18446744073709552735), (0, 18446744073709551616, 18446744073709551675), (2, 40, 0)], [(0, 0), (1, 6), (2, 7)], [3, 7], [(0, 27, 4), (0, 25, 5), (5, 0, 3)], [(6, 1, 18446744073709551617), (1, 6, 18446744073709551615), (7, 2, 18446744073709551617), (2, 7, 18446744073709551615)], [])
def nkm0_Sl : nkS := nk_set (nk_set (nk_push nkm0_X [] (0, 18446744073709551713, 18446744073709551738)) 1 (0, 18446744073709551616, 18446744073709551675)) 2 (0, 18446744073709551616, 18446744073709552735)
theorem nkm0_gl : nk_sgM nkKds [] nkm0_sp 202 8 300 nkm0_en.2.2.2.2.2.1 [(22, nkm0_Ol, [])] 6 [] 3000 nkm0_Sl 31 = true := by decide +kernel
def nkm0_Oo : nkS := (8, [(0, 18446744073709551617, 18446744073709552736), (0, 18446744073709551616, 18446744073709551676), (2, 83, 0), (2, 80, 0), (0, 18446744071562067968, 18446744075857035263), (0, 18446744073709551616, 18446744073709552735), (0, 18446744073709551618, 18446744073709551676), (2, 40, 0)], [(0, 0), (1, 6), (2, 7)], [3, 7], [(0, 27, 4), (0, 25, 5), (5, 0, 3)], [(6, 1, 18446744073709551615), (1, 6, 18446744073709551617), (7, 2, 18446744073709551617), (2, 7, 18446744073709551615)], [])
def nkm0_So : nkS := nk_set (nk_set (nk_push nkm0_X [] (0, 18446744071562067968, 18446744073709551712)) 1 (0, 18446744073709551618, 18446744073709551676)) 2 (0, 18446744073709551616, 18446744073709552735)
theorem nkm0_go : nk_sgM nkKds [] nkm0_sp 202 8 300 nkm0_en.2.2.2.2.2.1 [(22, nkm0_Oo, [])] 6 [] 3000 nkm0_So 31 = true := by decide +kernel
def nkm0_Op : nkS := (8, [(0, 18446744073709551617, 18446744073709552736), (0, 18446744073709551616, 18446744073709551676), (2, 83, 0), (2, 80, 0), (0, 18446744071562067968, 18446744075857035263), (0, 18446744073709551616, 18446744073709552735), (0, 18446744073709551618, 18446744073709551676), (2, 40, 0)], [(0, 0), (1, 6), (2, 7)], [3, 7], [(0, 27, 4), (0, 25, 5), (5, 0, 3)], [(6, 1, 18446744073709551615), (1, 6, 18446744073709551617), (7, 2, 18446744073709551617), (2, 7, 18446744073709551615)], [])
def nkm0_Sp : nkS := nk_set (nk_set (nk_push nkm0_X [] (0, 18446744073709551739, 18446744073709551741)) 1 (0, 18446744073709551618, 18446744073709551676)) 2 (0, 18446744073709551616, 18446744073709552735)
theorem nkm0_gp : nk_sgM nkKds [] nkm0_sp 202 8 300 nkm0_en.2.2.2.2.2.1 [(22, nkm0_Op, [])] 6 [] 3000 nkm0_Sp 31 = true := by decide +kernel
def nkm0_Oq : nkS := (8, [(0, 18446744073709551617, 18446744073709552736), (0, 18446744073709551616, 18446744073709551676), (2, 83, 0), (2, 80, 0), (0, 18446744071562067968, 18446744075857035263), (0, 18446744073709551616, 18446744073709552735), (0, 18446744073709551618, 18446744073709551676), (2, 40, 0)], [(0, 0), (1, 6), (2, 7)], [3, 7], [(0, 27, 4), (0, 25, 5), (5, 0, 3)], [(6, 1, 18446744073709551615), (1, 6, 18446744073709551617), (7, 2, 18446744073709551617), (2, 7, 18446744073709551615)], [])
def nkm0_Sq : nkS := nk_set (nk_set (nk_push nkm0_X [] (0, 18446744073709551743, 18446744075857035263)) 1 (0, 18446744073709551618, 18446744073709551676)) 2 (0, 18446744073709551616, 18446744073709552735)
theorem nkm0_gq : nk_sgM nkKds [] nkm0_sp 202 8 300 nkm0_en.2.2.2.2.2.1 [(22, nkm0_Oq, [])] 6 [] 3000 nkm0_Sq 31 = true := by decide +kernel
theorem nkm0_gA : nk_sgM nkKds [] nkm0_sp 202 8 300 nkm0_en.2.2.2.2.2.1 [(22, nkm0_A, [])] 1 [] 3000 (1, [(2, 40, 0)], [(0, 0)], [], [], [], []) 0 = true := by decide +kernel
theorem nkm0_gB : nk_sgM nkKds [] nkm0_sp 202 8 300 nkm0_en.2.2.2.2.2.1 [(30, nkm0_X, [])] 6 [nkm0_F] 3000 nkm0_H 22 = true := by decide +kernel
theorem nkm0_loop {p : Program} {l : Launch} {e : Env} {R : Room} {s : State} {m : MethodId} {args : Array Value} {below : List Frame} {meth : Method} {c : Code} {cc : ByteArray} {D : nhD} {Γ : Nat → Nat} {y : nhMth} {ρ0 : Nat → Value} (hh : nkHc2 p R s m args meth c cc (D, nkKds, Γ) nkm0_sp 202 y 8 300)
    {ac : Nat} {zc : Nat → Value} (hac : Γ ac = 80) (hzc : s.heap[ac]? = some (arrV (D.2.2 0) 1120 zc)) {f g : Nat} {h : Nat → Nat} (hg : g ≤ 1120) (hG : ∀ k, f ≤ k → k < g → ∃ c : Int32, zc k = .int c ∧ ((c = 126 ∧ 1 ≤ h k ∧ h (k + 1) = h k) ∨ (c ≠ 126 ∧ (97 ≤ c.toInt ∧ c.toInt ≤ 122) ∧ h k < 60 ∧ h (k + 1) = h k + 1) ∨ (c ≠ 126 ∧ ¬ (97 ≤ c.toInt ∧ c.toInt ≤ 122) ∧ 2 ≤ h k ∧ h (k + 1) + 1 = h k))) :
    ∀ (d k : Nat) (ρ : Nat → Value) (H : Heap) (locs : List Loc) (ls : Array Slot) (st : List Value), g - k = d → f ≤ k → k ≤ 1120 → h k ≤ 60 → nkX 1 ρ0 ρ → ρ 1 = .int (nI (h k)) → ρ 2 = .int (nI k) → ρ 3 = .int (nI g) → ρ 4 = .ref ac → nkR (D, nkKds, Γ) y.2.2.1 nkm0_en.2.2.2.2.2.1 s.heap nkm0_H ρ H locs ls st → W p l e R s m args below meth c H locs 0 0 (MQ below (nkQc (D, nkKds, Γ) nkm0_en.2.2.2.2.2.1 nkm0_en.2.2.2.2.2.2 1 ρ0) args s 0 0 (nkA (D, nkKds, Γ))) (F0 m 22 ls st) := by
  intro d
  induction d using Nat.strongRecOn with
  | ind d ih =>
    intro k ρ H locs ls st hd hfk hk hh60 hX0 e1 e2 e3 e4 hR
    refine nk_segH (nk_nil _) nkm0_gB (nk_sub_rf _) hh hR (fun ce hce ρ2 H2 locs2 ls2 st2 hX hR2 hF2 => ?_) (fun a ha ρ2 H2 v t hX hT hF2 hF3 hv ht => ?_)
    · obtain rfl := List.mem_singleton.mp hce
      have hR2 : nkR (D, nkKds, Γ) y.2.2.1 nkm0_en.2.2.2.2.2.1 s.heap nkm0_X ρ2 H2 locs2 ls2 st2 := hR2
      show W p l e R s m args below meth c H2 locs2 0 0 _ (F0 m 30 ls2 st2)
      have f1 : ρ2 1 = .int (nI (h k)) := (hX 1 (by omega)).trans e1
      have f2 : ρ2 2 = .int (nI k) := (hX 2 (by omega)).trans e2
      have f3 : ρ2 3 = .int (nI g) := (hX 3 (by omega)).trans e3
      have f4 : ρ2 4 = .ref ac := (hX 4 (by omega)).trans e4
      have hkI : (nI k).toInt = (k : Int) := nI_toInt (by omega)
      have hgI : (nI g).toInt = (g : Int) := nI_toInt (by omega)
      have hnI : (nI (h k)).toInt = (h k : Int) := nI_toInt (by omega)
      have hkg : k < g := by
        have q := nk_di2 hR2.1.2.2.1 (a := 2) (b := 3) (c := 18446744073709551615) List.mem_cons_self f2 f3
        omega
      obtain ⟨cv, ecv, hcase⟩ := hG k hfk hkg
      have hk80 : nkKds[Γ ac]? = some (1, 0, 1120, 1, [(0, 18446744071562067968, 18446744075857035263)]) := by rw [hac]; rfl
      obtain ⟨z, hz, -⟩ : ∃ z : Nat → Value, H2[ac]? = some (arrV (D.2.2 0) 1120 z) ∧ True := by
        obtain ⟨z, hz, -⟩ := hR2.1.2.2.2.2.1 ac _ hk80
        exact ⟨z, hz, trivial⟩
      have hzk : z k = zc k := nk_kpA (E := (D, nkKds, Γ)) hR2.2.2.2.2.2.2 hk80 (by show nk_off _ (Γ ac) k = true; rw [hac]; rfl) (by omega) hzc hz
      have hcl : (nI k).toNatClampNeg = k := nI_clamp (by omega)
      have hzv : z (nI k).toNatClampNeg = .int cv := by rw [hcl, hzk, ecv]
      have hld : ∀ v : nkV, nkOk Γ v (.int cv) → (∀ st', nkR (D, nkKds, Γ) y.2.2.1 nkm0_en.2.2.2.2.2.1 s.heap (nk_push nkm0_X [] v) (updV ρ2 6 (.int cv)) H2 locs2 ls2 st' → W p l e R s m args below meth c H2 locs2 0 0 (MQ below (nkQc (D, nkKds, Γ) nkm0_en.2.2.2.2.2.1 nkm0_en.2.2.2.2.2.2 1 ρ0) args s 0 0 (nkA (D, nkKds, Γ))) (F0 m 31 ls2 st')) → W p l e R s m args below meth c H2 locs2 0 0 (MQ below (nkQc (D, nkKds, Γ) nkm0_en.2.2.2.2.2.1 nkm0_en.2.2.2.2.2.2 1 ρ0) args s 0 0 (nkA (D, nkKds, Γ))) (F0 m 30 ls2 st2) := fun v hv kk => by
        refine nk_hAld hh.2.1.1 (hh.2.1.2.2.1 30 (.iaload, 1) (show nk_dk (nk_nD nhDa 202 []) 30 = some (.iaload, 1) by decide +kernel)) (show nkm0_X.2.2.2.1 = 2 :: 4 :: [] from rfl) hR2 (ti := 0) (by decide) f4 hz f2 (by omega) (by omega) (v := v) (by rw [hzv]; exact hv) (fun st' hR3 => ?_)
        rw [hzv] at hR3
        exact kk st' hR3
      have u1 : updV ρ2 6 (.int cv) 1 = .int (nI (h k)) := f1
      have u2 : updV ρ2 6 (.int cv) 2 = .int (nI k) := f2
      have u3 : updV ρ2 6 (.int cv) 3 = .int (nI g) := f3
      have u4 : updV ρ2 6 (.int cv) 4 = .ref ac := f4
      have u0 : updV ρ2 6 (.int cv) 0 = ρ0 0 := (hX 0 (by omega)).trans (hX0 0 (by omega))
      rcases hcase with ⟨c1, c2, c3⟩ | ⟨c0, c1, c2, c3⟩ | ⟨c0, c1, c2, c3⟩
      · have c1i : cv.toInt = 126 := by rw [c1]; rfl
        refine hld (0, 18446744073709551742, 18446744073709551742) (nk_okI (by omega) (by omega)) (fun st3 hR3 => ?_)
        have hR4 : nkR (D, nkKds, Γ) y.2.2.1 nkm0_en.2.2.2.2.2.1 s.heap nkm0_St (updV ρ2 6 (.int cv)) H2 locs2 ls2 st3 := nk_set_ok (nk_set_ok hR3 (i := 1) (by rw [u1]; exact nk_okI (by omega) (by omega))) (i := 2) (by rw [u2]; exact nk_okI (by omega) (by omega))
        refine nk_segH (nk_nil _) nkm0_gt (nk_sub_rf _) hh hR4 (fun ce hce ρ5 H5 locs5 ls5 st5 hX5 hR5 hF5 => ?_) (fun a ha => by cases ha)
        obtain rfl := List.mem_singleton.mp hce
        have hR5 : nkR (D, nkKds, Γ) y.2.2.1 nkm0_en.2.2.2.2.2.1 s.heap nkm0_Ot ρ5 H5 locs5 ls5 st5 := hR5
        show W p l e R s m args below meth c H5 locs5 0 0 _ (F0 m 22 ls5 st5)
        have hσ : nk_ent 1 nkm0_H nkm0_Ot = some (6, [5, 4, 3, 6, 1, 0]) := by decide +kernel
        obtain ⟨q1, q2, -, -⟩ := nk_ent_ok hσ hR5
        have w1 : ρ5 1 = .int (nI (h (k + 1))) := by rw [(hX5 1 (by omega)).trans u1, c3]
        have w2 : ρ5 6 = .int (nI (k + 1)) := by
          obtain ⟨a, ea, -, -⟩ := nk_int (hR5.1.1 6 _ rfl)
          have r1 := nk_di2 hR5.1.2.2.1 (show (6, 2, 18446744073709551617) ∈ nkm0_Ot.2.2.2.2.2.1 by decide) ea ((hX5 2 (by omega)).trans u2)
          have r2 := nk_di2 hR5.1.2.2.1 (show (2, 6, 18446744073709551615) ∈ nkm0_Ot.2.2.2.2.2.1 by decide) ((hX5 2 (by omega)).trans u2) ea
          rw [ea, nk_nI (x := a) (m := k + 1) (by omega)]
        refine ih (g - (k + 1)) (by omega) (k + 1) (nk_pk (6, [5, 4, 3, 6, 1, 0]) ρ5) H5 locs5 ls5 st5 rfl (by omega) (by omega) (by omega) (fun i hi => ?_) w1 w2 ((hX5 3 (by omega)).trans u3) ((hX5 4 (by omega)).trans u4) q1
        have hi0 : i = 0 := by omega
        subst hi0
        exact (hX5 0 (by omega)).trans u0
      · have c1a := c1.1
        have c1b := c1.2
        refine hld (0, 18446744073709551713, 18446744073709551738) (nk_okI (by omega) (by omega)) (fun st3 hR3 => ?_)
        have hR4 : nkR (D, nkKds, Γ) y.2.2.1 nkm0_en.2.2.2.2.2.1 s.heap nkm0_Sl (updV ρ2 6 (.int cv)) H2 locs2 ls2 st3 := nk_set_ok (nk_set_ok hR3 (i := 1) (by rw [u1]; exact nk_okI (by omega) (by omega))) (i := 2) (by rw [u2]; exact nk_okI (by omega) (by omega))
        refine nk_segH (nk_nil _) nkm0_gl (nk_sub_rf _) hh hR4 (fun ce hce ρ5 H5 locs5 ls5 st5 hX5 hR5 hF5 => ?_) (fun a ha => by cases ha)
        obtain rfl := List.mem_singleton.mp hce
        have hR5 : nkR (D, nkKds, Γ) y.2.2.1 nkm0_en.2.2.2.2.2.1 s.heap nkm0_Ol ρ5 H5 locs5 ls5 st5 := hR5
        show W p l e R s m args below meth c H5 locs5 0 0 _ (F0 m 22 ls5 st5)
        have hσ : nk_ent 1 nkm0_H nkm0_Ol = some (6, [5, 4, 3, 7, 6, 0]) := by decide +kernel
        obtain ⟨q1, q2, -, -⟩ := nk_ent_ok hσ hR5
        have w1 : ρ5 6 = .int (nI (h (k + 1))) := by
          obtain ⟨a, ea, -, -⟩ := nk_int (hR5.1.1 6 _ rfl)
          have r1 := nk_di2 hR5.1.2.2.1 (show (6, 1, 18446744073709551617) ∈ nkm0_Ol.2.2.2.2.2.1 by decide) ea ((hX5 1 (by omega)).trans u1)
          have r2 := nk_di2 hR5.1.2.2.1 (show (1, 6, 18446744073709551615) ∈ nkm0_Ol.2.2.2.2.2.1 by decide) ((hX5 1 (by omega)).trans u1) ea
          rw [ea, nk_nI (x := a) (m := h (k + 1)) (by omega)]
        have w2 : ρ5 7 = .int (nI (k + 1)) := by
          obtain ⟨a, ea, -, -⟩ := nk_int (hR5.1.1 7 _ rfl)
          have r1 := nk_di2 hR5.1.2.2.1 (show (7, 2, 18446744073709551617) ∈ nkm0_Ol.2.2.2.2.2.1 by decide) ea ((hX5 2 (by omega)).trans u2)
          have r2 := nk_di2 hR5.1.2.2.1 (show (2, 7, 18446744073709551615) ∈ nkm0_Ol.2.2.2.2.2.1 by decide) ((hX5 2 (by omega)).trans u2) ea
          rw [ea, nk_nI (x := a) (m := k + 1) (by omega)]
        refine ih (g - (k + 1)) (by omega) (k + 1) (nk_pk (6, [5, 4, 3, 7, 6, 0]) ρ5) H5 locs5 ls5 st5 rfl (by omega) (by omega) (by omega) (fun i hi => ?_) w1 w2 ((hX5 3 (by omega)).trans u3) ((hX5 4 (by omega)).trans u4) q1
        have hi0 : i = 0 := by omega
        subst hi0
        exact (hX5 0 (by omega)).trans u0
      · have c0i : cv.toInt ≠ 126 := fun q => c0 (by rw [nk_nI (x := cv) (m := 126) (by omega)]; rfl)
        have rcv := fb_rng cv
        by_cases d1 : cv.toInt ≤ 96
        · refine hld (0, 18446744071562067968, 18446744073709551712) (nk_okI (by omega) (by omega)) (fun st3 hR3 => ?_)
          have hR4 : nkR (D, nkKds, Γ) y.2.2.1 nkm0_en.2.2.2.2.2.1 s.heap nkm0_So (updV ρ2 6 (.int cv)) H2 locs2 ls2 st3 := nk_set_ok (nk_set_ok hR3 (i := 1) (by rw [u1]; exact nk_okI (by omega) (by omega))) (i := 2) (by rw [u2]; exact nk_okI (by omega) (by omega))
          refine nk_segH (nk_nil _) nkm0_go (nk_sub_rf _) hh hR4 (fun ce hce ρ5 H5 locs5 ls5 st5 hX5 hR5 hF5 => ?_) (fun a ha => by cases ha)
          obtain rfl := List.mem_singleton.mp hce
          have hR5 : nkR (D, nkKds, Γ) y.2.2.1 nkm0_en.2.2.2.2.2.1 s.heap nkm0_Oo ρ5 H5 locs5 ls5 st5 := hR5
          show W p l e R s m args below meth c H5 locs5 0 0 _ (F0 m 22 ls5 st5)
          have hσ : nk_ent 1 nkm0_H nkm0_Oo = some (6, [5, 4, 3, 7, 6, 0]) := by decide +kernel
          obtain ⟨q1, q2, -, -⟩ := nk_ent_ok hσ hR5
          have w1 : ρ5 6 = .int (nI (h (k + 1))) := by
            obtain ⟨a, ea, -, -⟩ := nk_int (hR5.1.1 6 _ rfl)
            have r1 := nk_di2 hR5.1.2.2.1 (show (6, 1, 18446744073709551615) ∈ nkm0_Oo.2.2.2.2.2.1 by decide) ea ((hX5 1 (by omega)).trans u1)
            have r2 := nk_di2 hR5.1.2.2.1 (show (1, 6, 18446744073709551617) ∈ nkm0_Oo.2.2.2.2.2.1 by decide) ((hX5 1 (by omega)).trans u1) ea
            rw [ea, nk_nI (x := a) (m := h (k + 1)) (by omega)]
          have w2 : ρ5 7 = .int (nI (k + 1)) := by
            obtain ⟨a, ea, -, -⟩ := nk_int (hR5.1.1 7 _ rfl)
            have r1 := nk_di2 hR5.1.2.2.1 (show (7, 2, 18446744073709551617) ∈ nkm0_Oo.2.2.2.2.2.1 by decide) ea ((hX5 2 (by omega)).trans u2)
            have r2 := nk_di2 hR5.1.2.2.1 (show (2, 7, 18446744073709551615) ∈ nkm0_Oo.2.2.2.2.2.1 by decide) ((hX5 2 (by omega)).trans u2) ea
            rw [ea, nk_nI (x := a) (m := k + 1) (by omega)]
          refine ih (g - (k + 1)) (by omega) (k + 1) (nk_pk (6, [5, 4, 3, 7, 6, 0]) ρ5) H5 locs5 ls5 st5 rfl (by omega) (by omega) (by omega) (fun i hi => ?_) w1 w2 ((hX5 3 (by omega)).trans u3) ((hX5 4 (by omega)).trans u4) q1
          have hi0 : i = 0 := by omega
          subst hi0
          exact (hX5 0 (by omega)).trans u0
        · by_cases d2 : cv.toInt ≤ 125
          · refine hld (0, 18446744073709551739, 18446744073709551741) (nk_okI (by omega) (by omega)) (fun st3 hR3 => ?_)
            have hR4 : nkR (D, nkKds, Γ) y.2.2.1 nkm0_en.2.2.2.2.2.1 s.heap nkm0_Sp (updV ρ2 6 (.int cv)) H2 locs2 ls2 st3 := nk_set_ok (nk_set_ok hR3 (i := 1) (by rw [u1]; exact nk_okI (by omega) (by omega))) (i := 2) (by rw [u2]; exact nk_okI (by omega) (by omega))
            refine nk_segH (nk_nil _) nkm0_gp (nk_sub_rf _) hh hR4 (fun ce hce ρ5 H5 locs5 ls5 st5 hX5 hR5 hF5 => ?_) (fun a ha => by cases ha)
            obtain rfl := List.mem_singleton.mp hce
            have hR5 : nkR (D, nkKds, Γ) y.2.2.1 nkm0_en.2.2.2.2.2.1 s.heap nkm0_Op ρ5 H5 locs5 ls5 st5 := hR5
            show W p l e R s m args below meth c H5 locs5 0 0 _ (F0 m 22 ls5 st5)
            have hσ : nk_ent 1 nkm0_H nkm0_Op = some (6, [5, 4, 3, 7, 6, 0]) := by decide +kernel
            obtain ⟨q1, q2, -, -⟩ := nk_ent_ok hσ hR5
            have w1 : ρ5 6 = .int (nI (h (k + 1))) := by
              obtain ⟨a, ea, -, -⟩ := nk_int (hR5.1.1 6 _ rfl)
              have r1 := nk_di2 hR5.1.2.2.1 (show (6, 1, 18446744073709551615) ∈ nkm0_Op.2.2.2.2.2.1 by decide) ea ((hX5 1 (by omega)).trans u1)
              have r2 := nk_di2 hR5.1.2.2.1 (show (1, 6, 18446744073709551617) ∈ nkm0_Op.2.2.2.2.2.1 by decide) ((hX5 1 (by omega)).trans u1) ea
              rw [ea, nk_nI (x := a) (m := h (k + 1)) (by omega)]
            have w2 : ρ5 7 = .int (nI (k + 1)) := by
              obtain ⟨a, ea, -, -⟩ := nk_int (hR5.1.1 7 _ rfl)
              have r1 := nk_di2 hR5.1.2.2.1 (show (7, 2, 18446744073709551617) ∈ nkm0_Op.2.2.2.2.2.1 by decide) ea ((hX5 2 (by omega)).trans u2)
              have r2 := nk_di2 hR5.1.2.2.1 (show (2, 7, 18446744073709551615) ∈ nkm0_Op.2.2.2.2.2.1 by decide) ((hX5 2 (by omega)).trans u2) ea
              rw [ea, nk_nI (x := a) (m := k + 1) (by omega)]
            refine ih (g - (k + 1)) (by omega) (k + 1) (nk_pk (6, [5, 4, 3, 7, 6, 0]) ρ5) H5 locs5 ls5 st5 rfl (by omega) (by omega) (by omega) (fun i hi => ?_) w1 w2 ((hX5 3 (by omega)).trans u3) ((hX5 4 (by omega)).trans u4) q1
            have hi0 : i = 0 := by omega
            subst hi0
            exact (hX5 0 (by omega)).trans u0
          · refine hld (0, 18446744073709551743, 18446744075857035263) (nk_okI (by omega) (by omega)) (fun st3 hR3 => ?_)
            have hR4 : nkR (D, nkKds, Γ) y.2.2.1 nkm0_en.2.2.2.2.2.1 s.heap nkm0_Sq (updV ρ2 6 (.int cv)) H2 locs2 ls2 st3 := nk_set_ok (nk_set_ok hR3 (i := 1) (by rw [u1]; exact nk_okI (by omega) (by omega))) (i := 2) (by rw [u2]; exact nk_okI (by omega) (by omega))
            refine nk_segH (nk_nil _) nkm0_gq (nk_sub_rf _) hh hR4 (fun ce hce ρ5 H5 locs5 ls5 st5 hX5 hR5 hF5 => ?_) (fun a ha => by cases ha)
            obtain rfl := List.mem_singleton.mp hce
            have hR5 : nkR (D, nkKds, Γ) y.2.2.1 nkm0_en.2.2.2.2.2.1 s.heap nkm0_Oq ρ5 H5 locs5 ls5 st5 := hR5
            show W p l e R s m args below meth c H5 locs5 0 0 _ (F0 m 22 ls5 st5)
            have hσ : nk_ent 1 nkm0_H nkm0_Oq = some (6, [5, 4, 3, 7, 6, 0]) := by decide +kernel
            obtain ⟨q1, q2, -, -⟩ := nk_ent_ok hσ hR5
            have w1 : ρ5 6 = .int (nI (h (k + 1))) := by
              obtain ⟨a, ea, -, -⟩ := nk_int (hR5.1.1 6 _ rfl)
              have r1 := nk_di2 hR5.1.2.2.1 (show (6, 1, 18446744073709551615) ∈ nkm0_Oq.2.2.2.2.2.1 by decide) ea ((hX5 1 (by omega)).trans u1)
              have r2 := nk_di2 hR5.1.2.2.1 (show (1, 6, 18446744073709551617) ∈ nkm0_Oq.2.2.2.2.2.1 by decide) ((hX5 1 (by omega)).trans u1) ea
              rw [ea, nk_nI (x := a) (m := h (k + 1)) (by omega)]
            have w2 : ρ5 7 = .int (nI (k + 1)) := by
              obtain ⟨a, ea, -, -⟩ := nk_int (hR5.1.1 7 _ rfl)
              have r1 := nk_di2 hR5.1.2.2.1 (show (7, 2, 18446744073709551617) ∈ nkm0_Oq.2.2.2.2.2.1 by decide) ea ((hX5 2 (by omega)).trans u2)
              have r2 := nk_di2 hR5.1.2.2.1 (show (2, 7, 18446744073709551615) ∈ nkm0_Oq.2.2.2.2.2.1 by decide) ((hX5 2 (by omega)).trans u2) ea
              rw [ea, nk_nI (x := a) (m := k + 1) (by omega)]
            refine ih (g - (k + 1)) (by omega) (k + 1) (nk_pk (6, [5, 4, 3, 7, 6, 0]) ρ5) H5 locs5 ls5 st5 rfl (by omega) (by omega) (by omega) (fun i hi => ?_) w1 w2 ((hX5 3 (by omega)).trans u3) ((hX5 4 (by omega)).trans u4) q1
            have hi0 : i = 0 := by omega
            subst hi0
            exact (hX5 0 (by omega)).trans u0
    · obtain rfl := List.mem_singleton.mp ha
      refine ⟨⟨v, _, updV ρ2 1 (ρ2 6), rfl, List.mem_singleton.mpr rfl, Nat.le_succ 1, ?_, ?_, ?_⟩, ?_⟩
      · intro i hi
        have : i = 0 := by omega
        subst this
        exact (hX 0 (by omega)).trans (hX0 0 (by omega))
      · rw [ht]
        exact ⟨nk_all_cons (hT.1 6 _ rfl) (nk_all_cons (hT.1 0 _ rfl) (nk_all_nil _ _)), fun q hq => (by cases hq), fun q hq => (by cases hq), fun q hq => (by cases hq), hT.2.2.2.2⟩
      · exact ⟨by decide, hv.2⟩
      · rw [ht]
        exact hF3
theorem nkm0_comes : nkMetI nkKds nkm0_en := nk_handI (spt := nkm0_sp) (by decide +kernel) (fun {y lo0} hlo0 {p l e R s m args below meth c cc D Γ ρ ls} hh hR => by
  have hl : lo0 = [(0, 0)] := Option.some.inj (hlo0.symm.trans (by decide +kernel))
  subst hl
  refine nk_segH (nk_nil _) nkm0_gA (nk_sub_rf _) hh hR (fun ce hce ρ2 H2 locs2 ls2 st2 hX hR2 hF2 => ?_) (fun a ha => by cases ha)
  obtain rfl := List.mem_singleton.mp hce
  have hR2 : nkR (D, nkKds, Γ) y.2.2.1 nkm0_en.2.2.2.2.2.1 s.heap nkm0_A ρ2 H2 locs2 ls2 st2 := hR2
  show W p l e R s m args below meth c H2 locs2 0 0 _ (F0 m 22 ls2 st2)
  obtain ⟨ac, e4, hac⟩ := nk_rf (hR2.1.1 4 _ rfl)
  obtain ⟨at', e5, hat⟩ := nk_rf (hR2.1.1 5 _ rfl)
  obtain ⟨af, e6, haf⟩ := nk_rf (hR2.1.1 6 _ rfl)
  have hk80 : nkKds[Γ ac]? = some (1, 0, 1120, 1, [(0, 18446744071562067968, 18446744075857035263)]) := by rw [show Γ ac = 80 from hac]; rfl
  have hk82 : nkKds[Γ af]? = some (1, 0, 2, 1, [(0, 18446744071562067968, 18446744075857035263)]) := by rw [show Γ af = 82 from haf]; rfl
  have hk83 : nkKds[Γ at']? = some (1, 0, 2, 1, [(0, 18446744071562067968, 18446744075857035263)]) := by rw [show Γ at' = 83 from hat]; rfl
  have hH0 : nkH (D, nkKds, Γ) s.heap := hR.1.2.2.2.2
  obtain ⟨zc, hzc, -⟩ : ∃ z : Nat → Value, s.heap[ac]? = some (arrV (D.2.2 0) 1120 z) ∧ True := by
    obtain ⟨z, hz, -⟩ := hH0.1 ac _ hk80
    exact ⟨z, hz, trivial⟩
  obtain ⟨zf, hzf, -⟩ : ∃ z : Nat → Value, s.heap[af]? = some (arrV (D.2.2 0) 2 z) ∧ True := by
    obtain ⟨z, hz, -⟩ := hH0.1 af _ hk82
    exact ⟨z, hz, trivial⟩
  obtain ⟨zt, hzt, -⟩ : ∃ z : Nat → Value, s.heap[at']? = some (arrV (D.2.2 0) 2 z) ∧ True := by
    obtain ⟨z, hz, -⟩ := hH0.1 at' _ hk83
    exact ⟨z, hz, trivial⟩
  obtain ⟨wf, hwf, -⟩ : ∃ z : Nat → Value, H2[af]? = some (arrV (D.2.2 0) 2 z) ∧ True := by
    obtain ⟨z, hz, -⟩ := hR2.1.2.2.2.2.1 af _ hk82
    exact ⟨z, hz, trivial⟩
  obtain ⟨wt, hwt, -⟩ : ∃ z : Nat → Value, H2[at']? = some (arrV (D.2.2 0) 2 z) ∧ True := by
    obtain ⟨z, hz, -⟩ := hR2.1.2.2.2.2.1 at' _ hk83
    exact ⟨z, hz, trivial⟩
  obtain ⟨⟨f, g, h, ef, eg, hf, hg, h0, hG⟩, -⟩ := (hH0.2 (show nk_jf nkKds = true by decide +kernel)).2 ac af at' hac haf hat zc zf zt hzc hzf hzt 0 (by decide)
  have g2 : ρ2 2 = .int (nI f) := by
    rw [nk_meA (E := (D, nkKds, Γ)) hR2.1.2.1 (show (6, 0, 2) ∈ nkm0_A.2.2.2.2.1 by decide) e6 hk82 hwf, nk_kpA (E := (D, nkKds, Γ)) hR2.2.2.2.2.2.2 hk82 (by show nk_off _ (Γ af) 0 = true; rw [show Γ af = 82 from haf]; rfl) (by decide) hzf hwf]
    exact ef
  have g3 : ρ2 3 = .int (nI g) := by
    rw [nk_meA (E := (D, nkKds, Γ)) hR2.1.2.1 (show (5, 0, 3) ∈ nkm0_A.2.2.2.2.1 by decide) e5 hk83 hwt, nk_kpA (E := (D, nkKds, Γ)) hR2.2.2.2.2.2.2 hk83 (by show nk_off _ (Γ at') 0 = true; rw [show Γ at' = 83 from hat]; rfl) (by decide) hzt hwt]
    exact eg
  have hfI : (nI f).toInt = (f : Int) := nI_toInt (by omega)
  have g1 : ρ2 1 = .int (nI (h f)) := by
    obtain ⟨a, ea, q1, q2⟩ := nk_int (hR2.1.1 1 _ rfl)
    rw [ea, h0, nk_nI (x := a) (m := 0) (by omega)]
  have hR3 := nk_set_ok (i := 2) (v := (0, 18446744073709551616, 18446744073709552736)) hR2 (by rw [g2]; exact nk_okI (by omega) (by omega))
  have hσ : nk_ent 1 nkm0_H (nk_set nkm0_A 2 (0, 18446744073709551616, 18446744073709552736)) = some (6, [5, 4, 3, 2, 1, 0]) := by decide +kernel
  obtain ⟨q1, q2, -, -⟩ := nk_ent_ok hσ hR3
  have pk : ∀ i, i < 6 → nk_pk (6, [5, 4, 3, 2, 1, 0]) ρ2 i = ρ2 i := fun i hi => nk_pk_at (nk_idl_g (n := 6) hi)
  exact nkm0_loop hh hac hzc hg hG _ f (nk_pk (6, [5, 4, 3, 2, 1, 0]) ρ2) H2 locs2 ls2 st2 rfl (Nat.le_refl _) hf (by omega) (fun i hi => by rw [pk i (by omega)]; exact hX i hi) (by rw [pk 1 (by omega)]; exact g1) (by rw [pk 2 (by omega)]; exact g2) (by rw [pk 3 (by omega)]; exact g3) (by rw [pk 4 (by omega)]; exact e4) q1)

def nkm1_sp : List (Nat × nkSp) := [(202, [(0, (2, 0), [27])])]
def nkm1_en : nkIn := (202, 8, 300, 1, (1, [(2, 41, 0)], [], [], [], [], []), [(62, 0, 59)], [(2, [(0, 18446744071562067968, 18446744075857035263), (2, 41, 0)], [], [1], [], [], [])])
def nkm1_A : nkS := (7, [(2, 82, 0), (2, 83, 0), (2, 80, 0), (0, 18446744071562067968, 18446744075857035263), (0, 18446744071562067968, 18446744075857035263), (0, 18446744073709551616, 18446744073709551616), (2, 41, 0)], [(0, 0), (1, 1), (2, 2)], [3, 2], [(0, 27, 4), (0, 25, 5), (5, 1, 3), (0, 24, 6), (6, 1, 2)], [], [])
def nkm1_H : nkS := (6, [(2, 83, 0), (2, 80, 0), (0, 18446744071562067968, 18446744075857035263), (0, 18446744073709551616, 18446744073709552736), (0, 18446744073709551616, 18446744073709551676), (2, 41, 0)], [(0, 0), (1, 1), (2, 2)], [3, 2], [(0, 27, 4), (0, 25, 5), (5, 1, 3)], [], [])
def nkm1_X : nkS := (6, [(2, 83, 0), (2, 80, 0), (0, 18446744071562067968, 18446744075857035263), (0, 18446744073709551616, 18446744073709552736), (0, 18446744073709551616, 18446744073709551676), (2, 41, 0)], [(0, 0), (1, 1), (2, 2)], [2, 4], [(0, 27, 4), (0, 25, 5), (5, 1, 3)], [(2, 3, 18446744073709551615)], [])
def nkm1_F : nkS := (7, [(0, 18446744071562067968, 18446744075857035263), (2, 83, 0), (2, 80, 0), (0, 18446744071562067968, 18446744075857035263), (0, 18446744073709551616, 18446744073709552736), (0, 18446744073709551616, 18446744073709551676), (2, 41, 0)], [], [6], [], [], [])
def nkm1_Ot : nkS := (7, [(0, 18446744073709551617, 18446744073709552736), (2, 83, 0), (2, 80, 0), (0, 18446744071562067968, 18446744075857035263), (0, 18446744073709551616, 18446744073709552735), (0, 18446744073709551617, 18446744073709551676), (2, 41, 0)], [(0, 0), (1, 1), (2, 6)], [3, 6], [(0, 27, 4), (0, 25, 5), (5, 1, 3)], [(6, 2, 18446744073709551617), (2, 6, 18446744073709551615)], [])
def nkm1_St : nkS := nk_set (nk_set (nk_push nkm1_X [] (0, 18446744073709551742, 18446744073709551742)) 1 (0, 18446744073709551617, 18446744073709551676)) 2 (0, 18446744073709551616, 18446744073709552735)
theorem nkm1_gt : nk_sgM nkKds [] nkm1_sp 202 8 300 nkm1_en.2.2.2.2.2.1 [(22, nkm1_Ot, [])] 6 [] 3000 nkm1_St 31 = true := by decide +kernel
def nkm1_Ol : nkS := (8, [(0, 18446744073709551617, 18446744073709552736), (0, 18446744073709551616, 18446744073709551676), (2, 83, 0), (2, 80, 0), (0, 18446744071562067968, 18446744075857035263), (0, 18446744073709551616, 18446744073709552735), (0, 18446744073709551616, 18446744073709551675), (2, 41, 0)], [(0, 0), (1, 6), (2, 7)], [3, 7], [(0, 27, 4), (0, 25, 5), (5, 1, 3)], [(6, 1, 18446744073709551617), (1, 6, 18446744073709551615), (7, 2, 18446744073709551617), (2, 7, 18446744073709551615)], [])
def nkm1_Sl : nkS := nk_set (nk_set (nk_push nkm1_X [] (0, 18446744073709551713, 18446744073709551738)) 1 (0, 18446744073709551616, 18446744073709551675)) 2 (0, 18446744073709551616, 18446744073709552735)
theorem nkm1_gl : nk_sgM nkKds [] nkm1_sp 202 8 300 nkm1_en.2.2.2.2.2.1 [(22, nkm1_Ol, [])] 6 [] 3000 nkm1_Sl 31 = true := by decide +kernel
def nkm1_Oo : nkS := (8, [(0, 18446744073709551617, 18446744073709552736), (0, 18446744073709551616, 18446744073709551676), (2, 83, 0), (2, 80, 0), (0, 18446744071562067968, 18446744075857035263), (0, 18446744073709551616, 18446744073709552735), (0, 18446744073709551618, 18446744073709551676), (2, 41, 0)], [(0, 0), (1, 6), (2, 7)], [3, 7], [(0, 27, 4), (0, 25, 5), (5, 1, 3)], [(6, 1, 18446744073709551615), (1, 6, 18446744073709551617), (7, 2, 18446744073709551617), (2, 7, 18446744073709551615)], [])
def nkm1_So : nkS := nk_set (nk_set (nk_push nkm1_X [] (0, 18446744071562067968, 18446744073709551712)) 1 (0, 18446744073709551618, 18446744073709551676)) 2 (0, 18446744073709551616, 18446744073709552735)
theorem nkm1_go : nk_sgM nkKds [] nkm1_sp 202 8 300 nkm1_en.2.2.2.2.2.1 [(22, nkm1_Oo, [])] 6 [] 3000 nkm1_So 31 = true := by decide +kernel
def nkm1_Op : nkS := (8, [(0, 18446744073709551617, 18446744073709552736), (0, 18446744073709551616, 18446744073709551676), (2, 83, 0), (2, 80, 0), (0, 18446744071562067968, 18446744075857035263), (0, 18446744073709551616, 18446744073709552735), (0, 18446744073709551618, 18446744073709551676), (2, 41, 0)], [(0, 0), (1, 6), (2, 7)], [3, 7], [(0, 27, 4), (0, 25, 5), (5, 1, 3)], [(6, 1, 18446744073709551615), (1, 6, 18446744073709551617), (7, 2, 18446744073709551617), (2, 7, 18446744073709551615)], [])
def nkm1_Sp : nkS := nk_set (nk_set (nk_push nkm1_X [] (0, 18446744073709551739, 18446744073709551741)) 1 (0, 18446744073709551618, 18446744073709551676)) 2 (0, 18446744073709551616, 18446744073709552735)
theorem nkm1_gp : nk_sgM nkKds [] nkm1_sp 202 8 300 nkm1_en.2.2.2.2.2.1 [(22, nkm1_Op, [])] 6 [] 3000 nkm1_Sp 31 = true := by decide +kernel
def nkm1_Oq : nkS := (8, [(0, 18446744073709551617, 18446744073709552736), (0, 18446744073709551616, 18446744073709551676), (2, 83, 0), (2, 80, 0), (0, 18446744071562067968, 18446744075857035263), (0, 18446744073709551616, 18446744073709552735), (0, 18446744073709551618, 18446744073709551676), (2, 41, 0)], [(0, 0), (1, 6), (2, 7)], [3, 7], [(0, 27, 4), (0, 25, 5), (5, 1, 3)], [(6, 1, 18446744073709551615), (1, 6, 18446744073709551617), (7, 2, 18446744073709551617), (2, 7, 18446744073709551615)], [])
def nkm1_Sq : nkS := nk_set (nk_set (nk_push nkm1_X [] (0, 18446744073709551743, 18446744075857035263)) 1 (0, 18446744073709551618, 18446744073709551676)) 2 (0, 18446744073709551616, 18446744073709552735)
theorem nkm1_gq : nk_sgM nkKds [] nkm1_sp 202 8 300 nkm1_en.2.2.2.2.2.1 [(22, nkm1_Oq, [])] 6 [] 3000 nkm1_Sq 31 = true := by decide +kernel
theorem nkm1_gA : nk_sgM nkKds [] nkm1_sp 202 8 300 nkm1_en.2.2.2.2.2.1 [(22, nkm1_A, [])] 1 [] 3000 (1, [(2, 41, 0)], [(0, 0)], [], [], [], []) 0 = true := by decide +kernel
theorem nkm1_gB : nk_sgM nkKds [] nkm1_sp 202 8 300 nkm1_en.2.2.2.2.2.1 [(30, nkm1_X, [])] 6 [nkm1_F] 3000 nkm1_H 22 = true := by decide +kernel
theorem nkm1_loop {p : Program} {l : Launch} {e : Env} {R : Room} {s : State} {m : MethodId} {args : Array Value} {below : List Frame} {meth : Method} {c : Code} {cc : ByteArray} {D : nhD} {Γ : Nat → Nat} {y : nhMth} {ρ0 : Nat → Value} (hh : nkHc2 p R s m args meth c cc (D, nkKds, Γ) nkm1_sp 202 y 8 300)
    {ac : Nat} {zc : Nat → Value} (hac : Γ ac = 80) (hzc : s.heap[ac]? = some (arrV (D.2.2 0) 1120 zc)) {f g : Nat} {h : Nat → Nat} (hg : g ≤ 1120) (hG : ∀ k, f ≤ k → k < g → ∃ c : Int32, zc k = .int c ∧ ((c = 126 ∧ 1 ≤ h k ∧ h (k + 1) = h k) ∨ (c ≠ 126 ∧ (97 ≤ c.toInt ∧ c.toInt ≤ 122) ∧ h k < 60 ∧ h (k + 1) = h k + 1) ∨ (c ≠ 126 ∧ ¬ (97 ≤ c.toInt ∧ c.toInt ≤ 122) ∧ 2 ≤ h k ∧ h (k + 1) + 1 = h k))) :
    ∀ (d k : Nat) (ρ : Nat → Value) (H : Heap) (locs : List Loc) (ls : Array Slot) (st : List Value), g - k = d → f ≤ k → k ≤ 1120 → h k ≤ 60 → nkX 1 ρ0 ρ → ρ 1 = .int (nI (h k)) → ρ 2 = .int (nI k) → ρ 3 = .int (nI g) → ρ 4 = .ref ac → nkR (D, nkKds, Γ) y.2.2.1 nkm1_en.2.2.2.2.2.1 s.heap nkm1_H ρ H locs ls st → W p l e R s m args below meth c H locs 0 0 (MQ below (nkQc (D, nkKds, Γ) nkm1_en.2.2.2.2.2.1 nkm1_en.2.2.2.2.2.2 1 ρ0) args s 0 0 (nkA (D, nkKds, Γ))) (F0 m 22 ls st) := by
  intro d
  induction d using Nat.strongRecOn with
  | ind d ih =>
    intro k ρ H locs ls st hd hfk hk hh60 hX0 e1 e2 e3 e4 hR
    refine nk_segH (nk_nil _) nkm1_gB (nk_sub_rf _) hh hR (fun ce hce ρ2 H2 locs2 ls2 st2 hX hR2 hF2 => ?_) (fun a ha ρ2 H2 v t hX hT hF2 hF3 hv ht => ?_)
    · obtain rfl := List.mem_singleton.mp hce
      have hR2 : nkR (D, nkKds, Γ) y.2.2.1 nkm1_en.2.2.2.2.2.1 s.heap nkm1_X ρ2 H2 locs2 ls2 st2 := hR2
      show W p l e R s m args below meth c H2 locs2 0 0 _ (F0 m 30 ls2 st2)
      have f1 : ρ2 1 = .int (nI (h k)) := (hX 1 (by omega)).trans e1
      have f2 : ρ2 2 = .int (nI k) := (hX 2 (by omega)).trans e2
      have f3 : ρ2 3 = .int (nI g) := (hX 3 (by omega)).trans e3
      have f4 : ρ2 4 = .ref ac := (hX 4 (by omega)).trans e4
      have hkI : (nI k).toInt = (k : Int) := nI_toInt (by omega)
      have hgI : (nI g).toInt = (g : Int) := nI_toInt (by omega)
      have hnI : (nI (h k)).toInt = (h k : Int) := nI_toInt (by omega)
      have hkg : k < g := by
        have q := nk_di2 hR2.1.2.2.1 (a := 2) (b := 3) (c := 18446744073709551615) List.mem_cons_self f2 f3
        omega
      obtain ⟨cv, ecv, hcase⟩ := hG k hfk hkg
      have hk80 : nkKds[Γ ac]? = some (1, 0, 1120, 1, [(0, 18446744071562067968, 18446744075857035263)]) := by rw [hac]; rfl
      obtain ⟨z, hz, -⟩ : ∃ z : Nat → Value, H2[ac]? = some (arrV (D.2.2 0) 1120 z) ∧ True := by
        obtain ⟨z, hz, -⟩ := hR2.1.2.2.2.2.1 ac _ hk80
        exact ⟨z, hz, trivial⟩
      have hzk : z k = zc k := nk_kpA (E := (D, nkKds, Γ)) hR2.2.2.2.2.2.2 hk80 (by show nk_off _ (Γ ac) k = true; rw [hac]; rfl) (by omega) hzc hz
      have hcl : (nI k).toNatClampNeg = k := nI_clamp (by omega)
      have hzv : z (nI k).toNatClampNeg = .int cv := by rw [hcl, hzk, ecv]
      have hld : ∀ v : nkV, nkOk Γ v (.int cv) → (∀ st', nkR (D, nkKds, Γ) y.2.2.1 nkm1_en.2.2.2.2.2.1 s.heap (nk_push nkm1_X [] v) (updV ρ2 6 (.int cv)) H2 locs2 ls2 st' → W p l e R s m args below meth c H2 locs2 0 0 (MQ below (nkQc (D, nkKds, Γ) nkm1_en.2.2.2.2.2.1 nkm1_en.2.2.2.2.2.2 1 ρ0) args s 0 0 (nkA (D, nkKds, Γ))) (F0 m 31 ls2 st')) → W p l e R s m args below meth c H2 locs2 0 0 (MQ below (nkQc (D, nkKds, Γ) nkm1_en.2.2.2.2.2.1 nkm1_en.2.2.2.2.2.2 1 ρ0) args s 0 0 (nkA (D, nkKds, Γ))) (F0 m 30 ls2 st2) := fun v hv kk => by
        refine nk_hAld hh.2.1.1 (hh.2.1.2.2.1 30 (.iaload, 1) (show nk_dk (nk_nD nhDa 202 []) 30 = some (.iaload, 1) by decide +kernel)) (show nkm1_X.2.2.2.1 = 2 :: 4 :: [] from rfl) hR2 (ti := 0) (by decide) f4 hz f2 (by omega) (by omega) (v := v) (by rw [hzv]; exact hv) (fun st' hR3 => ?_)
        rw [hzv] at hR3
        exact kk st' hR3
      have u1 : updV ρ2 6 (.int cv) 1 = .int (nI (h k)) := f1
      have u2 : updV ρ2 6 (.int cv) 2 = .int (nI k) := f2
      have u3 : updV ρ2 6 (.int cv) 3 = .int (nI g) := f3
      have u4 : updV ρ2 6 (.int cv) 4 = .ref ac := f4
      have u0 : updV ρ2 6 (.int cv) 0 = ρ0 0 := (hX 0 (by omega)).trans (hX0 0 (by omega))
      rcases hcase with ⟨c1, c2, c3⟩ | ⟨c0, c1, c2, c3⟩ | ⟨c0, c1, c2, c3⟩
      · have c1i : cv.toInt = 126 := by rw [c1]; rfl
        refine hld (0, 18446744073709551742, 18446744073709551742) (nk_okI (by omega) (by omega)) (fun st3 hR3 => ?_)
        have hR4 : nkR (D, nkKds, Γ) y.2.2.1 nkm1_en.2.2.2.2.2.1 s.heap nkm1_St (updV ρ2 6 (.int cv)) H2 locs2 ls2 st3 := nk_set_ok (nk_set_ok hR3 (i := 1) (by rw [u1]; exact nk_okI (by omega) (by omega))) (i := 2) (by rw [u2]; exact nk_okI (by omega) (by omega))
        refine nk_segH (nk_nil _) nkm1_gt (nk_sub_rf _) hh hR4 (fun ce hce ρ5 H5 locs5 ls5 st5 hX5 hR5 hF5 => ?_) (fun a ha => by cases ha)
        obtain rfl := List.mem_singleton.mp hce
        have hR5 : nkR (D, nkKds, Γ) y.2.2.1 nkm1_en.2.2.2.2.2.1 s.heap nkm1_Ot ρ5 H5 locs5 ls5 st5 := hR5
        show W p l e R s m args below meth c H5 locs5 0 0 _ (F0 m 22 ls5 st5)
        have hσ : nk_ent 1 nkm1_H nkm1_Ot = some (6, [5, 4, 3, 6, 1, 0]) := by decide +kernel
        obtain ⟨q1, q2, -, -⟩ := nk_ent_ok hσ hR5
        have w1 : ρ5 1 = .int (nI (h (k + 1))) := by rw [(hX5 1 (by omega)).trans u1, c3]
        have w2 : ρ5 6 = .int (nI (k + 1)) := by
          obtain ⟨a, ea, -, -⟩ := nk_int (hR5.1.1 6 _ rfl)
          have r1 := nk_di2 hR5.1.2.2.1 (show (6, 2, 18446744073709551617) ∈ nkm1_Ot.2.2.2.2.2.1 by decide) ea ((hX5 2 (by omega)).trans u2)
          have r2 := nk_di2 hR5.1.2.2.1 (show (2, 6, 18446744073709551615) ∈ nkm1_Ot.2.2.2.2.2.1 by decide) ((hX5 2 (by omega)).trans u2) ea
          rw [ea, nk_nI (x := a) (m := k + 1) (by omega)]
        refine ih (g - (k + 1)) (by omega) (k + 1) (nk_pk (6, [5, 4, 3, 6, 1, 0]) ρ5) H5 locs5 ls5 st5 rfl (by omega) (by omega) (by omega) (fun i hi => ?_) w1 w2 ((hX5 3 (by omega)).trans u3) ((hX5 4 (by omega)).trans u4) q1
        have hi0 : i = 0 := by omega
        subst hi0
        exact (hX5 0 (by omega)).trans u0
      · have c1a := c1.1
        have c1b := c1.2
        refine hld (0, 18446744073709551713, 18446744073709551738) (nk_okI (by omega) (by omega)) (fun st3 hR3 => ?_)
        have hR4 : nkR (D, nkKds, Γ) y.2.2.1 nkm1_en.2.2.2.2.2.1 s.heap nkm1_Sl (updV ρ2 6 (.int cv)) H2 locs2 ls2 st3 := nk_set_ok (nk_set_ok hR3 (i := 1) (by rw [u1]; exact nk_okI (by omega) (by omega))) (i := 2) (by rw [u2]; exact nk_okI (by omega) (by omega))
        refine nk_segH (nk_nil _) nkm1_gl (nk_sub_rf _) hh hR4 (fun ce hce ρ5 H5 locs5 ls5 st5 hX5 hR5 hF5 => ?_) (fun a ha => by cases ha)
        obtain rfl := List.mem_singleton.mp hce
        have hR5 : nkR (D, nkKds, Γ) y.2.2.1 nkm1_en.2.2.2.2.2.1 s.heap nkm1_Ol ρ5 H5 locs5 ls5 st5 := hR5
        show W p l e R s m args below meth c H5 locs5 0 0 _ (F0 m 22 ls5 st5)
        have hσ : nk_ent 1 nkm1_H nkm1_Ol = some (6, [5, 4, 3, 7, 6, 0]) := by decide +kernel
        obtain ⟨q1, q2, -, -⟩ := nk_ent_ok hσ hR5
        have w1 : ρ5 6 = .int (nI (h (k + 1))) := by
          obtain ⟨a, ea, -, -⟩ := nk_int (hR5.1.1 6 _ rfl)
          have r1 := nk_di2 hR5.1.2.2.1 (show (6, 1, 18446744073709551617) ∈ nkm1_Ol.2.2.2.2.2.1 by decide) ea ((hX5 1 (by omega)).trans u1)
          have r2 := nk_di2 hR5.1.2.2.1 (show (1, 6, 18446744073709551615) ∈ nkm1_Ol.2.2.2.2.2.1 by decide) ((hX5 1 (by omega)).trans u1) ea
          rw [ea, nk_nI (x := a) (m := h (k + 1)) (by omega)]
        have w2 : ρ5 7 = .int (nI (k + 1)) := by
          obtain ⟨a, ea, -, -⟩ := nk_int (hR5.1.1 7 _ rfl)
          have r1 := nk_di2 hR5.1.2.2.1 (show (7, 2, 18446744073709551617) ∈ nkm1_Ol.2.2.2.2.2.1 by decide) ea ((hX5 2 (by omega)).trans u2)
          have r2 := nk_di2 hR5.1.2.2.1 (show (2, 7, 18446744073709551615) ∈ nkm1_Ol.2.2.2.2.2.1 by decide) ((hX5 2 (by omega)).trans u2) ea
          rw [ea, nk_nI (x := a) (m := k + 1) (by omega)]
        refine ih (g - (k + 1)) (by omega) (k + 1) (nk_pk (6, [5, 4, 3, 7, 6, 0]) ρ5) H5 locs5 ls5 st5 rfl (by omega) (by omega) (by omega) (fun i hi => ?_) w1 w2 ((hX5 3 (by omega)).trans u3) ((hX5 4 (by omega)).trans u4) q1
        have hi0 : i = 0 := by omega
        subst hi0
        exact (hX5 0 (by omega)).trans u0
      · have c0i : cv.toInt ≠ 126 := fun q => c0 (by rw [nk_nI (x := cv) (m := 126) (by omega)]; rfl)
        have rcv := fb_rng cv
        by_cases d1 : cv.toInt ≤ 96
        · refine hld (0, 18446744071562067968, 18446744073709551712) (nk_okI (by omega) (by omega)) (fun st3 hR3 => ?_)
          have hR4 : nkR (D, nkKds, Γ) y.2.2.1 nkm1_en.2.2.2.2.2.1 s.heap nkm1_So (updV ρ2 6 (.int cv)) H2 locs2 ls2 st3 := nk_set_ok (nk_set_ok hR3 (i := 1) (by rw [u1]; exact nk_okI (by omega) (by omega))) (i := 2) (by rw [u2]; exact nk_okI (by omega) (by omega))
          refine nk_segH (nk_nil _) nkm1_go (nk_sub_rf _) hh hR4 (fun ce hce ρ5 H5 locs5 ls5 st5 hX5 hR5 hF5 => ?_) (fun a ha => by cases ha)
          obtain rfl := List.mem_singleton.mp hce
          have hR5 : nkR (D, nkKds, Γ) y.2.2.1 nkm1_en.2.2.2.2.2.1 s.heap nkm1_Oo ρ5 H5 locs5 ls5 st5 := hR5
          show W p l e R s m args below meth c H5 locs5 0 0 _ (F0 m 22 ls5 st5)
          have hσ : nk_ent 1 nkm1_H nkm1_Oo = some (6, [5, 4, 3, 7, 6, 0]) := by decide +kernel
          obtain ⟨q1, q2, -, -⟩ := nk_ent_ok hσ hR5
          have w1 : ρ5 6 = .int (nI (h (k + 1))) := by
            obtain ⟨a, ea, -, -⟩ := nk_int (hR5.1.1 6 _ rfl)
            have r1 := nk_di2 hR5.1.2.2.1 (show (6, 1, 18446744073709551615) ∈ nkm1_Oo.2.2.2.2.2.1 by decide) ea ((hX5 1 (by omega)).trans u1)
            have r2 := nk_di2 hR5.1.2.2.1 (show (1, 6, 18446744073709551617) ∈ nkm1_Oo.2.2.2.2.2.1 by decide) ((hX5 1 (by omega)).trans u1) ea
            rw [ea, nk_nI (x := a) (m := h (k + 1)) (by omega)]
          have w2 : ρ5 7 = .int (nI (k + 1)) := by
            obtain ⟨a, ea, -, -⟩ := nk_int (hR5.1.1 7 _ rfl)
            have r1 := nk_di2 hR5.1.2.2.1 (show (7, 2, 18446744073709551617) ∈ nkm1_Oo.2.2.2.2.2.1 by decide) ea ((hX5 2 (by omega)).trans u2)
            have r2 := nk_di2 hR5.1.2.2.1 (show (2, 7, 18446744073709551615) ∈ nkm1_Oo.2.2.2.2.2.1 by decide) ((hX5 2 (by omega)).trans u2) ea
            rw [ea, nk_nI (x := a) (m := k + 1) (by omega)]
          refine ih (g - (k + 1)) (by omega) (k + 1) (nk_pk (6, [5, 4, 3, 7, 6, 0]) ρ5) H5 locs5 ls5 st5 rfl (by omega) (by omega) (by omega) (fun i hi => ?_) w1 w2 ((hX5 3 (by omega)).trans u3) ((hX5 4 (by omega)).trans u4) q1
          have hi0 : i = 0 := by omega
          subst hi0
          exact (hX5 0 (by omega)).trans u0
        · by_cases d2 : cv.toInt ≤ 125
          · refine hld (0, 18446744073709551739, 18446744073709551741) (nk_okI (by omega) (by omega)) (fun st3 hR3 => ?_)
            have hR4 : nkR (D, nkKds, Γ) y.2.2.1 nkm1_en.2.2.2.2.2.1 s.heap nkm1_Sp (updV ρ2 6 (.int cv)) H2 locs2 ls2 st3 := nk_set_ok (nk_set_ok hR3 (i := 1) (by rw [u1]; exact nk_okI (by omega) (by omega))) (i := 2) (by rw [u2]; exact nk_okI (by omega) (by omega))
            refine nk_segH (nk_nil _) nkm1_gp (nk_sub_rf _) hh hR4 (fun ce hce ρ5 H5 locs5 ls5 st5 hX5 hR5 hF5 => ?_) (fun a ha => by cases ha)
            obtain rfl := List.mem_singleton.mp hce
            have hR5 : nkR (D, nkKds, Γ) y.2.2.1 nkm1_en.2.2.2.2.2.1 s.heap nkm1_Op ρ5 H5 locs5 ls5 st5 := hR5
            show W p l e R s m args below meth c H5 locs5 0 0 _ (F0 m 22 ls5 st5)
            have hσ : nk_ent 1 nkm1_H nkm1_Op = some (6, [5, 4, 3, 7, 6, 0]) := by decide +kernel
            obtain ⟨q1, q2, -, -⟩ := nk_ent_ok hσ hR5
            have w1 : ρ5 6 = .int (nI (h (k + 1))) := by
              obtain ⟨a, ea, -, -⟩ := nk_int (hR5.1.1 6 _ rfl)
              have r1 := nk_di2 hR5.1.2.2.1 (show (6, 1, 18446744073709551615) ∈ nkm1_Op.2.2.2.2.2.1 by decide) ea ((hX5 1 (by omega)).trans u1)
              have r2 := nk_di2 hR5.1.2.2.1 (show (1, 6, 18446744073709551617) ∈ nkm1_Op.2.2.2.2.2.1 by decide) ((hX5 1 (by omega)).trans u1) ea
              rw [ea, nk_nI (x := a) (m := h (k + 1)) (by omega)]
            have w2 : ρ5 7 = .int (nI (k + 1)) := by
              obtain ⟨a, ea, -, -⟩ := nk_int (hR5.1.1 7 _ rfl)
              have r1 := nk_di2 hR5.1.2.2.1 (show (7, 2, 18446744073709551617) ∈ nkm1_Op.2.2.2.2.2.1 by decide) ea ((hX5 2 (by omega)).trans u2)
              have r2 := nk_di2 hR5.1.2.2.1 (show (2, 7, 18446744073709551615) ∈ nkm1_Op.2.2.2.2.2.1 by decide) ((hX5 2 (by omega)).trans u2) ea
              rw [ea, nk_nI (x := a) (m := k + 1) (by omega)]
            refine ih (g - (k + 1)) (by omega) (k + 1) (nk_pk (6, [5, 4, 3, 7, 6, 0]) ρ5) H5 locs5 ls5 st5 rfl (by omega) (by omega) (by omega) (fun i hi => ?_) w1 w2 ((hX5 3 (by omega)).trans u3) ((hX5 4 (by omega)).trans u4) q1
            have hi0 : i = 0 := by omega
            subst hi0
            exact (hX5 0 (by omega)).trans u0
          · refine hld (0, 18446744073709551743, 18446744075857035263) (nk_okI (by omega) (by omega)) (fun st3 hR3 => ?_)
            have hR4 : nkR (D, nkKds, Γ) y.2.2.1 nkm1_en.2.2.2.2.2.1 s.heap nkm1_Sq (updV ρ2 6 (.int cv)) H2 locs2 ls2 st3 := nk_set_ok (nk_set_ok hR3 (i := 1) (by rw [u1]; exact nk_okI (by omega) (by omega))) (i := 2) (by rw [u2]; exact nk_okI (by omega) (by omega))
            refine nk_segH (nk_nil _) nkm1_gq (nk_sub_rf _) hh hR4 (fun ce hce ρ5 H5 locs5 ls5 st5 hX5 hR5 hF5 => ?_) (fun a ha => by cases ha)
            obtain rfl := List.mem_singleton.mp hce
            have hR5 : nkR (D, nkKds, Γ) y.2.2.1 nkm1_en.2.2.2.2.2.1 s.heap nkm1_Oq ρ5 H5 locs5 ls5 st5 := hR5
            show W p l e R s m args below meth c H5 locs5 0 0 _ (F0 m 22 ls5 st5)
            have hσ : nk_ent 1 nkm1_H nkm1_Oq = some (6, [5, 4, 3, 7, 6, 0]) := by decide +kernel
            obtain ⟨q1, q2, -, -⟩ := nk_ent_ok hσ hR5
            have w1 : ρ5 6 = .int (nI (h (k + 1))) := by
              obtain ⟨a, ea, -, -⟩ := nk_int (hR5.1.1 6 _ rfl)
              have r1 := nk_di2 hR5.1.2.2.1 (show (6, 1, 18446744073709551615) ∈ nkm1_Oq.2.2.2.2.2.1 by decide) ea ((hX5 1 (by omega)).trans u1)
              have r2 := nk_di2 hR5.1.2.2.1 (show (1, 6, 18446744073709551617) ∈ nkm1_Oq.2.2.2.2.2.1 by decide) ((hX5 1 (by omega)).trans u1) ea
              rw [ea, nk_nI (x := a) (m := h (k + 1)) (by omega)]
            have w2 : ρ5 7 = .int (nI (k + 1)) := by
              obtain ⟨a, ea, -, -⟩ := nk_int (hR5.1.1 7 _ rfl)
              have r1 := nk_di2 hR5.1.2.2.1 (show (7, 2, 18446744073709551617) ∈ nkm1_Oq.2.2.2.2.2.1 by decide) ea ((hX5 2 (by omega)).trans u2)
              have r2 := nk_di2 hR5.1.2.2.1 (show (2, 7, 18446744073709551615) ∈ nkm1_Oq.2.2.2.2.2.1 by decide) ((hX5 2 (by omega)).trans u2) ea
              rw [ea, nk_nI (x := a) (m := k + 1) (by omega)]
            refine ih (g - (k + 1)) (by omega) (k + 1) (nk_pk (6, [5, 4, 3, 7, 6, 0]) ρ5) H5 locs5 ls5 st5 rfl (by omega) (by omega) (by omega) (fun i hi => ?_) w1 w2 ((hX5 3 (by omega)).trans u3) ((hX5 4 (by omega)).trans u4) q1
            have hi0 : i = 0 := by omega
            subst hi0
            exact (hX5 0 (by omega)).trans u0
    · obtain rfl := List.mem_singleton.mp ha
      refine ⟨⟨v, _, updV ρ2 1 (ρ2 6), rfl, List.mem_singleton.mpr rfl, Nat.le_succ 1, ?_, ?_, ?_⟩, ?_⟩
      · intro i hi
        have : i = 0 := by omega
        subst this
        exact (hX 0 (by omega)).trans (hX0 0 (by omega))
      · rw [ht]
        exact ⟨nk_all_cons (hT.1 6 _ rfl) (nk_all_cons (hT.1 0 _ rfl) (nk_all_nil _ _)), fun q hq => (by cases hq), fun q hq => (by cases hq), fun q hq => (by cases hq), hT.2.2.2.2⟩
      · exact ⟨by decide, hv.2⟩
      · rw [ht]
        exact hF3
theorem nkm1_comes : nkMetI nkKds nkm1_en := nk_handI (spt := nkm1_sp) (by decide +kernel) (fun {y lo0} hlo0 {p l e R s m args below meth c cc D Γ ρ ls} hh hR => by
  have hl : lo0 = [(0, 0)] := Option.some.inj (hlo0.symm.trans (by decide +kernel))
  subst hl
  refine nk_segH (nk_nil _) nkm1_gA (nk_sub_rf _) hh hR (fun ce hce ρ2 H2 locs2 ls2 st2 hX hR2 hF2 => ?_) (fun a ha => by cases ha)
  obtain rfl := List.mem_singleton.mp hce
  have hR2 : nkR (D, nkKds, Γ) y.2.2.1 nkm1_en.2.2.2.2.2.1 s.heap nkm1_A ρ2 H2 locs2 ls2 st2 := hR2
  show W p l e R s m args below meth c H2 locs2 0 0 _ (F0 m 22 ls2 st2)
  obtain ⟨ac, e4, hac⟩ := nk_rf (hR2.1.1 4 _ rfl)
  obtain ⟨at', e5, hat⟩ := nk_rf (hR2.1.1 5 _ rfl)
  obtain ⟨af, e6, haf⟩ := nk_rf (hR2.1.1 6 _ rfl)
  have hk80 : nkKds[Γ ac]? = some (1, 0, 1120, 1, [(0, 18446744071562067968, 18446744075857035263)]) := by rw [show Γ ac = 80 from hac]; rfl
  have hk82 : nkKds[Γ af]? = some (1, 0, 2, 1, [(0, 18446744071562067968, 18446744075857035263)]) := by rw [show Γ af = 82 from haf]; rfl
  have hk83 : nkKds[Γ at']? = some (1, 0, 2, 1, [(0, 18446744071562067968, 18446744075857035263)]) := by rw [show Γ at' = 83 from hat]; rfl
  have hH0 : nkH (D, nkKds, Γ) s.heap := hR.1.2.2.2.2
  obtain ⟨zc, hzc, -⟩ : ∃ z : Nat → Value, s.heap[ac]? = some (arrV (D.2.2 0) 1120 z) ∧ True := by
    obtain ⟨z, hz, -⟩ := hH0.1 ac _ hk80
    exact ⟨z, hz, trivial⟩
  obtain ⟨zf, hzf, -⟩ : ∃ z : Nat → Value, s.heap[af]? = some (arrV (D.2.2 0) 2 z) ∧ True := by
    obtain ⟨z, hz, -⟩ := hH0.1 af _ hk82
    exact ⟨z, hz, trivial⟩
  obtain ⟨zt, hzt, -⟩ : ∃ z : Nat → Value, s.heap[at']? = some (arrV (D.2.2 0) 2 z) ∧ True := by
    obtain ⟨z, hz, -⟩ := hH0.1 at' _ hk83
    exact ⟨z, hz, trivial⟩
  obtain ⟨wf, hwf, -⟩ : ∃ z : Nat → Value, H2[af]? = some (arrV (D.2.2 0) 2 z) ∧ True := by
    obtain ⟨z, hz, -⟩ := hR2.1.2.2.2.2.1 af _ hk82
    exact ⟨z, hz, trivial⟩
  obtain ⟨wt, hwt, -⟩ : ∃ z : Nat → Value, H2[at']? = some (arrV (D.2.2 0) 2 z) ∧ True := by
    obtain ⟨z, hz, -⟩ := hR2.1.2.2.2.2.1 at' _ hk83
    exact ⟨z, hz, trivial⟩
  obtain ⟨⟨f, g, h, ef, eg, hf, hg, h0, hG⟩, -⟩ := (hH0.2 (show nk_jf nkKds = true by decide +kernel)).2 ac af at' hac haf hat zc zf zt hzc hzf hzt 1 (by decide)
  have g2 : ρ2 2 = .int (nI f) := by
    rw [nk_meA (E := (D, nkKds, Γ)) hR2.1.2.1 (show (6, 1, 2) ∈ nkm1_A.2.2.2.2.1 by decide) e6 hk82 hwf, nk_kpA (E := (D, nkKds, Γ)) hR2.2.2.2.2.2.2 hk82 (by show nk_off _ (Γ af) 1 = true; rw [show Γ af = 82 from haf]; rfl) (by decide) hzf hwf]
    exact ef
  have g3 : ρ2 3 = .int (nI g) := by
    rw [nk_meA (E := (D, nkKds, Γ)) hR2.1.2.1 (show (5, 1, 3) ∈ nkm1_A.2.2.2.2.1 by decide) e5 hk83 hwt, nk_kpA (E := (D, nkKds, Γ)) hR2.2.2.2.2.2.2 hk83 (by show nk_off _ (Γ at') 1 = true; rw [show Γ at' = 83 from hat]; rfl) (by decide) hzt hwt]
    exact eg
  have hfI : (nI f).toInt = (f : Int) := nI_toInt (by omega)
  have g1 : ρ2 1 = .int (nI (h f)) := by
    obtain ⟨a, ea, q1, q2⟩ := nk_int (hR2.1.1 1 _ rfl)
    rw [ea, h0, nk_nI (x := a) (m := 0) (by omega)]
  have hR3 := nk_set_ok (i := 2) (v := (0, 18446744073709551616, 18446744073709552736)) hR2 (by rw [g2]; exact nk_okI (by omega) (by omega))
  have hσ : nk_ent 1 nkm1_H (nk_set nkm1_A 2 (0, 18446744073709551616, 18446744073709552736)) = some (6, [5, 4, 3, 2, 1, 0]) := by decide +kernel
  obtain ⟨q1, q2, -, -⟩ := nk_ent_ok hσ hR3
  have pk : ∀ i, i < 6 → nk_pk (6, [5, 4, 3, 2, 1, 0]) ρ2 i = ρ2 i := fun i hi => nk_pk_at (nk_idl_g (n := 6) hi)
  exact nkm1_loop hh hac hzc hg hG _ f (nk_pk (6, [5, 4, 3, 2, 1, 0]) ρ2) H2 locs2 ls2 st2 rfl (Nat.le_refl _) hf (by omega) (fun i hi => by rw [pk i (by omega)]; exact hX i hi) (by rw [pk 1 (by omega)]; exact g1) (by rw [pk 2 (by omega)]; exact g2) (by rw [pk 3 (by omega)]; exact g3) (by rw [pk 4 (by omega)]; exact e4) q1)

