/-! known values: the loops of goOn and goSteps in one stride, and calls that were walked before -/
def ce_at0 (vs : List ceV) (j : Nat) : Bool := match vs[j]? with
  | some v => ce_eqV v (0, 0)
  | none => false
def ce_lpc (call : Nat → List ceV → ceHp → Option ceO) (mn nL hd pcc nb kk a j : Nat) (loR : List (Nat × ceV)) (nv : ceV) (hp : ceHp) : Option ceO := match ce_get hp a with
  | some c => if (decide (4 ≤ nv.1 ∧ nv.1 < 9 ∧ 0 ≤ ce_blo nv.2 ∧ ce_blo nv.2 ≤ ce_bhi nv.2 ∧ ce_bhi nv.2 ≤ 2147483646) && (loR.all (fun q => ce_n5 q.2) && (ce_at0 c.2.2 j && ce_h5 hp))) = true then (match ce_seg call (ce_ow mn) nL (ce_ck (ce_dt mn)) nb (pcc + 3, (kk, (9, ce_pl)) :: loR, [], ce_set hp a (ce_cj c j (9, ce_pl))) with
      | some S => if (Nat.beq S.1 hd && (S.2.2.1.isEmpty && ((((kk, ((39, ce_pl) : ceV)) :: loR).all (fun q => S.2.1.any (fun w => Nat.beq w.1 q.1 && ce_eqV w.2 q.2))) && ce_eqH S.2.2.2 (ce_set hp a (ce_cj c j (39, ce_pl)))))) = true then some (none, ce_set hp a (ce_cj c j nv), 0, 0) else none
      | none => none) else none
  | none => none
def ce_mB (mn nL : Nat) : Bool := match ce_m mn with
  | some y => decide (mn < 1000 ∧ nhOw[ce_ow mn]? = some y.1.cls ∧ y.2.2.1 = nL ∧ y.2.2.2.1 = none)
  | none => false
theorem ce_seg_cons {call : Nat → List ceV → ceHp → Option ceO} {own nL : Nat} {dt : List nhDt} {f : Nat} {S S' : ceS} {w : Instr × Nat} (h1 : ce_dk dt S.1 = some w) (h2 : ce_one own nL false S.1 w.1 w.2 S.2.1 S.2.2.1 S.2.2.2 = some S') : ce_seg call own nL dt (f + 1) S = ce_seg call own nL dt f S' := by
  have h3 : ce_stp call own nL dt S = some S' := by
    unfold ce_stp
    rw [h1]
    dsimp only
    rw [h2]
  rw [ce_seg, h3]
theorem ce_lpc_ok {mn nL hd pcc ex nb kk a j d : Nat} {off : Int} {as : List ceV} {loR : List (Nat × ceV)} {nv : ceV} {hp : ceHp} {call : Nat → List ceV → ceHp → Option ceO} (hB : ce_mB mn nL = true) (hsum : ce_sum as ≤ nL)
    (hent : ∀ hp, ce_seg call (ce_ow mn) nL (ce_ck (ce_dt mn)) 2 (0, ce_lo0 0 as, [], hp) = some (hd, (kk, (0, 0)) :: loR, [], hp))
    (hcmp : ce_dk (ce_ck (ce_dt mn)) pcc = some (.if_icmp .ge off, 3)) (ht : nh_tg pcc off = some ex)
    (hhd : ∀ hp, ce_seg call (ce_ow mn) nL (ce_ck (ce_dt mn)) 2 (hd, (kk, (9, ce_pl)) :: loR, [], hp) = some (pcc, (kk, (9, ce_pl)) :: loR, [nv, (9, ce_pl)], hp))
    (hret : ce_dk (ce_ck (ce_dt mn)) ex = some (.return_, 1))
    (hcall : ∀ mn as hp r hp' c1 z1, call mn as hp = some (r, hp', c1, z1) → ∃ y, ce_m mn = some y ∧ ceMet y d as hp r hp' c1 z1) {r : Option ceV} {hp' : ceHp} {c1 z1 : Nat} (h : ce_lpc call mn nL hd pcc nb kk a j loR nv hp = some (r, hp', c1, z1)) : ∃ y, ce_m mn = some y ∧ ceMet y (d + 1) as hp r hp' c1 z1 := by
  unfold ce_mB at hB
  split at hB
  · rename_i y hy
    obtain ⟨hmn, hC, hnL, hrt⟩ := of_decide_eq_true hB
    subst hnL
    refine ⟨y, hy, ?_⟩
    unfold ce_lpc at h
    split at h
    · rename_i cl hg
      split at h
      · rename_i hc
        rw [Bool.and_eq_true, Bool.and_eq_true, Bool.and_eq_true] at hc
        obtain ⟨n0, hl5, hat, hh5⟩ := hc
        obtain ⟨n1, n2, n3, n4, n5⟩ := of_decide_eq_true n0
        split at h
        · rename_i S hS
          split at h
          · rename_i hc2
            cases h
            rw [Bool.and_eq_true, Bool.and_eq_true, Bool.and_eq_true] at hc2
            obtain ⟨s1, s2, s3, s4⟩ := hc2
            obtain ⟨pc', lo', st', hp2⟩ := S
            dsimp only at s1 s2 s3 s4
            have s1 := Nat.eq_of_beq_eq_true s1
            have s2 : st' = [] := List.isEmpty_iff.mp s2
            have s4 := ce_eqH_ok _ _ s4
            subst s1 s2 s4
            have hlo : ∀ q ∈ (kk, ((39, ce_pl) : ceV)) :: loR, q ∈ lo' := fun q hq => by
              have h1 := List.all_eq_true.mp s3 q hq
              obtain ⟨w, hw, h2⟩ := List.any_eq_true.mp h1
              rw [Bool.and_eq_true] at h2
              have e1 := Nat.eq_of_beq_eq_true h2.1
              have e2 := ce_eqV_ok _ _ h2.2
              obtain ⟨w1, w2⟩ := w
              obtain ⟨q1, q2⟩ := q
              dsimp only at e1 e2
              subst e1 e2
              exact hw
            have hcj : cl = ce_cj cl j (0, 0) := by
              unfold ce_at0 at hat
              split at hat
              · rename_i v hv
                have := ce_eqV_ok _ _ hat
                subst this
                unfold ce_cj
                have : cl.2.2.set j (0, 0) = cl.2.2 := by
                  refine List.ext_getElem? (fun i => ?_)
                  rw [List.getElem?_set]
                  split
                  · rename_i e
                    subst e
                    rw [if_pos (List.getElem?_eq_some_iff.mp hv).1, hv]
                  · rfl
                rw [this]
              · cases hat
            have hm := hy
            unfold ce_m at hm
            rw [if_pos hmn] at hm
            obtain ⟨m1, m2, m3, m4, m5, m6⟩ := nh_mt_ok hm
            intro l D ρ B H0
            refine Met.ofW (cc := y.2.1) (maxL := y.2.2.1) (ret := y.2.2.2.1) m6 rfl ?_
            intro p e s m args below meth c s₁ Bd hml hv
            obtain ⟨rfl, hH, hK, hNs⟩ := hv
            have hts := atoms_spec (ws := nhWs y) Bd.pre
            have hF : nhFx p c s m (as.map (ce_c ρ B)).toArray y.2.1 y.2.2.1 (ce_ow mn) D := ⟨Bd.exec, Bd.bytes, hml, ⟨_, hC, findClass_of_methodNamed Bd.named⟩, fun w hw => hts w (List.mem_cons_of_mem _ hw), hK⟩
            have hdt : ∀ (pc : Nat) (q : Instr × Nat), ce_dk (ce_ck (ce_dt mn)) pc = some q → decode y.2.1 pc = .ok q := fun _ _ hq => ce_dk_ok (ce_dt_ok hy) hq
            have hlv := lv_entry (as.map (ce_c ρ B)) (n := y.2.2.1) (by rw [ce_slen]; exact hsum)
            rw [lg_entry_eq]
            generalize (lg_sl (as.map (ce_c ρ B)) ++ List.replicate (y.2.2.1 - (lg_sl (as.map (ce_c ρ B))).length) Slot.unset).toArray = ls at hlv ⊢
            obtain ⟨N, hN, hN0, hN1⟩ : ∃ N : Int32, ce_c ρ B nv = .int N ∧ 0 ≤ N.toInt ∧ N.toInt ≤ 2147483646 := by
              have hb := ce_clp_bd (x := nv.2) (ρ (nv.1 - 4)) (by omega) n4 (by omega)
              refine ⟨ce_clp nv.2 (ρ (nv.1 - 4)), ?_, by omega, by omega⟩
              show ce_c ρ B (nv.1, nv.2) = _
              rw [ce_cU ρ B n1]
              unfold ce_un
              rw [if_pos (by omega)]
            have hn5 : ce_n5 nv = true := by
              unfold ce_n5
              rw [Bool.or_eq_true]
              right
              rw [Bool.and_eq_true]
              refine ⟨Nat.ble_eq_true_of_le (by omega), ?_⟩
              have : Nat.beq ((nv.1 - 4) % 6) 5 = false := by
                cases hq : Nat.beq ((nv.1 - 4) % 6) 5 with
                | false => rfl
                | true =>
                  have := Nat.eq_of_beq_eq_true hq
                  omega
              rw [this]
              rfl
            have hgo : ceGo p l e (ceRm (d + 1) 0 0) s m (as.map (ce_c ρ B)).toArray below meth c (MQ below (ceQc D ρ B H0 none (ce_set hp a (ce_cj cl j nv))) (as.map (ce_c ρ B)).toArray s 0 0 (fun a => B ≤ a)) D ρ B H0 y.2.2.1 0 0 (pc', (kk, (0, 0)) :: loR, [], hp) := by
              intro H locs ls hR
              show W p l e (ceRm (d + 1) 0 0) s m (as.map (ce_c ρ B)).toArray below meth c H locs 0 0 (MQ below (ceQc D ρ B H0 none (ce_set hp a (ce_cj cl j nv))) (as.map (ce_c ρ B)).toArray s 0 0 (fun a => B ≤ a)) (F0 m pc' ls [])
              have hgo2 : ∀ (H : Heap) (locs : List Loc) (ls : Array Slot), ceRel D (ce_rho ρ 0) B H0 y.2.2.1 ((kk, (9, ce_pl)) :: loR) (ce_set hp a (ce_cj cl j (9, ce_pl))) H locs ls → W p l e (ceRm (d + 1) 0 0) s m (as.map (ce_c ρ B)).toArray below meth c H locs 0 0 (MQ below (ceQc D ρ B H0 none (ce_set hp a (ce_cj cl j nv))) (as.map (ce_c ρ B)).toArray s 0 0 (fun a => B ≤ a)) (F0 m pc' ls []) := ce_loop_ok (v9 := (9, ce_pl)) (v39 := (39, ce_pl)) hF hdt hNs hcall rfl (fun i h1 h2 => ce_plv h1 h2) (fun i h1 h2 => ce_plw h1 h2) hcmp ht hhd hS hlo (fun q hq => List.all_eq_true.mp hl5 q hq) hn5 hg hh5 hN hN0 hN1 (ce_ret_ok hF.1 hF.2.1 Bd.returns Bd.notSynchronized (hdt _ _ hret) (by rw [hrt]; rfl)) N.toInt.toNat 0 (Int.le_refl _) hN0 (by rw [show (0 : Int32).toInt = 0 from rfl]; omega)
              refine hgo2 H locs ls ?_
              refine (hR.self hg).env hg (fun q hq => ?_) (fun i' d' hd' k => (ce_h5_ok hh5 hd' k).symm) rfl rfl (by simp [ce_cj]) (fun k => ?_)
              · rcases List.mem_cons.mp hq with rfl | hq
                · exact ⟨(kk, (0, 0)), List.mem_cons_self, rfl, (ce_plv (i := 0) (Int.le_refl _) (by decide)).symm⟩
                · exact ⟨q, List.mem_cons_of_mem _ hq, rfl, (ce_n5_ok (List.all_eq_true.mp hl5 q hq)).symm⟩
              · have h1 := ce_cj_get (ρ1 := ρ) (ρ2 := ce_rho ρ 0) (B := B) (c := cl) (j := j) (v1 := (0, 0)) (v2 := (9, ce_pl)) (ce_plv (i := 0) (Int.le_refl _) (by decide)).symm (fun k => (ce_h5_ok hh5 hg k).symm) k
                rw [← hcj] at h1
                exact h1
            exact ce_seg_ok hF hdt hNs hcall rfl hgo 2 _ (hent _) s.heap [] ls ⟨hlv.1, hlv.2.1, fun q hq => hlv.2.2 (q.1, ce_c ρ B q.2) (by rw [← ce_lo0_eq]; exact List.mem_map.mpr ⟨q, hq, rfl⟩), hH, (fun q hq => by cases hq)⟩
          · cases h
        · cases h
      · cases h
    · cases h
  · cases hB
def ce_hook (call : Nat → List ceV → ceHp → Option ceO) (mn : Nat) (as : List ceV) (hp : ceHp) : Option ceO :=
  if Nat.beq mn 98 = true then (match as with
    | [(2, o), (k + 4, x), (0, c), (0, g)] => ce_lpc call 98 5 3 6 9 4 27 5 [(0, (2, o)), (1, (k + 4, x)), (2, (0, c)), (3, (0, g))] (k + 4, x) hp
    | _ => none)
  else if Nat.beq mn 247 = true then (match as with
    | [(2, o), (k + 4, x), (0, g)] => ce_lpc call 247 5 2 4 6 3 305 16 [(0, (2, o)), (1, (k + 4, x)), (2, (0, g))] (k + 4, x) hp
    | _ => none)
  else none
theorem ce_m98 : ce_mB 98 5 = true := by decide +kernel
theorem ce_m247 : ce_mB 247 5 = true := by decide +kernel
theorem ce_d98 : (ce_dk (ce_ck (ce_dt 98)) 0 = some (.iconst 0, 1) ∧ ce_dk (ce_ck (ce_dt 98)) 1 = some (.istore 4, 2)) ∧ (ce_dk (ce_ck (ce_dt 98)) 3 = some (.iload 4, 2) ∧ ce_dk (ce_ck (ce_dt 98)) 5 = some (.iload_n 1, 1)) ∧ ce_dk (ce_ck (ce_dt 98)) 6 = some (.if_icmp .ge 22, 3) ∧ ce_dk (ce_ck (ce_dt 98)) 28 = some (.return_, 1) := by decide +kernel
theorem ce_d247 : (ce_dk (ce_ck (ce_dt 247)) 0 = some (.iconst 0, 1) ∧ ce_dk (ce_ck (ce_dt 247)) 1 = some (.istore_n 3, 1)) ∧ (ce_dk (ce_ck (ce_dt 247)) 2 = some (.iload_n 3, 1) ∧ ce_dk (ce_ck (ce_dt 247)) 3 = some (.iload_n 1, 1)) ∧ ce_dk (ce_ck (ce_dt 247)) 4 = some (.if_icmp .ge 16, 3) ∧ ce_dk (ce_ck (ce_dt 247)) 20 = some (.return_, 1) := by decide +kernel
theorem ce_hook_ok {call : Nat → List ceV → ceHp → Option ceO} {d : Nat} (hcall : ∀ mn as hp r hp' c1 z1, call mn as hp = some (r, hp', c1, z1) → ∃ y, ce_m mn = some y ∧ ceMet y d as hp r hp' c1 z1) {mn : Nat} {as : List ceV} {hp : ceHp} {r : Option ceV} {hp' : ceHp} {c1 z1 : Nat} (h : ce_hook call mn as hp = some (r, hp', c1, z1)) : ∃ y, ce_m mn = some y ∧ ceMet y (d + 1) as hp r hp' c1 z1 := by
  unfold ce_hook at h
  split at h
  · rename_i e
    have e := Nat.eq_of_beq_eq_true e
    subst e
    split at h
    · rename_i o k x c g
      exact ce_lpc_ok ce_m98 (Nat.le_of_ble_eq_true rfl) (fun hp => (ce_seg_cons ce_d98.1.1 rfl).trans (ce_seg_cons ce_d98.1.2 rfl)) ce_d98.2.2.1 rfl (fun hp => (ce_seg_cons ce_d98.2.1.1 rfl).trans (ce_seg_cons ce_d98.2.1.2 rfl)) ce_d98.2.2.2 hcall h
    · cases h
  · split at h
    · rename_i e
      have e := Nat.eq_of_beq_eq_true e
      subst e
      split at h
      · rename_i o k x g
        exact ce_lpc_ok ce_m247 (Nat.le_of_ble_eq_true rfl) (fun hp => (ce_seg_cons ce_d247.1.1 rfl).trans (ce_seg_cons ce_d247.1.2 rfl)) ce_d247.2.2.1 rfl (fun hp => (ce_seg_cons ce_d247.2.1.1 rfl).trans (ce_seg_cons ce_d247.2.1.2 rfl)) ce_d247.2.2.2 hcall h
      · cases h
    · cases h
/-- the walk with both -/
def ce_ex2 (M : Nat → Nat → List ceV → ceHp → Option ceO) (fuel : Nat) : Nat → Nat → List ceV → ceHp → Option ceO
  | 0, _, _, _ => none
  | d + 1, mn, as, hp => match M d mn as hp with
    | some o => some o
    | none => match ce_hook (ce_ex2 M fuel d) mn as hp with
      | some o => some o
      | none => match ce_m mn with
        | some y => if nhOw[ce_ow mn]? = some y.1.cls ∧ ce_sum as ≤ y.2.2.1 then ce_run (ce_ex2 M fuel d) (ce_ow mn) y.2.2.1 (decide (1000 ≤ mn)) (ce_ck (ce_dt mn)) y.2.2.2.1 fuel (0, ce_lo0 0 as, [], hp) 0 0 else none
        | none => none
def ceMo1 (M : Nat → Nat → List ceV → ceHp → Option ceO) : Prop := ∀ (d mn : Nat) (as : List ceV) (hp : ceHp) (r : Option ceV) (hp' : ceHp) (c1 z1 : Nat), M d mn as hp = some (r, hp', c1, z1) → ∃ y, ce_m mn = some y ∧ ceMet y (d + 1) as hp r hp' c1 z1
theorem ce_ex2_ok {M : Nat → Nat → List ceV → ceHp → Option ceO} (hMo : ceMo1 M) (fuel : Nat) : ∀ (d mn : Nat) (as : List ceV) (hp : ceHp) (r : Option ceV) (hp' : ceHp) (c1 z1 : Nat), ce_ex2 M fuel d mn as hp = some (r, hp', c1, z1) → ∃ y, ce_m mn = some y ∧ ceMet y d as hp r hp' c1 z1
  | 0, _, _, _, _, _, _, _, h => by cases h
  | d + 1, mn, as, hp, r, hp', c1, z1, h => by
    unfold ce_ex2 at h
    split at h
    · rename_i o ho
      cases h
      exact hMo _ _ _ _ _ _ _ _ ho
    · split at h
      · rename_i o ho
        cases h
        exact ce_hook_ok (ce_ex2_ok hMo fuel d) ho
      · split at h
        · rename_i y hy
          refine ⟨y, hy, ?_⟩
          split at h
          · rename_i hcs
            obtain ⟨hC, hsum⟩ := hcs
            have hcls : Cond.code y.1 y.2.1 y.2.2.1 y.2.2.2.1 ∈ nhTb ∧ plainName y.1.cls = true ∧ (decide (1000 ≤ mn) = true → y.1.name = "<init>") := by
              unfold ce_m at hy
              split at hy
              · rename_i hlt
                obtain ⟨m1, m2, m3, m4, m5, m6⟩ := nh_mt_ok hy
                exact ⟨m1, m6, fun hq => absurd (of_decide_eq_true hq) (by omega)⟩
              · obtain ⟨m1, m2, m3, m4, m5⟩ := ce_ct_ok hy
                exact ⟨m1, m5, fun _ => m4.1⟩
            intro l D ρ B H0
            refine Met.ofW (cc := y.2.1) (maxL := y.2.2.1) (ret := y.2.2.2.1) hcls.2.1 rfl ?_
            intro p e s m args below meth c s₁ Bd hml hv
            obtain ⟨rfl, hH, hK, hNs⟩ := hv
            have hts := atoms_spec (ws := nhWs y) Bd.pre
            have hF : nhFx p c s m (as.map (ce_c ρ B)).toArray y.2.1 y.2.2.1 (ce_ow mn) D := ⟨Bd.exec, Bd.bytes, hml, ⟨_, hC, findClass_of_methodNamed Bd.named⟩, fun w hw => hts w (List.mem_cons_of_mem _ hw), hK⟩
            have hin : meth.name = y.1.name := (name_of_methodNamed Bd.named Bd.method).1
            have hlv := lv_entry (as.map (ce_c ρ B)) (n := y.2.2.1) (by rw [ce_slen]; exact hsum)
            rw [lg_entry_eq]
            generalize (lg_sl (as.map (ce_c ρ B)) ++ List.replicate (y.2.2.1 - (lg_sl (as.map (ce_c ρ B))).length) Slot.unset).toArray = ls at hlv ⊢
            refine ce_run_ok hF (fun _ _ hq => ce_dk_ok (ce_dt_ok hy) hq) hNs (fun hq => hin.trans (hcls.2.2 hq)) Bd.returns Bd.notSynchronized (ce_ex2_ok hMo fuel d) rfl fuel _ 0 0 h s.heap [] ls ⟨hlv.1, hlv.2.1, fun q hq => ?_, hH, (fun q hq => by cases hq)⟩
            exact hlv.2.2 (q.1, ce_c ρ B q.2) (by rw [← ce_lo0_eq]; exact List.mem_map.mpr ⟨q, hq, rfl⟩)
          · cases h
        · cases h
def ce_two2 (M : Nat → Nat → List ceV → ceHp → Option ceO) (fuel d mx mm : Nat) (hp : ceHp) (as : List ceV) : Bool := match ce_ex2 M fuel d mx ((2, 0) :: as) hp with
  | some (some r, hp1, c1, z1) => (match ce_ex2 M fuel d mm ((2, 281) :: as) hp1 with
    | some (some r', _, c2, z2) => (ce_eqV r r' && (Nat.beq (c1 + c2) 0 && Nat.beq (z1 + z2) 0)) && (Nat.beq (ce_ty r) 0 && ce_rcv hp1 281 12)
    | _ => false)
  | _ => false
theorem ce_two2_ok {M : Nat → Nat → List ceV → ceHp → Option ceO} (hMo : ceMo1 M) {fuel d mx mm : Nat} {hp : ceHp} {as : List ceV} (h : ce_two2 M fuel d mx mm hp as = true) : ceTwo d mx mm hp as := by
  unfold ce_two2 at h
  split at h
  · rename_i r hp1 c1 z1 h1
    split at h
    · rename_i r' hp2 c2 z2 h2
      rw [Bool.and_eq_true, Bool.and_eq_true, Bool.and_eq_true, Bool.and_eq_true] at h
      obtain ⟨⟨e1, e2, e3⟩, e4, e5⟩ := h
      have e1 := ce_eqV_ok _ _ e1
      have e2 := Nat.eq_of_beq_eq_true e2
      have e3 := Nat.eq_of_beq_eq_true e3
      obtain ⟨rfl, rfl⟩ : c1 = 0 ∧ c2 = 0 := by omega
      obtain ⟨rfl, rfl⟩ : z1 = 0 ∧ z2 = 0 := by omega
      subst e1
      obtain ⟨yx, g1, g2⟩ := ce_ex2_ok hMo _ _ _ _ _ _ _ _ _ h1
      obtain ⟨ym, g3, g4⟩ := ce_ex2_ok hMo _ _ _ _ _ _ _ _ _ h2
      exact ⟨yx, ym, r, hp1, hp2, g1, g3, g2, g4, Nat.eq_of_beq_eq_true e4, e5⟩
    · cases h
  · cases h
def ce_no : Nat → Nat → List ceV → ceHp → Option ceO := fun _ _ _ _ => none
theorem ce_no_ok : ceMo1 ce_no := fun _ _ _ _ _ _ _ _ h => by cases h
