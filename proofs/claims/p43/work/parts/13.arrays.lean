/-! arrays, constants -/
def nh_join (u v : nhV) : nhV := if u.1 = 0 ∧ v.1 = 0 then (0, min u.2.1 v.2.1, max u.2.2 v.2.2) else u
/-- what is read of elements at lo .. hi -/
def nh_rd (els : List nhV) (lo hi : Int) : Option nhV := match els with
  | [x] => some x
  | _ => if lo = hi then some (els.getD lo.toNat (8, 0, 0)) else (match els with
    | [] => none
    | x :: r => if els.all (fun y => nh_le y (r.foldl nh_join x)) then some (r.foldl nh_join x) else none)
theorem nh_rd_ok {Γ : Nat → Int} {g : Nat → Int32} {els : List nhV} {lo hi : Int} {v : nhV} {j : Nat} {x : Value} (h : nh_rd els lo hi = some v) (h1 : lo ≤ j) (h2 : (j : Int) ≤ hi) (hl : els.length = 1 ∨ j < els.length) (hx : nhOk Γ g (nh_el els j) x) : nhOk Γ g v x := by
  unfold nh_rd at h
  split at h
  · cases h
    exact hx
  · rename_i hne
    have he : nh_el els j = els.getD j (8, 0, 0) := by
      unfold nh_el
      split
      · rename_i y
        exact absurd rfl (hne y)
      · rfl
    rw [he] at hx
    split at h
    · cases h
      rw [show lo.toNat = j by omega]
      exact hx
    · split at h
      · cases h
      · rename_i y r
        split at h
        · rename_i ha
          cases h
          have hj : j < (y :: r).length := by
            rcases hl with h | h
            · exfalso
              cases r with
              | nil => exact hne y rfl
              | cons z r => simp at h
            · exact h
          have hm : (y :: r).getD j (8, 0, 0) ∈ y :: r := by
            rw [List.getD_eq_getElem?_getD, List.getElem?_eq_getElem hj]
            exact List.getElem_mem hj
          exact nh_le_ok (List.all_eq_true.mp ha _ hm) hx
        · cases h
/-- what may be written at lo .. hi -/
def nh_wr (els : List nhV) (lo hi : Int) (w : nhV) : Bool := match els with
  | [x] => nh_le w x
  | _ => if lo = hi then nh_le w (els.getD lo.toNat (8, 0, 0)) else els.all (fun y => nh_le w y)
theorem nh_wr_ok {Γ : Nat → Int} {g : Nat → Int32} {els : List nhV} {lo hi : Int} {w : nhV} {j : Nat} {x : Value} (h : nh_wr els lo hi w = true) (h1 : lo ≤ j) (h2 : (j : Int) ≤ hi) (hl : els.length = 1 ∨ j < els.length) (hx : nhOk Γ g w x) : nhOk Γ g (nh_el els j) x := by
  unfold nh_wr at h
  split at h
  · exact nh_le_ok h hx
  · rename_i hne
    have he : nh_el els j = els.getD j (8, 0, 0) := by
      unfold nh_el
      split
      · rename_i y
        exact absurd rfl (hne y)
      · rfl
    rw [he]
    split at h
    · rw [show lo.toNat = j by omega] at h
      exact nh_le_ok h hx
    · have hj : j < els.length := by
        rcases hl with h | h
        · exfalso
          match els, h with
          | [y], _ => exact hne y rfl
        · exact h
      have hm : els.getD j (8, 0, 0) ∈ els := by
        rw [List.getD_eq_getElem?_getD, List.getElem?_eq_getElem hj]
        exact List.getElem_mem hj
      exact nh_le_ok (List.all_eq_true.mp h _ hm) hx
/-- which instruction reads, writes which array type -/
def nh_aI (i : Instr) (ti : Nat) : Bool := match i, ti with
  | .iaload, 0 => true
  | .baload, 1 => true
  | .baload, 3 => true
  | .laload, 2 => true
  | .aaload, 4 => true
  | _, _ => false
/-- what is kept of a value written by it -/
def nh_sI (i : Instr) (ti : Nat) (w : nhV) : Option nhV := match i, ti with
  | .iastore, 0 => if nh_cat w = 0 then some w else none
  | .bastore, 1 => if nh_cat w = 0 then some (0, -128, 127) else none
  | .bastore, 3 => if nh_cat w = 0 then some (0, 0, 1) else none
  | .lastore, 2 => if nh_cat w = 1 then some w else none
  | _, _ => none
theorem nh_ix {j : Int32} {n : Nat} (h1 : 0 ≤ j.toInt) (h2 : j.toInt < n) : ¬ (j < 0 ∨ n ≤ j.toNatClampNeg) ∧ (j.toNatClampNeg : Int) = j.toInt := by
  obtain ⟨k, hk, e, ek⟩ := nh_nI h1
  have hc : j.toNatClampNeg = k := by rw [e]; exact nI_clamp hk
  exact ⟨(vp_in_iff (x := j) (n := n)).mpr ⟨h1, h2⟩, by rw [hc]; omega⟩
section NH13
variable {p : Program} {l : Launch} {e : Env} {R : Room} {s : State} {m : MethodId} {args : Array Value} {below : List Frame} {meth : Method} {c : Code} {Q : State → Prop}
variable {cc : ByteArray} {E : nhE} {nL : Nat} {pu : Bool} {pc own : Nat} {S : nhS} {ρ0 : List Value}
theorem nh_aldW {H : Heap} {locs : List Loc} {ls : Array Slot} {rest : List Value} {cells slots : Nat} {D : nhD} (hx : p.tables.exec = Jvm.exec) (hb : c.code = cc) (hK : nhK D s) {i : Instr} {ti n a : Nat} (hi : nh_aI i ti = true) {z : Nat → Value} (ha : H[a]? = some (arrV (D.2.2 ti) n z)) {j : Int32} (h1 : 0 ≤ j.toInt) (h2 : j.toInt < n) (hd : decode cc pc = .ok (i, 1))
    (k : W p l e R s m args below meth c H locs cells slots Q (F0 m (pc + 1) ls (z j.toNatClampNeg :: rest))) : W p l e R s m args below meth c H locs cells slots Q (F0 m pc ls (.int j :: .ref a :: rest)) := by
  have hin := (nh_ix h1 h2).1
  have hlt : j.toNatClampNeg < n := Nat.not_le.mp fun q => hin (Or.inr q)
  have hs : ¬ (j < 0 ∨ (arrV (D.2.2 ti) n z).slots.size ≤ j.toNatClampNeg) := by rw [arrV_size]; exact hin
  have hr := arrV_read (D.2.2 ti) z hlt
  unfold nh_aI at hi
  split at hi
  · exact W.iald hx hb ha ((hK.2 0 .int rfl).1 n z) (fun q => by cases q) hs hr rfl rfl hd k
  · exact W.bald hx hb ha ((hK.2 1 .byte rfl).1 n z) (fun q => by cases q) hs hr rfl rfl hd k
  · exact W.zald hx hb ha ((hK.2 3 .boolean rfl).1 n z) (fun q => by cases q) hs hr rfl rfl hd k
  · exact W.lald hx hb ha ((hK.2 2 .long rfl).1 n z) (fun q => by cases q) hs hr rfl rfl hd k
  · exact W.aald hx hb ha ((hK.2 4 _ rfl).1 n z) rfl (fun q => by cases q) hs hr rfl rfl hd k
  · cases hi
theorem nh_and1 (x : Int32) : 0 ≤ (x &&& 1).toInt ∧ (x &&& 1).toInt ≤ 1 := nh_andR x (y := 1) (by decide)
theorem nh_astW {Γ : Nat → Int} {g : Nat → Int32} {H : Heap} {locs : List Loc} {ls : Array Slot} {rest : List Value} {cells slots : Nat} {D : nhD} (hx : p.tables.exec = Jvm.exec) (hb : c.code = cc) (hK : nhK D s) {i : Instr} {ti n a : Nat} {w w' : nhV} (hi : nh_sI i ti w = some w') {x : Value} (hw : nhOk Γ g w x) {z : Nat → Value} (ha : H[a]? = some (arrV (D.2.2 ti) n z)) {j : Int32} (h1 : 0 ≤ j.toInt) (h2 : j.toInt < n) (hd : decode cc pc = .ok (i, 1))
    (k : ∀ (H' : Heap) (x' : Value), nhOk Γ g w' x' → H'[a]? = some (arrV (D.2.2 ti) n (updV z j.toNatClampNeg x')) → H'.size = H.size → (∀ q : Nat, q ≠ a → H'[q]? = H[q]?) → W p l e R s m args below meth c H' (locs ++ [⟨a, j.toNatClampNeg⟩]) cells slots Q (F0 m (pc + 1) ls rest)) : W p l e R s m args below meth c H locs cells slots Q (F0 m pc ls (x :: .int j :: .ref a :: rest)) := by
  have hin := (nh_ix h1 h2).1
  have hs : ¬ (j < 0 ∨ (arrV (D.2.2 ti) n z).slots.size ≤ j.toNatClampNeg) := by rw [arrV_size]; exact hin
  have hc := nh_cat_ok hw
  unfold nh_sI at hi
  split at hi
  · split at hi
    · rename_i q
      cases hi
      obtain ⟨b, rfl⟩ := hc.1 q
      exact W.iast hx hb ha ((hK.2 0 .int rfl).1 n z) (fun q => by cases q) hs rfl rfl hd (fun H' e1 e2 e3 => k H' _ hw (by rw [e1, arrV_store]) e2 e3)
    · cases hi
  · split at hi
    · rename_i q
      cases hi
      obtain ⟨b, rfl⟩ := hc.1 q
      have hr := nh_i2b_rng b
      exact W.bast hx hb ha ((hK.2 1 .byte rfl).1 n z) (fun q => by cases q) hs rfl rfl hd (fun H' e1 e2 e3 => k H' (.int b.toInt8.toInt32) ⟨_, rfl, hr.1, hr.2⟩ (by rw [e1, arrV_store]; rfl) e2 e3)
    · cases hi
  · split at hi
    · rename_i q
      cases hi
      obtain ⟨b, rfl⟩ := hc.1 q
      have hr := nh_and1 b
      exact W.zast hx hb ha ((hK.2 3 .boolean rfl).1 n z) (fun q => by cases q) hs rfl rfl hd (fun H' e1 e2 e3 => k H' (.int (b &&& 1)) ⟨_, rfl, hr.1, hr.2⟩ (by rw [e1, arrV_store]; rfl) e2 e3)
    · cases hi
  · split at hi
    · rename_i q
      cases hi
      obtain ⟨b, rfl⟩ := hc.2.1 q
      exact W.last hx hb ha ((hK.2 2 .long rfl).1 n z) (fun q => by cases q) hs rfl rfl hd (fun H' e1 e2 e3 => k H' _ hw (by rw [e1, arrV_store]) e2 e3)
    · cases hi
  · cases hi
/-- an array's read -/
def nh_sAld (kd : List nhKd) (S : nhS) (i : Instr) (len : Nat) : Option nhS := match S.2.2.1 with
  | x :: o :: rest => match S.1[o]?, S.1[x]? with
    | some v, some w => match nh_kd kd v, nh_iv w with
      | some k, some q => if k.1 = 1 ∧ nh_aI i k.2.1 = true ∧ len = 1 ∧ 0 ≤ q.1 ∧ q.2 < k.2.2.1 ∧ (k.2.2.2.length = 1 ∨ k.2.2.1 ≤ k.2.2.2.length) then (match nh_rd k.2.2.2 q.1 q.2 with
        | some u => some (nh_push S rest u)
        | none => none) else none
      | _, _ => none
    | _, _ => none
  | _ => none
theorem nh_sAld_ok (hF : nhFx p c s m args cc nL own E.1) {i : Instr} {len : Nat} (hd : decode cc pc = .ok (i, len)) {S' : nhS} (h : nh_sAld E.2.1 S i len = some S')
    (k : nhGo p l e R s m args below meth c Q E nL pu (pc + len) S' ρ0) : nhGo p l e R s m args below meth c Q E nL pu pc S ρ0 := by
  intro ρ H locs ls st hρ hR
  obtain ⟨hx, hb, hml, ⟨C, hC, hown⟩, hts, hK⟩ := hF
  have hs := hR.2.2.1
  unfold nh_sAld at h
  split at h
  · rename_i x o rest hst
    rw [hst] at hs
    obtain ⟨vv, st1, rfl, hx1, hs1⟩ := hs.inv1
    obtain ⟨vx, st2, rfl, ho, hs2⟩ := hs1.inv1
    split at h
    · rename_i v w hv hw
      split at h
      · rename_i kk q hkk hq
        split at h
        · rename_i hc
          obtain ⟨c1, c2, rfl, c4, c5, c6⟩ := hc
          split at h
          · rename_i u hu
            cases h
            obtain ⟨x', g1, g2⟩ := hR.1.2 o v hv
            rw [ho] at g1; cases g1
            obtain ⟨x', g3, g4⟩ := hR.1.2 x w hw
            rw [hx1] at g3; cases g3
            obtain ⟨a, rfl, ha1, ha2, ha3, ha4⟩ := nh_kd_ok hkk g2 hR.2.2.2.2.2.2.1
            obtain ⟨j, rfl, j1, j2⟩ := nh_iv_ok hq g4
            obtain ⟨t, ti, n, els⟩ := kk
            dsimp only at c1 c2 c5 c6 hu
            subst c1
            obtain ⟨z, hz1, hz2⟩ := ha4
            dsimp only at hz1 hz2
            have hix := nh_ix (j := j) (n := n) (by omega) (by omega)
            refine nh_aldW hx hb hK c2 hz1 (by omega) (by omega) hd (k (ρ ++ [z j.toNatClampNeg]) H locs ls _ (hρ.tr (nhX.push ρ _)) (nh_push_ok hR hs2 ?_))
            exact nh_rd_ok hu (by omega) (by omega) (by omega) (hz2 _ (by omega))
          · cases h
        · cases h
      · cases h
    · cases h
  · cases h
/-- an array's write -/
def nh_sAst (kd : List nhKd) (S : nhS) (i : Instr) (len : Nat) : Option nhS := match S.2.2.1 with
  | y :: x :: o :: rest => match S.1[o]?, S.1[x]?, S.1[y]? with
    | some v, some w, some u => match nh_kd kd v, nh_iv w with
      | some k, some q => if k.1 = 1 ∧ len = 1 ∧ 0 ≤ q.1 ∧ q.2 < k.2.2.1 ∧ (k.2.2.2.length = 1 ∨ k.2.2.1 ≤ k.2.2.2.length) then (match nh_sI i k.2.1 u with
        | some u' => if nh_wr k.2.2.2 q.1 q.2 u' = true then some (S.1, S.2.1, rest, S.2.2.2.1.filter (nh_kpM S.1 v.2.1 99 0 0), S.2.2.2.2) else none
        | none => none) else none
      | _, _ => none
    | _, _, _ => none
  | _ => none
theorem nh_sAst_ok (hF : nhFx p c s m args cc nL own E.1) {i : Instr} {len : Nat} (hd : decode cc pc = .ok (i, len)) {S' : nhS} (h : nh_sAst E.2.1 S i len = some S')
    (k : nhGo p l e R s m args below meth c Q E nL false (pc + len) S' ρ0) : nhGo p l e R s m args below meth c Q E nL false pc S ρ0 := by
  intro ρ H locs ls st hρ hR
  obtain ⟨hx, hb, hml, ⟨C, hC, hown⟩, hts, hK⟩ := hF
  have hs := hR.2.2.1
  unfold nh_sAst at h
  split at h
  · rename_i y x o rest hst
    rw [hst] at hs
    obtain ⟨vy, st0, rfl, hy1, hs0⟩ := hs.inv1
    obtain ⟨vv, st1, rfl, hx1, hs1⟩ := hs0.inv1
    obtain ⟨vx, st2, rfl, ho, hs2⟩ := hs1.inv1
    split at h
    · rename_i v w u hv hw hu
      split at h
      · rename_i kk q hkk hq
        split at h
        · rename_i hc
          obtain ⟨c1, rfl, c4, c5, c6⟩ := hc
          split at h
          · rename_i u' hu'
            split at h
            · rename_i hwr
              cases h
              obtain ⟨x', g1, g2⟩ := hR.1.2 o v hv
              rw [ho] at g1; cases g1
              obtain ⟨x', g3, g4⟩ := hR.1.2 x w hw
              rw [hx1] at g3; cases g3
              obtain ⟨x', g5, g6⟩ := hR.1.2 y u hu
              rw [hy1] at g5; cases g5
              obtain ⟨a, rfl, ha1, ha2, ha3, ha4⟩ := nh_kd_ok hkk g2 hR.2.2.2.2.2.2.1
              obtain ⟨j, rfl, j1, j2⟩ := nh_iv_ok hq g4
              obtain ⟨t, ti, n, els⟩ := kk
              dsimp only at c1 c5 c6 hu' hwr
              subst c1
              obtain ⟨z, hz1, hz2⟩ := ha4
              dsimp only at hz1 hz2
              have hix := nh_ix (j := j) (n := n) (by omega) (by omega)
              refine nh_astW hx hb hK hu' g6 hz1 (by omega) (by omega) hd (fun H' x2 ok2 e1 e2 e3 => k ρ H' _ ls st2 hρ ?_)
              obtain ⟨b1, b2, b3, b4, b5, b6, b7, b8⟩ := hR
              refine ⟨b1, b2, hs2, fun d hd' => ?_, b5, b6, ?_, b8.put ha2 e2 e3⟩
              · obtain ⟨d1, d2⟩ := List.mem_filter.mp hd'
                obtain ⟨a2, y, cell2, m1, m2, m3, m4⟩ := b4 d d1
                unfold nh_kpM at d2
                rcases Bool.or_eq_true _ _ ▸ d2 with d3 | d3
                · have hne := nh_kpM_far b1 d3 m1 ha1
                  exact ⟨a2, y, cell2, m1, m2, by rw [e3 a2 hne]; exact m3, m4⟩
                · simp at d3
              · refine b7.put ha3 ⟨updV z j.toNatClampNeg x2, e1, fun i' hi' => ?_⟩ e3
                dsimp only
                by_cases ej : i' = j.toNatClampNeg
                · subst ej
                  simp only [updV, if_true]
                  exact nh_wr_ok hwr (by omega) (by omega) (by omega) ok2
                · simp only [updV, if_neg ej]
                  exact hz2 i' hi'
            · cases h
          · cases h
        · cases h
      · cases h
    · cases h
  · cases h
/-- an array's length -/
def nh_sLen (kd : List nhKd) (S : nhS) (i : Instr) (len : Nat) : Option nhS := match i with
  | .arraylength => match S.2.2.1 with
    | o :: rest => match S.1[o]? with
      | some v => match nh_kd kd v with
        | some k => if k.1 = 1 ∧ len = 1 ∧ k.2.2.1 < 2147483648 ∧ k.2.1 < 5 then some (nh_push S rest (0, k.2.2.1, k.2.2.1)) else none
        | none => none
      | none => none
    | _ => none
  | _ => none
theorem nh_sLen_ok (hF : nhFx p c s m args cc nL own E.1) {i : Instr} {len : Nat} (hd : decode cc pc = .ok (i, len)) {S' : nhS} (h : nh_sLen E.2.1 S i len = some S')
    (k : nhGo p l e R s m args below meth c Q E nL pu (pc + len) S' ρ0) : nhGo p l e R s m args below meth c Q E nL pu pc S ρ0 := by
  intro ρ H locs ls st hρ hR
  obtain ⟨hx, hb, hml, ⟨C, hC, hown⟩, hts, hK⟩ := hF
  have hs := hR.2.2.1
  unfold nh_sLen at h
  split at h
  · split at h
    · rename_i o rest hst
      rw [hst] at hs
      obtain ⟨vx, st2, rfl, ho, hs2⟩ := hs.inv1
      split at h
      · rename_i v hv
        split at h
        · rename_i kk hkk
          split at h
          · rename_i hc
            obtain ⟨c1, rfl, c3, c4⟩ := hc
            cases h
            obtain ⟨x', g1, g2⟩ := hR.1.2 o v hv
            rw [ho] at g1; cases g1
            obtain ⟨a, rfl, ha1, ha2, ha3, ha4⟩ := nh_kd_ok hkk g2 hR.2.2.2.2.2.2.1
            obtain ⟨t, ti, n, els⟩ := kk
            dsimp only at c1 c3 c4
            subst c1
            obtain ⟨z, hz1, hz2⟩ := ha4
            dsimp only at hz1 hz2
            have hn : (nI n).toInt = (n : Int) := nI_toInt (by omega)
            have hty : ∃ ty, nhTy[ti]? = some ty := by
              match ti, c4 with
              | 0, _ => exact ⟨_, rfl⟩
              | 1, _ => exact ⟨_, rfl⟩
              | 2, _ => exact ⟨_, rfl⟩
              | 3, _ => exact ⟨_, rfl⟩
              | 4, _ => exact ⟨_, rfl⟩
            obtain ⟨ty, hty⟩ := hty
            refine W.alen (n := nI n) hx hb hz1 ((hK.2 ti ty hty).1 n z) (by rw [arrV_size]; rfl) rfl rfl hd (k (ρ ++ [.int (nI n)]) H locs ls _ (hρ.tr (nhX.push ρ _)) (nh_push_ok (v := (0, (n : Int), (n : Int))) hR hs2 ⟨nI n, rfl, by dsimp only; omega, by dsimp only; omega⟩))
          · cases h
        · cases h
      · cases h
    · cases h
  · cases h
/-- constants -/
def nh_sLdc (own : Nat) (S : nhS) (i : Instr) (len : Nat) : Option nhS := match i with
  | .ldc idx => match (nhIc.getD own []).find? (fun q => q.1 == idx) with
    | some q => if len = 2 then some (nh_push S S.2.2.1 (nh_c32 q.2.1)) else none
    | none => none
  | .ldc_w idx => match (nhIc.getD own []).find? (fun q => q.1 == idx) with
    | some q => if len = 3 then some (nh_push S S.2.2.1 (nh_c32 q.2.1)) else none
    | none => none
  | .ldc2_w idx => match (nhLc.getD own []).find? (fun q => q.1 == idx) with
    | some q => if len = 3 then some (nh_push S S.2.2.1 (nh_c64 q.2.1)) else none
    | none => none
  | _ => none
theorem nh_sLdc_ok (hF : nhFx p c s m args cc nL own E.1) {i : Instr} {len : Nat} (hd : decode cc pc = .ok (i, len)) {S' : nhS} (h : nh_sLdc own S i len = some S')
    (k : nhGo p l e R s m args below meth c Q E nL pu (pc + len) S' ρ0) : nhGo p l e R s m args below meth c Q E nL pu pc S ρ0 := by
  intro ρ H locs ls st hρ hR
  obtain ⟨hx, hb, hml, ⟨C, hC, hown⟩, hts, hK⟩ := hF
  unfold nh_sLdc at h
  split at h
  · rename_i idx
    split at h
    · rename_i q hq
      split at h
      · rename_i hl
        cases h; subst hl
        have h1 : q.1 = idx := by simpa using List.find?_some hq
        have h2 := nh_rows nhIc_all (List.mem_of_find?_eq_some hq)
        unfold nh_icB at h2
        rw [hC] at h2
        have h3 := nh_wd_ok h2
        rw [h1] at h3
        exact lv_ldc hx hb hown (hts _ h3) hd (k (ρ ++ [_]) H locs ls _ (hρ.tr (nhX.push ρ _)) (nh_push_ok hR hR.2.2.1 (nh_c32_ok _ _ _)))
      · cases h
    · cases h
  · rename_i idx
    split at h
    · rename_i q hq
      split at h
      · rename_i hl
        cases h; subst hl
        have h1 : q.1 = idx := by simpa using List.find?_some hq
        have h2 := nh_rows nhIc_all (List.mem_of_find?_eq_some hq)
        unfold nh_icB at h2
        rw [hC] at h2
        have h3 := nh_wd_ok h2
        rw [h1] at h3
        exact lv_ldcw hx hb hown (hts _ h3) hd (k (ρ ++ [_]) H locs ls _ (hρ.tr (nhX.push ρ _)) (nh_push_ok hR hR.2.2.1 (nh_c32_ok _ _ _)))
      · cases h
    · cases h
  · rename_i idx
    split at h
    · rename_i q hq
      split at h
      · rename_i hl
        cases h; subst hl
        have h1 : q.1 = idx := by simpa using List.find?_some hq
        have h2 := nh_rows nhLc_all (List.mem_of_find?_eq_some hq)
        unfold nh_lcB at h2
        rw [hC] at h2
        have h3 := nh_wd_ok h2
        rw [h1] at h3
        exact lv_ldc2 hx hb hown (hts _ h3) hd (k (ρ ++ [_]) H locs ls _ (hρ.tr (nhX.push ρ _)) (nh_push_ok hR hR.2.2.1 (nh_c64_ok _ _ _)))
      · cases h
    · cases h
  · cases h
end NH13
