/-! A WALK WITH KNOWN VALUES: (0, c) an int, (1, c) a long, (2, k) the cell B + k, (3, _) null. Cells: (0, class, fields), (1, array type, elements) -/
abbrev ceV : Type := Nat × Int
/-- ints that are not known: (4 + k, lo and hi in one number) the k-th, of which lo and hi are known; (10 + k, n) the k-th >>> n; (16 + k, n) the k-th >> n; from 22 and from 28 their bytes; (34 + k, lo and hi) the k-th and one more -/
def ce_blo (x : Int) : Int := x / 4294967296
def ce_bhi (x : Int) : Int := x % 4294967296 - 2147483648
def ce_clp (x : Int) (a : Int32) : Int32 := if ce_blo x ≤ a.toInt ∧ a.toInt ≤ ce_bhi x then a else Int32.ofInt (ce_blo x)
def ce_un (ρ : Nat → Int32) (t : Nat) (x : Int) : Int32 :=
  if t < 10 then ce_clp x (ρ (t - 4))
  else if t < 16 then (nh_bS .iushr (ρ (t - 10)) (Int32.ofInt x)).getD 0
  else if t < 22 then (nh_bS .ishr (ρ (t - 16)) (Int32.ofInt x)).getD 0
  else if t < 28 then ((nh_bS .iushr (ρ (t - 22)) (Int32.ofInt x)).getD 0).toInt8.toInt32
  else if t < 34 then ((nh_bS .ishr (ρ (t - 28)) (Int32.ofInt x)).getD 0).toInt8.toInt32
  else ce_clp x (ρ (t - 34)) + 1
def ce_c (ρ : Nat → Int32) (B : Nat) (v : ceV) : Value := match v.1 with
  | 0 => .int (Int32.ofInt v.2)
  | 1 => .long (Int64.ofInt v.2)
  | 2 => .ref (B + v.2.toNat)
  | 3 => .null
  | _ => .int (ce_un ρ v.1 v.2)
theorem ce_cU (ρ : Nat → Int32) (B : Nat) {t : Nat} (h : 4 ≤ t) (x : Int) : ce_c ρ B (t, x) = .int (ce_un ρ t x) := by
  obtain ⟨n, rfl⟩ : ∃ n, t = n + 4 := ⟨t - 4, by omega⟩
  rfl
theorem ce_inc1 {ρ : Nat → Int32} {t : Nat} {x : Int} (h1 : 4 ≤ t) (h2 : t < 10) : ce_un ρ (t + 30) x = ce_un ρ t x + 1 := by
  unfold ce_un
  rw [if_neg (by omega), if_neg (by omega), if_neg (by omega), if_neg (by omega), if_neg (by omega), if_pos h2, show t + 30 - 34 = t - 4 by omega]
def ce_full : Int := -9223372032559808513
theorem ce_clp_full (a : Int32) : ce_clp ce_full a = a := by
  have h1 := a.le_toInt
  have h2 := a.toInt_lt
  unfold ce_clp
  rw [if_pos]
  have e1 : ce_blo ce_full = -2147483648 := by decide
  have e2 : ce_bhi ce_full = 2147483647 := by decide
  rw [e1, e2]
  constructor <;> omega
theorem ce_clp_in {x : Int} {a : Int32} (h1 : ce_blo x ≤ a.toInt) (h2 : a.toInt ≤ ce_bhi x) : ce_clp x a = a := by
  unfold ce_clp
  rw [if_pos ⟨h1, h2⟩]
theorem ce_clp_bd {x : Int} (a : Int32) (h1 : -2147483648 ≤ ce_blo x) (h2 : ce_blo x ≤ ce_bhi x) (h3 : ce_bhi x < 2147483648) : ce_blo x ≤ (ce_clp x a).toInt ∧ (ce_clp x a).toInt ≤ ce_bhi x := by
  unfold ce_clp
  split
  · rename_i h
    exact h
  · rw [Int32.toInt_ofInt_of_le (by omega) (by omega)]
    omega
abbrev ceC : Type := Nat × Nat × List ceV
def ceCell (D : nhD) (ρ : Nat → Int32) (B : Nat) (c : ceC) (a : Nat) (H : Heap) : Prop := match c.1 with
  | 0 => t_OB a (D.1 c.2.1) c.2.2.length (D.2.1 c.2.1) H (fun k => ce_c ρ B (c.2.2.getD k (3, 0)))
  | _ => H[a]? = some (arrV (D.2.2 c.2.1) c.2.2.length (fun j => ce_c ρ B (c.2.2.getD j (3, 0))))
/-- the cells made, sixteen to a row, and how many -/
abbrev ceHp : Type := Nat × List (List ceC)
def ce_len (hp : ceHp) : Nat := hp.1
def ce_get (hp : ceHp) (i : Nat) : Option ceC := match hp.2[i / 16]? with
  | some r => r[i % 16]?
  | none => none
def ce_set (hp : ceHp) (i : Nat) (c : ceC) : ceHp := (hp.1, match hp.2[i / 16]? with
  | some r => hp.2.set (i / 16) (r.set (i % 16) c)
  | none => hp.2)
def ce_push (hp : ceHp) (c : ceC) : ceHp := (hp.1 + 1, if hp.1 % 16 = 0 then hp.2 ++ [[c]] else match hp.2[hp.1 / 16]? with
  | some r => hp.2.set (hp.1 / 16) (r ++ [c])
  | none => hp.2)
/-- there is room for one more where it is looked for -/
def ce_ok (hp : ceHp) : Bool := if hp.1 % 16 = 0 then decide (hp.2.length = hp.1 / 16) else match hp.2[hp.1 / 16]? with
  | some r => decide (r.length = hp.1 % 16)
  | none => false
theorem ce_set_get {hp : ceHp} {i : Nat} {c c' : ceC} (h : ce_get hp i = some c) (j : Nat) : ce_get (ce_set hp i c') j = if j = i then some c' else ce_get hp j := by
  obtain ⟨n, h2⟩ := hp
  unfold ce_get at h
  unfold ce_set ce_get
  dsimp only at h ⊢
  split at h
  · rename_i r hr
    have l1 := (List.getElem?_eq_some_iff.mp hr).1
    have l2 := (List.getElem?_eq_some_iff.mp h).1
    by_cases e : j / 16 = i / 16
    · rw [e, List.getElem?_set_self l1]
      dsimp only
      by_cases e2 : j % 16 = i % 16
      · have : j = i := by omega
        rw [e2, List.getElem?_set_self l2, if_pos this]
      · rw [List.getElem?_set_ne (Ne.symm e2), if_neg (fun q => e2 (by rw [q])), hr]
    · rw [List.getElem?_set_ne (Ne.symm e), if_neg (fun q => e (by rw [q]))]
  · cases h
theorem ce_push_get {hp : ceHp} {c : ceC} (h : ce_ok hp = true) (j : Nat) : ce_get (ce_push hp c) j = if j = hp.1 then some c else ce_get hp j := by
  obtain ⟨n, h2⟩ := hp
  unfold ce_ok at h
  unfold ce_push ce_get
  dsimp only at h ⊢
  split at h
  · rename_i e
    have h := of_decide_eq_true h
    rw [if_pos e]
    by_cases e1 : j / 16 < h2.length
    · rw [List.getElem?_append_left e1, if_neg (by omega)]
    · rw [List.getElem?_append_right (by omega)]
      have hn : h2[j / 16]? = none := List.getElem?_eq_none (by omega)
      rw [hn]
      by_cases e2 : j / 16 = h2.length
      · rw [e2, Nat.sub_self, List.getElem?_cons_zero]
        dsimp only
        by_cases e3 : j % 16 = 0
        · rw [if_pos (by omega), e3]; rfl
        · rw [if_neg (by omega), List.getElem?_eq_none (by simp; omega)]
      · rw [List.getElem?_eq_none (by simp; omega), if_neg (by omega)]
  · rename_i e
    split at h
    · rename_i r hr
      have h := of_decide_eq_true h
      have l1 := (List.getElem?_eq_some_iff.mp hr).1
      rw [if_neg e]
      by_cases e1 : j / 16 = n / 16
      · rw [e1, List.getElem?_set_self l1, hr]
        dsimp only
        by_cases e2 : j % 16 < r.length
        · rw [List.getElem?_append_left e2, if_neg (by omega)]
        · rw [List.getElem?_append_right (by omega)]
          by_cases e3 : j = n
          · rw [if_pos e3, show j % 16 - r.length = 0 by omega]; rfl
          · rw [if_neg e3, List.getElem?_eq_none (by simp; omega), List.getElem?_eq_none (by omega)]
      · rw [List.getElem?_set_ne (Ne.symm e1), if_neg (by omega)]
    · cases h
def ceH (D : nhD) (ρ : Nat → Int32) (B : Nat) (H0 : Heap) (hp : ceHp) (H : Heap) : Prop := H.size = B + ce_len hp ∧ (∀ q : Nat, q < B → H[q]? = H0[q]?) ∧ ∀ (i : Nat) (c : ceC), ce_get hp i = some c → ceCell D ρ B c (B + i) H
theorem ceCell.kept {D : nhD} {ρ : Nat → Int32} {B : Nat} {c : ceC} {a : Nat} {H H' : Heap} (h : ceCell D ρ B c a H) (hq : H'[a]? = H[a]?) : ceCell D ρ B c a H' := by
  unfold ceCell at h ⊢
  split at h
  · exact h.kept hq
  · exact hq.trans h
theorem ceCell.lt {D : nhD} {ρ : Nat → Int32} {B : Nat} {c : ceC} {a : Nat} {H : Heap} (h : ceCell D ρ B c a H) : a < H.size := by
  unfold ceCell at h
  split at h
  · obtain ⟨cell, h1, -⟩ := h
    exact (Array.getElem?_eq_some_iff.mp h1).1
  · exact (Array.getElem?_eq_some_iff.mp h).1
theorem ceH.put {D : nhD} {ρ : Nat → Int32} {B : Nat} {H0 : Heap} {hp : ceHp} {H H' : Heap} {i : Nat} {c c' : ceC} (h : ceH D ρ B H0 hp H) (hi : ce_get hp i = some c) (hc : ceCell D ρ B c' (B + i) H') (z : H'.size = H.size) (ho : ∀ q : Nat, q ≠ B + i → H'[q]? = H[q]?) : ceH D ρ B H0 (ce_set hp i c') H' := by
  obtain ⟨h1, h2, h3⟩ := h
  refine ⟨by rw [z, h1]; rfl, fun q hq => by rw [ho q (by omega)]; exact h2 q hq, fun j d hj => ?_⟩
  rw [ce_set_get hi] at hj
  split at hj
  · rename_i e
    subst e
    cases hj
    exact hc
  · rename_i e
    exact (h3 j d hj).kept (ho _ (by omega))
theorem ceH.push {D : nhD} {ρ : Nat → Int32} {B : Nat} {H0 : Heap} {hp : ceHp} {H H' : Heap} {c : ceC} (h : ceH D ρ B H0 hp H) (hok : ce_ok hp = true) (hc : ceCell D ρ B c (B + ce_len hp) H') (z : H'.size = H.size + 1) (ho : ∀ q : Nat, q < H.size → H'[q]? = H[q]?) : ceH D ρ B H0 (ce_push hp c) H' := by
  obtain ⟨h1, h2, h3⟩ := h
  refine ⟨by rw [z, h1]; show _ = B + (hp.1 + 1); unfold ce_len; omega, fun q hq => by rw [ho q (by omega)]; exact h2 q hq, fun j d hj => ?_⟩
  rw [ce_push_get hok] at hj
  split at hj
  · rename_i e
    subst e
    cases hj
    exact hc
  · exact (h3 j d hj).kept (ho _ (h3 j d hj).lt)
def ceRel (D : nhD) (ρ : Nat → Int32) (B : Nat) (H0 : Heap) (nL : Nat) (lo : List (Nat × ceV)) (hp : ceHp) (H : Heap) (locs : List Loc) (ls : Array Slot) : Prop :=
  ls.size = nL ∧ lv_wf ls ∧ (∀ q ∈ lo, ls[q.1]? = some (.val (ce_c ρ B q.2))) ∧ ceH D ρ B H0 hp H ∧ ∀ q ∈ locs, B ≤ q.base
theorem ceRel.has {D : nhD} {ρ : Nat → Int32} {B : Nat} {H0 : Heap} {nL : Nat} {lo : List (Nat × ceV)} {hp : ceHp} {H : Heap} {locs : List Loc} {ls : Array Slot} (h : ceRel D ρ B H0 nL lo hp H locs ls) : lv_has ls nL (lo.map (fun q => (q.1, ce_c ρ B q.2))) := ⟨h.1, h.2.1, fun q hq => by
  obtain ⟨r, hr, rfl⟩ := List.mem_map.mp hq
  exact h.2.2.1 r hr⟩
def ce_opU (i : Instr) (y x : ceV) : Option (Nat × ceV) := match i with
  | .iushr => if y.1 = 0 ∧ 4 ≤ x.1 ∧ x.1 < 10 ∧ x.2 = ce_full then some (2, (x.1 + 6, y.2)) else none
  | .ishr => if y.1 = 0 ∧ 4 ≤ x.1 ∧ x.1 < 10 ∧ x.2 = ce_full then some (2, (x.1 + 12, y.2)) else none
  | .iadd => if x.1 = 0 ∧ x.2 = 0 ∧ 4 ≤ y.1 then some (2, y) else if y.1 = 0 ∧ y.2 = 1 ∧ 4 ≤ x.1 ∧ x.1 < 10 then some (2, (x.1 + 30, x.2)) else none
  | _ => none
/-- pure operations on known values -/
def ce_op (i : Instr) (len : Nat) (st : List ceV) : Option (Nat × ceV) := match i with
  | .iconst n => if len = 1 then some (0, (0, (Int32.ofInt n).toInt)) else none
  | .bipush n => if len = 2 then some (0, (0, (Int8.ofInt n).toInt32.toInt)) else none
  | .sipush n => if len = 3 then some (0, (0, (Int16.ofInt n).toInt32.toInt)) else none
  | .lconst n => if len = 1 then some (0, (1, (Int64.ofNat (n : Nat)).toInt)) else none
  | .ineg => match st with
    | (0, x) :: _ => if len = 1 then some (1, (0, (-Int32.ofInt x).toInt)) else none
    | _ => none
  | .i2b => match st with
    | (0, x) :: _ => if len = 1 then some (1, (0, ((Int32.ofInt x).toInt8.toInt32).toInt)) else none
    | (t, x) :: _ => if len = 1 ∧ 10 ≤ t ∧ t < 22 then some (1, (t + 12, x)) else none
    | _ => none
  | .i2c => match st with
    | (0, x) :: _ => if len = 1 then some (1, (0, (((Int32.ofInt x).toUInt32 % 65536).toInt32).toInt)) else none
    | _ => none
  | .i2l => match st with
    | (0, x) :: _ => if len = 1 then some (1, (1, (Int32.ofInt x).toInt64.toInt)) else none
    | _ => none
  | .l2i => match st with
    | (1, x) :: _ => if len = 1 then some (1, (0, (Int64.ofInt x).toInt32.toInt)) else none
    | _ => none
  | .lcmp => match st with
    | (1, y) :: (1, x) :: _ => if len = 1 then some (2, (0, (lg_cmp (Int64.ofInt x) (Int64.ofInt y)).toInt)) else none
    | _ => none
  | i => match st with
    | (0, y) :: (0, x) :: _ => match nh_bS i (Int32.ofInt x) (Int32.ofInt y) with
      | some r => if len = 1 then some (2, (0, r.toInt)) else none
      | none => none
    | (1, y) :: (1, x) :: _ => match nh_lS i (Int64.ofInt x) (Int64.ofInt y) with
      | some r => if len = 1 then some (2, (1, r.toInt)) else none
      | none => none
    | (0, y) :: (1, x) :: _ => match nh_hS i (Int64.ofInt x) (Int32.ofInt y) with
      | some r => if len = 1 then some (2, (1, r.toInt)) else none
      | none => none
    | y :: x :: _ => if len = 1 then ce_opU i y x else none
    | _ => none
theorem ce_i (ρ : Nat → Int32) (B : Nat) (r : Int32) : ce_c ρ B (0, r.toInt) = .int r := by
  show Value.int (Int32.ofInt r.toInt) = _
  rw [fb_asI]
theorem ce_l (ρ : Nat → Int32) (B : Nat) (r : Int64) : ce_c ρ B (1, r.toInt) = .long r := by
  show Value.long (Int64.ofInt r.toInt) = _
  rw [Int64.ofInt_toInt]
section CE1
variable {p : Program} {l : Launch} {e : Env} {R : Room} {s : State} {m : MethodId} {args : Array Value} {below : List Frame} {meth : Method} {c : Code} {Q : State → Prop} {cc : ByteArray} {pc : Nat} {H : Heap} {locs : List Loc} {ls : Array Slot} {cells slots : Nat}
theorem ce_opU_ok (ρ : Nat → Int32) (B : Nat) (hx : p.tables.exec = Jvm.exec) (hb : c.code = cc) {i : Instr} {n : Nat} {y x : ceV} {st : List ceV} {v : ceV} (h : ce_opU i y x = some (n, v)) (hd : decode cc pc = .ok (i, 1))
    (k : W p l e R s m args below meth c H locs cells slots Q (F0 m (pc + 1) ls ((v :: (y :: x :: st).drop n).map (ce_c ρ B)))) : W p l e R s m args below meth c H locs cells slots Q (F0 m pc ls ((y :: x :: st).map (ce_c ρ B))) := by
  obtain ⟨yt, y⟩ := y
  obtain ⟨xt, x⟩ := x
  unfold ce_opU at h
  split at h
  · split at h
    · rename_i q
      cases h
      dsimp only at q
      obtain ⟨rfl, q1, q2, rfl⟩ := q
      rw [List.map_cons, ce_cU ρ B (by omega)] at k
      rw [List.map_cons, List.map_cons, ce_cU ρ B q1]
      have e : ce_un ρ xt ce_full = ρ (xt - 4) := by
        unfold ce_un
        rw [if_pos q2, ce_clp_full]
      have e2 : nh_bS .iushr (ρ (xt - 4)) (Int32.ofInt y) = some (ce_un ρ (xt + 6) y) := by
        unfold ce_un
        rw [if_neg (by omega), if_pos (by omega), show xt + 6 - 10 = xt - 4 by omega]
        rfl
      rw [e]
      exact nh_bW hx hb e2 hd k
    · cases h
  · split at h
    · rename_i q
      cases h
      dsimp only at q
      obtain ⟨rfl, q1, q2, rfl⟩ := q
      rw [List.map_cons, ce_cU ρ B (by omega)] at k
      rw [List.map_cons, List.map_cons, ce_cU ρ B q1]
      have e : ce_un ρ xt ce_full = ρ (xt - 4) := by
        unfold ce_un
        rw [if_pos q2, ce_clp_full]
      have e2 : nh_bS .ishr (ρ (xt - 4)) (Int32.ofInt y) = some (ce_un ρ (xt + 12) y) := by
        unfold ce_un
        rw [if_neg (by omega), if_neg (by omega), if_pos (by omega), show xt + 12 - 16 = xt - 4 by omega]
        rfl
      rw [e]
      exact nh_bW hx hb e2 hd k
    · cases h
  · split at h
    · rename_i q
      cases h
      dsimp only at q
      obtain ⟨rfl, rfl, q1⟩ := q
      rw [List.map_cons, ce_cU ρ B q1] at k
      rw [List.map_cons, List.map_cons, ce_cU ρ B q1]
      refine nh_bW (r := ce_un ρ yt y) hx hb ?_ hd k
      show some (Int32.ofInt 0 + ce_un ρ yt y) = _
      rw [show Int32.ofInt 0 = 0 from rfl, Int32.zero_add]
    · split at h
      · rename_i q
        cases h
        dsimp only at q
        obtain ⟨rfl, rfl, q1, q2⟩ := q
        rw [List.map_cons, ce_cU ρ B (by omega)] at k
        rw [List.map_cons, List.map_cons, ce_cU ρ B q1]
        refine nh_bW (r := ce_un ρ (xt + 30) x) hx hb ?_ hd k
        show some (ce_un ρ xt x + Int32.ofInt 1) = _
        rw [ce_inc1 q1 q2]
        rfl
      · cases h
  · cases h
theorem ce_op_ok (ρ : Nat → Int32) (B : Nat) (hx : p.tables.exec = Jvm.exec) (hb : c.code = cc) {i : Instr} {len n : Nat} {st : List ceV} {v : ceV} (h : ce_op i len st = some (n, v)) (hd : decode cc pc = .ok (i, len))
    (k : W p l e R s m args below meth c H locs cells slots Q (F0 m (pc + len) ls ((v :: st.drop n).map (ce_c ρ B)))) : W p l e R s m args below meth c H locs cells slots Q (F0 m pc ls (st.map (ce_c ρ B))) := by
  unfold ce_op at h
  split at h
  · split at h
    · rename_i q; cases h; subst q
      rw [List.map_cons, ce_i] at k
      exact lv_iconst hx hb hd rfl k
    · cases h
  · split at h
    · rename_i q; cases h; subst q
      rw [List.map_cons, ce_i] at k
      exact lv_bipush hx hb hd rfl k
    · cases h
  · split at h
    · rename_i q; cases h; subst q
      rw [List.map_cons, ce_i] at k
      exact lv_sipush hx hb hd rfl k
    · cases h
  · split at h
    · rename_i q; cases h; subst q
      rw [List.map_cons, ce_l] at k
      exact lv_lconst hx hb hd rfl k
    · cases h
  · split at h
    · split at h
      · rename_i q; cases h; subst q
        rw [List.map_cons, ce_i] at k
        exact lv_ineg hx hb hd k
      · cases h
    · cases h
  · split at h
    · split at h
      · rename_i q; cases h; subst q
        rw [List.map_cons, ce_i] at k
        exact lv_i2b hx hb hd rfl k
      · cases h
    · rename_i t x _ _
      split at h
      · rename_i q; cases h; obtain ⟨rfl, q1, q2⟩ := q
        rw [List.map_cons, ce_cU ρ B (by omega)] at k
        rw [List.map_cons, ce_cU ρ B (by omega)]
        refine lv_i2b hx hb hd rfl ?_
        have e : ce_un ρ (t + 12) x = (ce_un ρ t x).toInt8.toInt32 := by
          unfold ce_un
          by_cases h1 : t < 16
          · rw [if_neg (by omega), if_neg (by omega), if_neg (by omega), if_pos (by omega), if_neg (by omega), if_pos h1, show t + 12 - 22 = t - 10 by omega]
          · rw [if_neg (by omega), if_neg (by omega), if_neg (by omega), if_neg (by omega), if_pos (by omega), if_neg (by omega), if_neg h1, if_pos q2, show t + 12 - 28 = t - 16 by omega]
        rw [e] at k
        exact k
      · cases h
    · cases h
  · split at h
    · split at h
      · rename_i q; cases h; subst q
        rw [List.map_cons, ce_i] at k
        exact lv_i2c hx hb hd rfl k
      · cases h
    · cases h
  · split at h
    · split at h
      · rename_i q; cases h; subst q
        rw [List.map_cons, ce_l] at k
        exact lv_i2l hx hb hd rfl k
      · cases h
    · cases h
  · split at h
    · split at h
      · rename_i q; cases h; subst q
        rw [List.map_cons, ce_i] at k
        exact lv_l2i hx hb hd rfl k
      · cases h
    · cases h
  · split at h
    · split at h
      · rename_i q; cases h; subst q
        rw [List.map_cons, ce_i] at k
        exact W.lcmp hx hb hd k
      · cases h
    · cases h
  · split at h
    · split at h
      · rename_i r hr
        split at h
        · rename_i q; cases h; subst q
          rw [List.map_cons, ce_i] at k
          exact nh_bW hx hb hr hd k
        · cases h
      · cases h
    · split at h
      · rename_i r hr
        split at h
        · rename_i q; cases h; subst q
          rw [List.map_cons, ce_l] at k
          exact nh_lW hx hb hr hd k
        · cases h
      · cases h
    · split at h
      · rename_i r hr
        split at h
        · rename_i q; cases h; subst q
          rw [List.map_cons, ce_l] at k
          exact nh_hW hx hb hr hd k
        · cases h
      · cases h
    · rename_i y x _ _ _ _
      split at h
      · rename_i q
        subst q
        exact ce_opU_ok ρ B hx hb h hd k
      · cases h
    · cases h
end CE1
