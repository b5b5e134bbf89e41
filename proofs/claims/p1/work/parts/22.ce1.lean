/-! A WALK WITH KNOWN VALUES: (0, c) an int, (1, c) a long, (2, k) the cell B + k, (3, _) null. Cells: (0, class, fields), (1, array type, elements) -/
abbrev ceV : Type := Nat × Int
def ce_c (B : Nat) (v : ceV) : Value := match v.1 with
  | 0 => .int (Int32.ofInt v.2)
  | 1 => .long (Int64.ofInt v.2)
  | 2 => .ref (B + v.2.toNat)
  | _ => .null
abbrev ceC : Type := Nat × Nat × List ceV
def ceCell (D : nhD) (B : Nat) (c : ceC) (a : Nat) (H : Heap) : Prop := match c.1 with
  | 0 => t_OB a (D.1 c.2.1) c.2.2.length (D.2.1 c.2.1) H (fun k => ce_c B (c.2.2.getD k (3, 0)))
  | _ => H[a]? = some (arrV (D.2.2 c.2.1) c.2.2.length (fun j => ce_c B (c.2.2.getD j (3, 0))))
def ceH (D : nhD) (B : Nat) (H0 : Heap) (hp : List ceC) (H : Heap) : Prop := H.size = B + hp.length ∧ (∀ q : Nat, q < B → H[q]? = H0[q]?) ∧ ∀ (i : Nat) (c : ceC), hp[i]? = some c → ceCell D B c (B + i) H
theorem ceCell.kept {D : nhD} {B : Nat} {c : ceC} {a : Nat} {H H' : Heap} (h : ceCell D B c a H) (hq : H'[a]? = H[a]?) : ceCell D B c a H' := by
  unfold ceCell at h ⊢
  split at h
  · exact h.kept hq
  · exact hq.trans h
theorem ceH.put {D : nhD} {B : Nat} {H0 : Heap} {hp : List ceC} {H H' : Heap} {i : Nat} {c c' : ceC} (h : ceH D B H0 hp H) (hi : hp[i]? = some c) (hc : ceCell D B c' (B + i) H') (z : H'.size = H.size) (ho : ∀ q : Nat, q ≠ B + i → H'[q]? = H[q]?) : ceH D B H0 (hp.set i c') H' := by
  obtain ⟨h1, h2, h3⟩ := h
  have hl := (List.getElem?_eq_some_iff.mp hi).1
  refine ⟨by rw [z, h1, List.length_set], fun q hq => by rw [ho q (by omega)]; exact h2 q hq, fun j d hj => ?_⟩
  by_cases e : j = i
  · subst e
    rw [List.getElem?_set_self hl] at hj
    cases hj
    exact hc
  · rw [List.getElem?_set_ne (Ne.symm e)] at hj
    exact (h3 j d hj).kept (ho _ (by omega))
theorem ceH.push {D : nhD} {B : Nat} {H0 : Heap} {hp : List ceC} {H H' : Heap} {c : ceC} (h : ceH D B H0 hp H) (hc : ceCell D B c (B + hp.length) H') (z : H'.size = H.size + 1) (ho : ∀ q : Nat, q < H.size → H'[q]? = H[q]?) : ceH D B H0 (hp ++ [c]) H' := by
  obtain ⟨h1, h2, h3⟩ := h
  refine ⟨by rw [z, h1]; simp; omega, fun q hq => by rw [ho q (by omega)]; exact h2 q hq, fun j d hj => ?_⟩
  by_cases e : j < hp.length
  · rw [List.getElem?_append_left e] at hj
    exact (h3 j d hj).kept (ho _ (by omega))
  · rw [List.getElem?_append_right (by omega)] at hj
    have hz : j - hp.length < 1 := (List.getElem?_eq_some_iff.mp hj).1
    rw [show j - hp.length = 0 by omega] at hj
    cases hj
    rw [show j = hp.length by omega]
    exact hc
def ceRel (D : nhD) (B : Nat) (H0 : Heap) (nL : Nat) (lo : List (Nat × ceV)) (hp : List ceC) (H : Heap) (locs : List Loc) (ls : Array Slot) : Prop :=
  ls.size = nL ∧ lv_wf ls ∧ (∀ q ∈ lo, ls[q.1]? = some (.val (ce_c B q.2))) ∧ ceH D B H0 hp H ∧ ∀ q ∈ locs, B ≤ q.base
theorem ceRel.has {D : nhD} {B : Nat} {H0 : Heap} {nL : Nat} {lo : List (Nat × ceV)} {hp : List ceC} {H : Heap} {locs : List Loc} {ls : Array Slot} (h : ceRel D B H0 nL lo hp H locs ls) : lv_has ls nL (lo.map (fun q => (q.1, ce_c B q.2))) := ⟨h.1, h.2.1, fun q hq => by
  obtain ⟨r, hr, rfl⟩ := List.mem_map.mp hq
  exact h.2.2.1 r hr⟩
/-- pure operations on known values -/
def ce_op (i : Instr) (len : Nat) (st : List ceV) : Option (Nat × ceV) := match i with
  | .iconst n => if len = 1 then some (0, (0, (Int32.ofInt n).toInt)) else none
  | .bipush n => if len = 2 then some (0, (0, (Int8.ofInt n).toInt32.toInt)) else none
  | .sipush n => if len = 3 then some (0, (0, (Int16.ofInt n).toInt32.toInt)) else none
  | .lconst n => if len = 1 then some (0, (1, (Int64.ofNat (n : Nat)).toInt)) else none
  | .ineg => match st with
    | (0, x) :: _ => if len = 1 then some (1, (0, (-Int32.ofInt x).toInt)) else none
    | _ => none
  | .i2b => match st with
    | (0, x) :: _ => if len = 1 then some (1, (0, ((Int32.ofInt x).toInt8.toInt32).toInt)) else none
    | _ => none
  | .i2c => match st with
    | (0, x) :: _ => if len = 1 then some (1, (0, (((Int32.ofInt x).toUInt32 % 65536).toInt32).toInt)) else none
    | _ => none
  | .i2l => match st with
    | (0, x) :: _ => if len = 1 then some (1, (1, (Int32.ofInt x).toInt64.toInt)) else none
    | _ => none
  | .l2i => match st with
    | (1, x) :: _ => if len = 1 then some (1, (0, (Int64.ofInt x).toInt32.toInt)) else none
    | _ => none
  | .lcmp => match st with
    | (1, y) :: (1, x) :: _ => if len = 1 then some (2, (0, (lg_cmp (Int64.ofInt x) (Int64.ofInt y)).toInt)) else none
    | _ => none
  | i => match st with
    | (0, y) :: (0, x) :: _ => match nh_bS i (Int32.ofInt x) (Int32.ofInt y) with
      | some r => if len = 1 then some (2, (0, r.toInt)) else none
      | none => none
    | (1, y) :: (1, x) :: _ => match nh_lS i (Int64.ofInt x) (Int64.ofInt y) with
      | some r => if len = 1 then some (2, (1, r.toInt)) else none
      | none => none
    | (0, y) :: (1, x) :: _ => match nh_hS i (Int64.ofInt x) (Int32.ofInt y) with
      | some r => if len = 1 then some (2, (1, r.toInt)) else none
      | none => none
    | _ => none
theorem ce_i (B : Nat) (r : Int32) : ce_c B (0, r.toInt) = .int r := by
  show Value.int (Int32.ofInt r.toInt) = _
  rw [fb_asI]
theorem ce_l (B : Nat) (r : Int64) : ce_c B (1, r.toInt) = .long r := by
  show Value.long (Int64.ofInt r.toInt) = _
  rw [Int64.ofInt_toInt]
section CE1
variable {p : Program} {l : Launch} {e : Env} {R : Room} {s : State} {m : MethodId} {args : Array Value} {below : List Frame} {meth : Method} {c : Code} {Q : State → Prop} {cc : ByteArray} {pc : Nat} {H : Heap} {locs : List Loc} {ls : Array Slot} {cells slots : Nat}
theorem ce_op_ok (B : Nat) (hx : p.tables.exec = Jvm.exec) (hb : c.code = cc) {i : Instr} {len n : Nat} {st : List ceV} {v : ceV} (h : ce_op i len st = some (n, v)) (hd : decode cc pc = .ok (i, len))
    (k : W p l e R s m args below meth c H locs cells slots Q (F0 m (pc + len) ls ((v :: st.drop n).map (ce_c B)))) : W p l e R s m args below meth c H locs cells slots Q (F0 m pc ls (st.map (ce_c B))) := by
  unfold ce_op at h
  split at h
  · split at h
    · rename_i q; cases h; subst q
      rw [List.map_cons, ce_i] at k
      exact lv_iconst hx hb hd rfl k
    · cases h
  · split at h
    · rename_i q; cases h; subst q
      rw [List.map_cons, ce_i] at k
      exact lv_bipush hx hb hd rfl k
    · cases h
  · split at h
    · rename_i q; cases h; subst q
      rw [List.map_cons, ce_i] at k
      exact lv_sipush hx hb hd rfl k
    · cases h
  · split at h
    · rename_i q; cases h; subst q
      rw [List.map_cons, ce_l] at k
      exact lv_lconst hx hb hd rfl k
    · cases h
  · split at h
    · split at h
      · rename_i q; cases h; subst q
        rw [List.map_cons, ce_i] at k
        exact lv_ineg hx hb hd k
      · cases h
    · cases h
  · split at h
    · split at h
      · rename_i q; cases h; subst q
        rw [List.map_cons, ce_i] at k
        exact lv_i2b hx hb hd rfl k
      · cases h
    · cases h
  · split at h
    · split at h
      · rename_i q; cases h; subst q
        rw [List.map_cons, ce_i] at k
        exact lv_i2c hx hb hd rfl k
      · cases h
    · cases h
  · split at h
    · split at h
      · rename_i q; cases h; subst q
        rw [List.map_cons, ce_l] at k
        exact lv_i2l hx hb hd rfl k
      · cases h
    · cases h
  · split at h
    · split at h
      · rename_i q; cases h; subst q
        rw [List.map_cons, ce_i] at k
        exact lv_l2i hx hb hd rfl k
      · cases h
    · cases h
  · split at h
    · split at h
      · rename_i q; cases h; subst q
        rw [List.map_cons, ce_i] at k
        exact W.lcmp hx hb hd k
      · cases h
    · cases h
  · split at h
    · split at h
      · rename_i r hr
        split at h
        · rename_i q; cases h; subst q
          rw [List.map_cons, ce_i] at k
          exact nh_bW hx hb hr hd k
        · cases h
      · cases h
    · split at h
      · rename_i r hr
        split at h
        · rename_i q; cases h; subst q
          rw [List.map_cons, ce_l] at k
          exact nh_lW hx hb hr hd k
        · cases h
      · cases h
    · split at h
      · rename_i r hr
        split at h
        · rename_i q; cases h; subst q
          rw [List.map_cons, ce_l] at k
          exact nh_hW hx hb hr hd k
        · cases h
      · cases h
    · cases h
end CE1
