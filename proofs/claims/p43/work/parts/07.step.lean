section NH7
variable {p : Program} {l : Launch} {e : Env} {R : Room} {s : State} {m : MethodId} {args : Array Value} {below : List Frame} {meth : Method} {c : Code} {H : Heap} {locs : List Loc} {cells slots : Nat} {Q : State → Prop}
variable {cc : ByteArray} {pc : Nat} {ls : Array Slot} {rest : List Value}
theorem nh_bW (hx : p.tables.exec = Jvm.exec) (hb : c.code = cc) {i : Instr} {x y r : Int32} (h : nh_bS i x y = some r) (hd : decode cc pc = .ok (i, 1))
    (k : W p l e R s m args below meth c H locs cells slots Q (F0 m (pc + 1) ls (.int r :: rest))) : W p l e R s m args below meth c H locs cells slots Q (F0 m pc ls (.int y :: .int x :: rest)) := by
  unfold nh_bS at h
  split at h
  · cases h; exact lv_iadd hx hb hd k
  · cases h; exact lv_isub hx hb hd k
  · cases h; exact lv_imul hx hb hd k
  · cases h; exact lv_iand hx hb hd k
  · cases h; exact lv_ior hx hb hd k
  · cases h; exact lv_ixor hx hb hd k
  · cases h; exact lv_ishl hx hb hd k
  · cases h; exact lv_ishr hx hb hd k
  · cases h; exact lv_iushr hx hb hd rfl k
  · split at h
    · cases h
    · rename_i hne; cases h; exact lv_idiv hx hb hd hne k
  · split at h
    · cases h
    · rename_i hne; cases h; exact lv_irem hx hb hd hne k
  · cases h
theorem nh_lW (hx : p.tables.exec = Jvm.exec) (hb : c.code = cc) {i : Instr} {x y r : Int64} (h : nh_lS i x y = some r) (hd : decode cc pc = .ok (i, 1))
    (k : W p l e R s m args below meth c H locs cells slots Q (F0 m (pc + 1) ls (.long r :: rest))) : W p l e R s m args below meth c H locs cells slots Q (F0 m pc ls (.long y :: .long x :: rest)) := by
  unfold nh_lS at h
  split at h
  · cases h; exact lv_ladd hx hb hd k
  · cases h; exact lv_lsub hx hb hd k
  · cases h; exact lv_lmul hx hb hd k
  · cases h; exact lv_land hx hb hd k
  · cases h; exact lv_lor hx hb hd k
  · cases h; exact lv_lxor hx hb hd k
  · cases h
theorem nh_hW (hx : p.tables.exec = Jvm.exec) (hb : c.code = cc) {i : Instr} {x r : Int64} {y : Int32} (h : nh_hS i x y = some r) (hd : decode cc pc = .ok (i, 1))
    (k : W p l e R s m args below meth c H locs cells slots Q (F0 m (pc + 1) ls (.long r :: rest))) : W p l e R s m args below meth c H locs cells slots Q (F0 m pc ls (.int y :: .long x :: rest)) := by
  unfold nh_hS at h
  split at h
  · cases h; exact lv_lshl hx hb hd rfl k
  · cases h; exact lv_lshr hx hb hd rfl k
  · cases h; exact lv_lushr hx hb hd rfl k
  · cases h
theorem nh_op2_ok {Γ : Nat → Int} {g : Nat → Int32} (hx : p.tables.exec = Jvm.exec) (hb : c.code = cc) {i : Instr} {u w v : nhV} (h : nh_op2 i u w = some v) (hd : decode cc pc = .ok (i, 1)) {x y : Value} (hu : nhOk Γ g u x) (hw : nhOk Γ g w y) :
    ∃ r, nhOk Γ g v r ∧ (W p l e R s m args below meth c H locs cells slots Q (F0 m (pc + 1) ls (r :: rest)) → W p l e R s m args below meth c H locs cells slots Q (F0 m pc ls (y :: x :: rest))) := by
  unfold nh_op2 at h
  cases e1 : nh_iv u with
  | some q =>
    rw [e1] at h
    obtain ⟨a, rfl, q1, q2⟩ := nh_iv_ok e1 hu
    cases e2 : nh_iv w with
    | some q' =>
      rw [e2] at h
      obtain ⟨b, rfl, q3, q4⟩ := nh_iv_ok e2 hw
      obtain ⟨r, hr1, hr2⟩ := nh_b_ok (Γ := Γ) (g := g) h q1 q2 q3 q4
      exact ⟨_, hr2, fun k => nh_bW hx hb hr1 hd k⟩
    | none => rw [e2] at h; cases h
  | none =>
    rw [e1] at h
    cases e2 : nh_lv u with
    | none => rw [e2] at h; cases h
    | some q =>
      rw [e2] at h
      obtain ⟨a, rfl, q1, q2⟩ := nh_lv_ok e2 hu
      cases e3 : nh_lv w with
      | some q' =>
        rw [e3] at h
        obtain ⟨b, rfl, q3, q4⟩ := nh_lv_ok e3 hw
        obtain ⟨r, hr1, hr2⟩ := nh_l_ok (Γ := Γ) (g := g) h q1 q2 q3 q4
        exact ⟨_, hr2, fun k => nh_lW hx hb hr1 hd k⟩
      | none =>
        rw [e3] at h
        cases e4 : nh_iv w with
        | none => rw [e4] at h; cases h
        | some q' =>
          rw [e4] at h
          obtain ⟨b, rfl, q3, q4⟩ := nh_iv_ok e4 hw
          obtain ⟨r, hr1, hr2⟩ := nh_h_ok (Γ := Γ) (g := g) h q1 q2 q3 q4
          exact ⟨_, hr2, fun k => nh_hW hx hb hr1 hd k⟩
/-- the values on the stack are as their abstract values say -/
def nhVs (Γ : Nat → Int) (g : Nat → Int32) : List nhV → List Value → Prop
  | [], _ => True
  | v :: vs, x :: xs => nhOk Γ g v x ∧ nhVs Γ g vs xs
  | _ :: _, [] => False
theorem nh_i2b_rng (x : Int32) : -128 ≤ (x.toInt8.toInt32).toInt ∧ (x.toInt8.toInt32).toInt ≤ 127 := by
  rw [Int8.toInt_toInt32]
  have h1 := Int8.le_toInt x.toInt8
  have h2 := Int8.toInt_lt x.toInt8
  omega
theorem nh_i2c_rng (x : Int32) : 0 ≤ ((x.toUInt32 % 65536).toInt32).toInt ∧ ((x.toUInt32 % 65536).toInt32).toInt ≤ 65535 := by
  rw [pk_char x]
  have h : x.toBitVec.toNat % 65536 < 65536 := Nat.mod_lt _ (by omega)
  rw [nI_toInt (by omega)]
  omega
theorem nh_i2c_id {x : Int32} (h1 : 0 ≤ x.toInt) (h2 : x.toInt ≤ 65535) : (x.toUInt32 % 65536).toInt32 = x := by
  obtain ⟨j, hj, ex, ej⟩ := nh_nI h1
  rw [pk_char x, ex, pk_tn (by omega), Nat.mod_eq_of_lt (by omega)]
/-- THE PURE OPERATIONS -/
theorem nh_op_ok {Γ : Nat → Int} {g : Nat → Int32} (hx : p.tables.exec = Jvm.exec) (hb : c.code = cc) {i : Instr} {len n : Nat} {vs : List nhV} {v : nhV} (h : nh_op i len vs = some (n, v)) (hd : decode cc pc = .ok (i, len)) {xs : List Value} (hv : nhVs Γ g vs xs) :
    n ≤ vs.length ∧ ∃ r, nhOk Γ g v r ∧ (W p l e R s m args below meth c H locs cells slots Q (F0 m (pc + len) ls (r :: xs.drop n)) → W p l e R s m args below meth c H locs cells slots Q (F0 m pc ls xs)) := by
  unfold nh_op at h
  split at h
  · split at h
    · rename_i q
      cases h; subst q
      exact ⟨Nat.zero_le _, _, nh_c32_ok Γ g _, fun k => lv_iconst hx hb hd rfl k⟩
    · cases h
  · split at h
    · rename_i q
      cases h; subst q
      exact ⟨Nat.zero_le _, _, nh_c32_ok Γ g _, fun k => lv_bipush hx hb hd rfl k⟩
    · cases h
  · split at h
    · rename_i q
      cases h; subst q
      exact ⟨Nat.zero_le _, _, nh_c32_ok Γ g _, fun k => lv_sipush hx hb hd rfl k⟩
    · cases h
  · split at h
    · rename_i q
      cases h; subst q
      exact ⟨Nat.zero_le _, _, nh_c64_ok Γ g _, fun k => lv_lconst hx hb hd rfl k⟩
    · cases h
  · split at h
    · rename_i x vs
      cases xs with
      | nil => exact hv.elim
      | cons y ys =>
        split at h
        · rename_i a b ha
          obtain ⟨z, rfl, q1, q2⟩ := nh_iv_ok ha hv.1
          dsimp only at q1 q2
          split at h
          · rename_i q
            subst q
            split at h
            · rename_i q3
              cases h
              refine ⟨by simp, .int (-z), ⟨-z, rfl, ?_, ?_⟩, fun k => lv_ineg hx hb hd k⟩
              · dsimp only; rw [fb_negI (by omega)]; omega
              · dsimp only; rw [fb_negI (by omega)]; omega
            · cases h
              exact ⟨by simp, .int (-z), nh_fl_ok Γ g _, fun k => lv_ineg hx hb hd k⟩
          · cases h
        · cases h
    · cases h
  · split at h
    · rename_i x vs
      cases xs with
      | nil => exact hv.elim
      | cons y ys =>
        split at h
        · rename_i q
          cases h
          obtain ⟨rfl, q⟩ := q
          obtain ⟨⟨a, b⟩, ha⟩ := Option.isSome_iff_exists.mp q
          obtain ⟨z, rfl, q1, q2⟩ := nh_iv_ok ha hv.1
          have hr := nh_i2b_rng z
          exact ⟨by simp, .int (z.toInt8.toInt32), ⟨_, rfl, hr.1, hr.2⟩, fun k => lv_i2b hx hb hd rfl k⟩
        · cases h
    · cases h
  · split at h
    · rename_i x vs
      cases xs with
      | nil => exact hv.elim
      | cons y ys =>
        split at h
        · rename_i a b ha
          obtain ⟨z, rfl, q1, q2⟩ := nh_iv_ok ha hv.1
          dsimp only at q1 q2
          split at h
          · rename_i q
            subst q
            split at h
            · rename_i q3
              cases h
              refine ⟨by simp, .int z, ⟨z, rfl, q1, q2⟩, fun k => lv_i2c hx hb hd (nh_i2c_id (by omega) (by omega)) k⟩
            · cases h
              have hr := nh_i2c_rng z
              exact ⟨by simp, .int _, ⟨_, rfl, hr.1, hr.2⟩, fun k => lv_i2c hx hb hd rfl k⟩
          · cases h
        · cases h
    · cases h
  · split at h
    · rename_i x vs
      cases xs with
      | nil => exact hv.elim
      | cons y ys =>
        split at h
        · rename_i a b ha
          obtain ⟨z, rfl, q1, q2⟩ := nh_iv_ok ha hv.1
          dsimp only at q1 q2
          split at h
          · rename_i q
            subst q
            cases h
            refine ⟨by simp, .long z.toInt64, ⟨_, rfl, ?_, ?_⟩, fun k => lv_i2l hx hb hd rfl k⟩
            · rw [Int32.toInt_toInt64]; exact q1
            · rw [Int32.toInt_toInt64]; exact q2
          · cases h
        · cases h
    · cases h
  · split at h
    · rename_i x vs
      cases xs with
      | nil => exact hv.elim
      | cons y ys =>
        split at h
        · rename_i a b ha
          obtain ⟨z, rfl, q1, q2⟩ := nh_lv_ok ha hv.1
          dsimp only at q1 q2
          split at h
          · rename_i q
            subst q
            split at h
            · rename_i q3
              cases h
              have e1 : (z.toInt32).toInt = z.toInt := by
                rw [Int64.toInt_toInt32, fb_bmod (by omega) (by omega)]
              exact ⟨by simp, .int z.toInt32, ⟨_, rfl, by dsimp only; omega, by dsimp only; omega⟩, fun k => lv_l2i hx hb hd rfl k⟩
            · cases h
              exact ⟨by simp, .int z.toInt32, nh_fl_ok Γ g _, fun k => lv_l2i hx hb hd rfl k⟩
          · cases h
        · cases h
    · cases h
  · split at h
    · rename_i y x vs
      match xs, hv with
      | [], hv => exact hv.elim
      | [_], hv => exact hv.2.elim
      | y1 :: x1 :: ys, hv =>
        split at h
        · rename_i a b c' d ha hc
          obtain ⟨z, rfl, q1, q2⟩ := nh_lv_ok ha hv.2.1
          obtain ⟨w, rfl, q3, q4⟩ := nh_lv_ok hc hv.1
          split at h
          · rename_i q
            subst q
            cases h
            exact ⟨by simp, _, nh_cmp_ok q1 q2 q3 q4, fun k => W.lcmp hx hb hd k⟩
          · cases h
        · cases h
    · cases h
  · split at h
    · rename_i y x vs
      match xs, hv with
      | [], hv => exact hv.elim
      | [_], hv => exact hv.2.elim
      | y1 :: x1 :: ys, hv =>
        split at h
        · rename_i q
          subst q
          obtain ⟨v', hv', e'⟩ := Option.map_eq_some_iff.mp h
          cases e'
          obtain ⟨r, hr, hw⟩ := nh_op2_ok (H := H) (locs := locs) (cells := cells) (slots := slots) (Q := Q) (p := p) (l := l) (e := e) (R := R) (s := s) (m := m) (args := args) (below := below) (meth := meth) (pc := pc) (ls := ls) (rest := ys) hx hb hv' hd hv.2.1 hv.1
          exact ⟨by simp, r, hr, hw⟩
        · cases h
    · cases h
end NH7
