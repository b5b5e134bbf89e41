/-! pure operations -/
def nh_c32 (r : Int32) : nhV := (0, r.toInt, r.toInt)
def nh_c64 (r : Int64) : nhV := (1, r.toInt, r.toInt)
theorem nh_c32_ok (Γ : Nat → Int) (g : Nat → Int32) (r : Int32) : nhOk Γ g (nh_c32 r) (.int r) := ⟨r, rfl, Int.le_refl _, Int.le_refl _⟩
theorem nh_c64_ok (Γ : Nat → Int) (g : Nat → Int32) (r : Int64) : nhOk Γ g (nh_c64 r) (.long r) := ⟨r, rfl, Int.le_refl _, Int.le_refl _⟩
/-- binary long operations -/
def nh_lS (i : Instr) (x y : Int64) : Option Int64 := match i with
  | .ladd => some (x + y)
  | .lsub => some (x - y)
  | .lmul => some (x * y)
  | .land => some (x &&& y)
  | .lor => some (x ||| y)
  | .lxor => some (x ^^^ y)
  | _ => none
def nh_l (i : Instr) (a b c d : Int) : Option nhV :=
  if a = b ∧ c = d then (match nh_lS i (Int64.ofInt a) (Int64.ofInt c) with | some r => some (nh_c64 r) | none => none)
  else if i = .land ∧ ((a = 0 ∧ b = 0) ∨ (c = 0 ∧ d = 0)) then some (1, 0, 0)
  else if (nh_lS i 0 0).isSome then some nh_fL else none
theorem nh_l_ok {Γ : Nat → Int} {g : Nat → Int32} {i : Instr} {a b c d : Int} {v : nhV} {x y : Int64} (h : nh_l i a b c d = some v) (h1 : a ≤ x.toInt) (h2 : x.toInt ≤ b) (h3 : c ≤ y.toInt) (h4 : y.toInt ≤ d) :
    ∃ r, nh_lS i x y = some r ∧ nhOk Γ g v (.long r) := by
  unfold nh_l at h
  split at h
  · rename_i q
    obtain ⟨rfl, rfl⟩ := q
    rw [← nh_eqL h1 h2, ← nh_eqL h3 h4] at h
    split at h
    · rename_i r hr
      cases h
      exact ⟨r, hr, nh_c64_ok Γ g r⟩
    · cases h
  · split at h
    · rename_i q
      cases h
      obtain ⟨rfl, q⟩ := q
      refine ⟨x &&& y, rfl, ?_⟩
      have e : x &&& y = 0 := by
        rcases q with ⟨rfl, rfl⟩ | ⟨rfl, rfl⟩
        · rw [nh_eqL h1 h2]; exact Int64.zero_and
        · rw [nh_eqL h3 h4]; exact Int64.and_zero
      rw [e]
      exact ⟨0, rfl, by decide, by decide⟩
    · split at h
      · rename_i q
        cases h
        cases hr : nh_lS i x y with
        | some r => exact ⟨r, rfl, nh_fL_ok Γ g r⟩
        | none =>
          unfold nh_lS at q hr
          split at hr
          all_goals first | (cases hr) | skip
          simp at q
      · cases h
/-- shifts of longs -/
def nh_hS (i : Instr) (x : Int64) (y : Int32) : Option Int64 := match i with
  | .lshl => some (x <<< (y.toInt64 &&& 63))
  | .lshr => some (x >>> (y.toInt64 &&& 63))
  | .lushr => some ((x.toUInt64 >>> (y.toInt64.toUInt64 &&& Int64.toUInt64 63)).toInt64)
  | _ => none
def nh_h (i : Instr) (a b c d : Int) : Option nhV :=
  if a = b ∧ c = d then (match nh_hS i (Int64.ofInt a) (Int32.ofInt c) with | some r => some (nh_c64 r) | none => none)
  else if i = .lushr ∧ a = 0 ∧ b = 0 then some (1, 0, 0)
  else if (nh_hS i 0 0).isSome then some nh_fL else none
theorem nh_h_ok {Γ : Nat → Int} {g : Nat → Int32} {i : Instr} {a b c d : Int} {v : nhV} {x : Int64} {y : Int32} (h : nh_h i a b c d = some v) (h1 : a ≤ x.toInt) (h2 : x.toInt ≤ b) (h3 : c ≤ y.toInt) (h4 : y.toInt ≤ d) :
    ∃ r, nh_hS i x y = some r ∧ nhOk Γ g v (.long r) := by
  unfold nh_h at h
  split at h
  · rename_i q
    obtain ⟨rfl, rfl⟩ := q
    rw [← nh_eqL h1 h2, ← nh_eqI h3 h4] at h
    split at h
    · rename_i r hr
      cases h
      exact ⟨r, hr, nh_c64_ok Γ g r⟩
    · cases h
  · split at h
    · rename_i q
      cases h
      obtain ⟨rfl, rfl, rfl⟩ := q
      refine ⟨_, rfl, ?_⟩
      have e : x = 0 := nh_eqL h1 h2
      rw [e]
      have e2 : (((0 : Int64).toUInt64 >>> (y.toInt64.toUInt64 &&& Int64.toUInt64 63)).toInt64) = 0 := by
        have : (0 : Int64).toUInt64 = 0 := rfl
        rw [this, UInt64.zero_shiftRight]
        rfl
      rw [e2]
      exact ⟨0, rfl, by decide, by decide⟩
    · split at h
      · rename_i q
        cases h
        cases hr : nh_hS i x y with
        | some r => exact ⟨r, rfl, nh_fL_ok Γ g r⟩
        | none =>
          unfold nh_hS at q hr
          split at hr
          all_goals first | (cases hr) | skip
          simp at q
      · cases h
def nh_cmpV (a b c d : Int) : nhV := if b < c then (0, -1, -1) else if d < a then (0, 1, 1) else if a = b ∧ c = d ∧ a = c then (0, 0, 0) else (0, -1, 1)
theorem nh_cmp_ok {Γ : Nat → Int} {g : Nat → Int32} {a b c d : Int} {x y : Int64} (h1 : a ≤ x.toInt) (h2 : x.toInt ≤ b) (h3 : c ≤ y.toInt) (h4 : y.toInt ≤ d) : nhOk Γ g (nh_cmpV a b c d) (.int (lg_cmp x y)) := by
  unfold nh_cmpV lg_cmp
  have e1 : (x > y) ↔ y.toInt < x.toInt := by rw [gt_iff_lt, Int64.lt_iff_toInt_lt]
  have e2 : x = y ↔ x.toInt = y.toInt := by rw [Int64.toInt_inj]
  simp only [e1, e2]
  split
  · rw [if_neg (by omega), if_neg (by omega)]
    exact ⟨-1, rfl, by decide, by decide⟩
  · split
    · rw [if_pos (by omega)]
      exact ⟨1, rfl, by decide, by decide⟩
    · split
      · rename_i q
        rw [if_neg (by omega), if_pos (by omega)]
        exact ⟨0, rfl, by decide, by decide⟩
      · split
        · exact ⟨1, rfl, by decide, by decide⟩
        · split
          · exact ⟨0, rfl, by decide, by decide⟩
          · exact ⟨-1, rfl, by decide, by decide⟩
def nh_op2 (i : Instr) (x y : nhV) : Option nhV := match nh_iv x with
  | some q => match nh_iv y with
    | some r => nh_b i q.1 q.2 r.1 r.2
    | none => none
  | none => match nh_lv x with
    | some q => match nh_lv y with
      | some r => nh_l i q.1 q.2 r.1 r.2
      | none => match nh_iv y with
        | some r => nh_h i q.1 q.2 r.1 r.2
        | none => none
    | none => none
/-- what an operation makes of the stack's top: how many it takes, what it leaves -/
def nh_op (i : Instr) (len : Nat) (st : List nhV) : Option (Nat × nhV) :=
  match i with
  | .iconst n => if len = 1 then some (0, nh_c32 (Int32.ofInt n)) else none
  | .bipush n => if len = 2 then some (0, nh_c32 (Int8.ofInt n).toInt32) else none
  | .sipush n => if len = 3 then some (0, nh_c32 (Int16.ofInt n).toInt32) else none
  | .lconst n => if len = 1 then some (0, nh_c64 (Int64.ofNat (n : Nat))) else none
  | .ineg => match st with
    | x :: _ => match nh_iv x with
      | some (a, b) => if len = 1 then (if -2147483648 < a then some (1, (0, -b, -a)) else some (1, nh_fl)) else none
      | none => none
    | _ => none
  | .i2b => match st with
    | x :: _ => if len = 1 ∧ (nh_iv x).isSome then some (1, (0, -128, 127)) else none
    | _ => none
  | .i2c => match st with
    | x :: _ => match nh_iv x with
      | some (a, b) => if len = 1 then (if 0 ≤ a ∧ b ≤ 65535 then some (1, (0, a, b)) else some (1, (0, 0, 65535))) else none
      | none => none
    | _ => none
  | .i2l => match st with
    | x :: _ => match nh_iv x with
      | some (a, b) => if len = 1 then some (1, (1, a, b)) else none
      | none => none
    | _ => none
  | .l2i => match st with
    | x :: _ => match nh_lv x with
      | some (a, b) => if len = 1 then (if -2147483648 ≤ a ∧ b ≤ 2147483647 then some (1, (0, a, b)) else some (1, nh_fl)) else none
      | none => none
    | _ => none
  | .lcmp => match st with
    | y :: x :: _ => match nh_lv x, nh_lv y with
      | some (a, b), some (c, d) => if len = 1 then some (2, nh_cmpV a b c d) else none
      | _, _ => none
    | _ => none
  | i => match st with
    | y :: x :: _ => if len = 1 then (nh_op2 i x y).map (fun v => (2, v)) else none
    | _ => none
