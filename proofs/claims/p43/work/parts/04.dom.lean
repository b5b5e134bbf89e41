/-! A CHECKER BY REFLECTION. Abstract values: (tag, lo, hi): 0 an int within, 1 a long within, 2 a reference of kind lo, 3 the same or null, 4 the ghost int number lo, 9 anything -/
abbrev nhV : Type := Nat × Int × Int
def nh_fl : nhV := (0, -2147483648, 2147483647)
def nh_fL : nhV := (1, -9223372036854775808, 9223372036854775807)
def nhOk (Γ : Nat → Int) (g : Nat → Int32) (v : nhV) (x : Value) : Prop :=
  match v.1 with
  | 0 => ∃ a : Int32, x = .int a ∧ v.2.1 ≤ a.toInt ∧ a.toInt ≤ v.2.2
  | 1 => ∃ a : Int64, x = .long a ∧ v.2.1 ≤ a.toInt ∧ a.toInt ≤ v.2.2
  | 2 => ∃ a : Nat, x = .ref a ∧ Γ a = v.2.1
  | 3 => x = .null ∨ ∃ a : Nat, x = .ref a ∧ Γ a = v.2.1
  | 4 => x = .int (g v.2.1.toNat)
  | _ => True
def nh_le (u v : nhV) : Bool :=
  match v.1 with
  | 0 => (u.1 == 0 && decide (v.2.1 ≤ u.2.1) && decide (u.2.2 ≤ v.2.2)) || (u.1 == 4 && decide (v.2.1 ≤ -2147483648) && decide (2147483647 ≤ v.2.2))
  | 1 => u.1 == 1 && decide (v.2.1 ≤ u.2.1) && decide (u.2.2 ≤ v.2.2)
  | 2 => u.1 == 2 && u.2.1 == v.2.1
  | 3 => (u.1 == 2 || u.1 == 3) && u.2.1 == v.2.1
  | 4 => u.1 == 4 && u.2.1 == v.2.1
  | 9 => true
  | _ => false
theorem nh_le_ok {Γ : Nat → Int} {g : Nat → Int32} {u v : nhV} {x : Value} (h : nh_le u v = true) (hu : nhOk Γ g u x) : nhOk Γ g v x := by
  obtain ⟨t, a, b⟩ := u
  obtain ⟨t', a', b'⟩ := v
  unfold nh_le at h
  dsimp only at h
  split at h
  · simp only [Bool.or_eq_true, Bool.and_eq_true, beq_iff_eq, decide_eq_true_eq] at h
    rcases h with ⟨⟨rfl, h1⟩, h2⟩ | ⟨⟨rfl, h1⟩, h2⟩
    · obtain ⟨z, e, q1, q2⟩ := hu
      exact ⟨z, e, by dsimp only at q1 ⊢; omega, by dsimp only at q2 ⊢; omega⟩
    · have hr := fb_rng (g a.toNat)
      exact ⟨g a.toNat, hu, by dsimp only; omega, by dsimp only; omega⟩
  · simp only [Bool.and_eq_true, beq_iff_eq, decide_eq_true_eq] at h
    obtain ⟨⟨rfl, h1⟩, h2⟩ := h
    obtain ⟨z, e, q1, q2⟩ := hu
    exact ⟨z, e, by dsimp only at q1 ⊢; omega, by dsimp only at q2 ⊢; omega⟩
  · simp only [Bool.and_eq_true, beq_iff_eq] at h
    obtain ⟨rfl, rfl⟩ := h
    exact hu
  · simp only [Bool.and_eq_true, Bool.or_eq_true, beq_iff_eq] at h
    obtain ⟨rfl | rfl, rfl⟩ := h
    · exact Or.inr hu
    · exact hu
  · simp only [Bool.and_eq_true, beq_iff_eq] at h
    obtain ⟨rfl, rfl⟩ := h
    exact hu
  · trivial
  · cases h
/-- the interval of an int -/
def nh_iv (v : nhV) : Option (Int × Int) := match v.1 with
  | 0 => some v.2
  | 4 => some (-2147483648, 2147483647)
  | _ => none
theorem nh_iv_ok {Γ : Nat → Int} {g : Nat → Int32} {v : nhV} {x : Value} {q : Int × Int} (h : nh_iv v = some q) (hv : nhOk Γ g v x) : ∃ a : Int32, x = .int a ∧ q.1 ≤ a.toInt ∧ a.toInt ≤ q.2 := by
  obtain ⟨t, lo, hi⟩ := v
  unfold nh_iv at h
  dsimp only at h
  split at h
  · cases h
    exact hv
  · cases h
    have hr := fb_rng (g lo.toNat)
    exact ⟨_, hv, by dsimp only; omega, by dsimp only; omega⟩
  · cases h
def nh_lv (v : nhV) : Option (Int × Int) := match v.1 with
  | 1 => some v.2
  | _ => none
theorem nh_lv_ok {Γ : Nat → Int} {g : Nat → Int32} {v : nhV} {x : Value} {q : Int × Int} (h : nh_lv v = some q) (hv : nhOk Γ g v x) : ∃ a : Int64, x = .long a ∧ q.1 ≤ a.toInt ∧ a.toInt ≤ q.2 := by
  obtain ⟨t, lo, hi⟩ := v
  unfold nh_lv at h
  dsimp only at h
  split at h
  · cases h
    exact hv
  · cases h
def nh_mk (lo hi : Int) : nhV := if -2147483648 ≤ lo ∧ hi ≤ 2147483647 then (0, lo, hi) else nh_fl
theorem nh_fl_ok (Γ : Nat → Int) (g : Nat → Int32) (a : Int32) : nhOk Γ g nh_fl (.int a) := by
  have hr := fb_rng a
  exact ⟨a, rfl, by dsimp only [nh_fl]; omega, by dsimp only [nh_fl]; omega⟩
theorem nh_fL_ok (Γ : Nat → Int) (g : Nat → Int32) (a : Int64) : nhOk Γ g nh_fL (.long a) := by
  have hr := fb_rngL a
  exact ⟨a, rfl, by dsimp only [nh_fL]; omega, by dsimp only [nh_fL]; omega⟩
/-- binary int operations: what the machine does -/
def nh_bS (i : Instr) (x y : Int32) : Option Int32 := match i with
  | .iadd => some (x + y)
  | .isub => some (x - y)
  | .imul => some (x * y)
  | .iand => some (x &&& y)
  | .ior => some (x ||| y)
  | .ixor => some (x ^^^ y)
  | .ishl => some (x <<< (y &&& 31))
  | .ishr => some (x >>> (y &&& 31))
  | .iushr => some ((x.toUInt32 >>> (y.toUInt32 &&& Int32.toUInt32 31)).toInt32)
  | .idiv => if y = 0 then none else some (x / y)
  | .irem => if y = 0 then none else some (x - x / y * y)
  | _ => none
def nh_pw (n : Int) : Nat := (List.range 32).find? (fun k => decide (n < 2 ^ k)) |>.getD 99
def nh_bI (i : Instr) (a b c d : Int) : Option nhV := match i with
  | .iadd => some (nh_mk (a + c) (b + d))
  | .isub => some (nh_mk (a - d) (b - c))
  | .imul => if 0 ≤ a ∧ 0 ≤ c then some (nh_mk (a * c) (b * d)) else some nh_fl
  | .iand => if 0 ≤ c then (if 0 ≤ a ∧ b ≤ d then some (0, 0, b) else some (0, 0, d)) else if 0 ≤ a then some (0, 0, b) else some nh_fl
  | .ior => if 0 ≤ a ∧ 0 ≤ c ∧ b < 2 ^ nh_pw (max b d) ∧ d < 2 ^ nh_pw (max b d) ∧ nh_pw (max b d) ≤ 31 then some (0, 0, 2 ^ nh_pw (max b d) - 1) else some nh_fl
  | .ixor => if 0 ≤ a ∧ 0 ≤ c ∧ b < 2 ^ nh_pw (max b d) ∧ d < 2 ^ nh_pw (max b d) ∧ nh_pw (max b d) ≤ 31 then some (0, 0, 2 ^ nh_pw (max b d) - 1) else some nh_fl
  | .ishl => if 0 ≤ a ∧ 0 ≤ c ∧ d ≤ 30 ∧ b * 2 ^ d.toNat ≤ 2147483647 then some (0, 0, b * 2 ^ d.toNat) else some nh_fl
  | .ishr => if 0 ≤ a then some (0, 0, b) else some nh_fl
  | .iushr => some nh_fl
  | .idiv => if 0 ≤ a ∧ 1 ≤ c then some (0, a / d, b / c) else if 1 ≤ c ∨ d ≤ -1 then some nh_fl else none
  | .irem => if 1 ≤ c then (if 0 ≤ a then (if b ≤ d - 1 then some (0, 0, b) else some (0, 0, d - 1)) else some (0, -(d - 1), d - 1)) else if d ≤ -1 then some nh_fl else none
  | _ => none
def nh_b (i : Instr) (a b c d : Int) : Option nhV :=
  if a = b ∧ c = d then (match nh_bS i (Int32.ofInt a) (Int32.ofInt c) with | some r => some (0, r.toInt, r.toInt) | none => none)
  else nh_bI i a b c d
theorem nh_mk_ok {Γ : Nat → Int} {g : Nat → Int32} {lo hi : Int} {r : Int32} (h : -2147483648 ≤ lo → hi ≤ 2147483647 → lo ≤ r.toInt ∧ r.toInt ≤ hi) : nhOk Γ g (nh_mk lo hi) (.int r) := by
  unfold nh_mk
  split
  · rename_i q
    exact ⟨r, rfl, h q.1 q.2⟩
  · exact nh_fl_ok Γ g r
theorem nh_bI_ok {Γ : Nat → Int} {g : Nat → Int32} {i : Instr} {a b c d : Int} {v : nhV} {x y : Int32} (h : nh_bI i a b c d = some v) (h1 : a ≤ x.toInt) (h2 : x.toInt ≤ b) (h3 : c ≤ y.toInt) (h4 : y.toInt ≤ d) :
    ∃ r, nh_bS i x y = some r ∧ nhOk Γ g v (.int r) := by
  have rx := fb_rng x
  have ry := fb_rng y
  have ne0 : ∀ {z : Int32}, (1 ≤ z.toInt ∨ z.toInt ≤ -1) → ¬ z = 0 := fun hz e => by rw [e] at hz; simp at hz
  unfold nh_bI at h
  split at h
  · cases h
    exact ⟨_, rfl, nh_mk_ok fun q1 q2 => by rw [fb_addI (by omega) (by omega)]; omega⟩
  · cases h
    exact ⟨_, rfl, nh_mk_ok fun q1 q2 => by rw [fb_subI (by omega) (by omega)]; omega⟩
  · split at h
    · rename_i q
      cases h
      refine ⟨_, rfl, nh_mk_ok fun q1 q2 => ?_⟩
      have e1 : a * c ≤ x.toInt * y.toInt := Int.mul_le_mul h1 h3 q.2 (by omega)
      have e2 : x.toInt * y.toInt ≤ b * d := Int.mul_le_mul h2 h4 (by omega) (by omega)
      rw [fb_mulI (by omega) (by omega)]
      exact ⟨e1, e2⟩
    · cases h
      exact ⟨_, rfl, nh_fl_ok Γ g _⟩
  · split at h
    · rename_i q
      have e1 := nh_andR x (y := y) (by omega)
      split at h
      · rename_i q2
        cases h
        have e2 := nh_andL (x := x) y (by omega)
        exact ⟨_, rfl, _, rfl, e1.1, by dsimp only; omega⟩
      · cases h
        exact ⟨_, rfl, _, rfl, e1.1, by dsimp only; omega⟩
    · split at h
      · cases h
        have e2 := nh_andL (x := x) y (by omega)
        exact ⟨_, rfl, _, rfl, e2.1, by dsimp only; omega⟩
      · cases h
        exact ⟨_, rfl, nh_fl_ok Γ g _⟩
  · split at h
    · rename_i q
      cases h
      have e1 := nh_or (k := nh_pw (max b d)) q.2.2.2.2 (x := x) (y := y) (by omega) (by omega) (by omega) (by omega)
      exact ⟨_, rfl, _, rfl, e1.1, by dsimp only; omega⟩
    · cases h
      exact ⟨_, rfl, nh_fl_ok Γ g _⟩
  · split at h
    · rename_i q
      cases h
      have e1 := nh_xor (k := nh_pw (max b d)) q.2.2.2.2 (x := x) (y := y) (by omega) (by omega) (by omega) (by omega)
      exact ⟨_, rfl, _, rfl, e1.1, by dsimp only; omega⟩
    · cases h
      exact ⟨_, rfl, nh_fl_ok Γ g _⟩
  · split at h
    · rename_i q
      cases h
      have hp : (0 : Int) ≤ 2 ^ d.toNat := Int.pow_nonneg (by omega)
      have e0 : x.toInt * 2 ^ d.toNat ≤ b * 2 ^ d.toNat := Int.mul_le_mul_of_nonneg_right h2 hp
      have e1 := nh_shl (x := x) (y := y) (d := d.toNat) (by omega) (by omega) (by omega) (by omega) (by omega)
      exact ⟨_, rfl, _, rfl, e1.1, by dsimp only; omega⟩
    · cases h
      exact ⟨_, rfl, nh_fl_ok Γ g _⟩
  · split at h
    · cases h
      have e1 := nh_shr (x := x) y (by omega)
      exact ⟨_, rfl, _, rfl, e1.1, by dsimp only; omega⟩
    · cases h
      exact ⟨_, rfl, nh_fl_ok Γ g _⟩
  · cases h
    exact ⟨_, rfl, nh_fl_ok Γ g _⟩
  · split at h
    · rename_i q
      cases h
      refine ⟨x / y, by simp only [nh_bS]; rw [if_neg (ne0 (by omega))], _, rfl, ?_⟩
      dsimp only
      rw [nh_div (by omega) (by omega)]
      constructor
      · refine Int.le_trans (Int.ediv_le_ediv (by omega) h1) ?_
        refine Int.le_ediv_of_mul_le (by omega) ?_
        have k1 : x.toInt / d * y.toInt ≤ x.toInt / d * d := Int.mul_le_mul_of_nonneg_left h4 (Int.ediv_nonneg (by omega) (by omega))
        have k2 : x.toInt / d * d ≤ x.toInt := Int.ediv_mul_le _ (by omega)
        omega
      · refine Int.le_trans (Int.ediv_le_ediv (by omega) h2) ?_
        refine Int.le_ediv_of_mul_le (by omega) ?_
        have k1 : b / y.toInt * c ≤ b / y.toInt * y.toInt := Int.mul_le_mul_of_nonneg_left h3 (Int.ediv_nonneg (by omega) (by omega))
        have k2 : b / y.toInt * y.toInt ≤ b := Int.ediv_mul_le _ (by omega)
        omega
    · split at h
      · rename_i q
        cases h
        exact ⟨_, by simp only [nh_bS]; rw [if_neg (ne0 (by omega))], nh_fl_ok Γ g _⟩
      · cases h
  · split at h
    · rename_i q
      have hb := tmod_bounds (a := x.toInt) (M := y.toInt) (by omega)
      have hn : nh_bS .irem x y = some (x - x / y * y) := by simp only [nh_bS]; rw [if_neg (ne0 (by omega))]
      have hr := rem_toInt x y
      split at h
      · have h0 : 0 ≤ x.toInt.tmod y.toInt ∧ x.toInt.tmod y.toInt ≤ x.toInt := by
          rw [Int.tmod_eq_emod_of_nonneg (by omega)]
          exact ⟨Int.emod_nonneg _ (by omega), by
            have := Int.ediv_nonneg (a := x.toInt) (b := y.toInt) (by omega) (by omega)
            have k := Int.mul_ediv_add_emod x.toInt y.toInt
            have k2 : 0 ≤ y.toInt * (x.toInt / y.toInt) := Int.mul_nonneg (by omega) this
            omega⟩
        split at h
        · cases h
          exact ⟨_, hn, _, rfl, by dsimp only; omega, by dsimp only; omega⟩
        · cases h
          exact ⟨_, hn, _, rfl, by dsimp only; omega, by dsimp only; omega⟩
      · cases h
        exact ⟨_, hn, _, rfl, by dsimp only; omega, by dsimp only; omega⟩
    · split at h
      · rename_i q
        cases h
        exact ⟨_, by simp only [nh_bS]; rw [if_neg (ne0 (by omega))], nh_fl_ok Γ g _⟩
      · cases h
  · cases h
theorem nh_b_ok {Γ : Nat → Int} {g : Nat → Int32} {i : Instr} {a b c d : Int} {v : nhV} {x y : Int32} (h : nh_b i a b c d = some v) (h1 : a ≤ x.toInt) (h2 : x.toInt ≤ b) (h3 : c ≤ y.toInt) (h4 : y.toInt ≤ d) :
    ∃ r, nh_bS i x y = some r ∧ nhOk Γ g v (.int r) := by
  unfold nh_b at h
  split at h
  · rename_i q
    obtain ⟨rfl, rfl⟩ := q
    rw [← nh_eqI h1 h2, ← nh_eqI h3 h4] at h
    split at h
    · rename_i r hr
      cases h
      exact ⟨r, hr, r, rfl, by dsimp only; omega, by dsimp only; omega⟩
    · cases h
  · exact nh_bI_ok h h1 h2 h3 h4
