/-! A SECOND CHECKER. Abstract values: (tag, lo, hi), numbers with 18446744073709551616 added: 0 an int within, 5 the same and not 0, 1 a long within, 2 a reference of kind lo, 3 the same or null, else anything -/
abbrev nkV : Type := Nat × Nat × Nat
def nk_fl : nkV := (0, 18446744071562067968, 18446744075857035263)
def nk_fL : nkV := (1, 9223372036854775808, 27670116110564327423)
def nkOk (Γ : Nat → Nat) (v : nkV) (x : Value) : Prop :=
  match v.1 with
  | 0 => ∃ a : Int32, x = .int a ∧ (v.2.1 : Int) ≤ a.toInt + 18446744073709551616 ∧ a.toInt + 18446744073709551616 ≤ (v.2.2 : Int)
  | 1 => ∃ a : Int64, x = .long a ∧ (v.2.1 : Int) ≤ a.toInt + 18446744073709551616 ∧ a.toInt + 18446744073709551616 ≤ (v.2.2 : Int)
  | 2 => ∃ a : Nat, x = .ref a ∧ Γ a = v.2.1
  | 3 => x = .null ∨ ∃ a : Nat, x = .ref a ∧ Γ a = v.2.1
  | 5 => ∃ a : Int32, x = .int a ∧ a.toInt ≠ 0 ∧ (v.2.1 : Int) ≤ a.toInt + 18446744073709551616 ∧ a.toInt + 18446744073709551616 ≤ (v.2.2 : Int)
  | _ => True
def nk_in (u v : nkV) : Bool := Nat.ble v.2.1 u.2.1 && Nat.ble u.2.2 v.2.2
def nk_le (u v : nkV) : Bool :=
  match v.1 with
  | 0 => match u.1 with
    | 0 => nk_in u v
    | 5 => nk_in u v
    | _ => false
  | 1 => match u.1 with
    | 1 => nk_in u v
    | _ => false
  | 2 => match u.1 with
    | 2 => Nat.beq u.2.1 v.2.1
    | _ => false
  | 3 => match u.1 with
    | 2 => Nat.beq u.2.1 v.2.1
    | 3 => Nat.beq u.2.1 v.2.1
    | _ => false
  | 5 => match u.1 with
    | 5 => nk_in u v
    | 0 => nk_in u v && (Nat.ble 18446744073709551617 u.2.1 || Nat.ble u.2.2 18446744073709551615)
    | _ => false
  | 9 => true
  | _ => false
theorem nk_in_ok {u v : nkV} (h : nk_in u v = true) : v.2.1 ≤ u.2.1 ∧ u.2.2 ≤ v.2.2 := by
  unfold nk_in at h
  rw [Bool.and_eq_true] at h
  exact ⟨Nat.le_of_ble_eq_true h.1, Nat.le_of_ble_eq_true h.2⟩
theorem nk_le_ok {Γ : Nat → Nat} {u v : nkV} {x : Value} (h : nk_le u v = true) (hu : nkOk Γ u x) : nkOk Γ v x := by
  obtain ⟨t, a, b⟩ := u
  obtain ⟨t', a', b'⟩ := v
  unfold nk_le at h
  dsimp only at h
  split at h
  · split at h
    · have h1 := nk_in_ok h
      obtain ⟨z, e, q1, q2⟩ := hu
      dsimp only at h1 q1 q2
      exact ⟨z, e, by dsimp only; omega, by dsimp only; omega⟩
    · have h1 := nk_in_ok h
      obtain ⟨z, e, -, q1, q2⟩ := hu
      dsimp only at h1 q1 q2
      exact ⟨z, e, by dsimp only; omega, by dsimp only; omega⟩
    · cases h
  · split at h
    · have h1 := nk_in_ok h
      obtain ⟨z, e, q1, q2⟩ := hu
      dsimp only at h1 q1 q2
      exact ⟨z, e, by dsimp only; omega, by dsimp only; omega⟩
    · cases h
  · split at h
    · have h1 := Nat.eq_of_beq_eq_true h
      subst h1
      exact hu
    · cases h
  · split at h
    · have h1 := Nat.eq_of_beq_eq_true h
      subst h1
      exact Or.inr hu
    · have h1 := Nat.eq_of_beq_eq_true h
      subst h1
      exact hu
    · cases h
  · split at h
    · have h1 := nk_in_ok h
      obtain ⟨z, e, q0, q1, q2⟩ := hu
      dsimp only at h1 q1 q2
      exact ⟨z, e, q0, by dsimp only; omega, by dsimp only; omega⟩
    · rw [Bool.and_eq_true, Bool.or_eq_true] at h
      have h1 := nk_in_ok h.1
      obtain ⟨z, e, q1, q2⟩ := hu
      dsimp only at h1 q1 q2
      refine ⟨z, e, ?_, by dsimp only; omega, by dsimp only; omega⟩
      rcases h.2 with h2 | h2
      · have := Nat.le_of_ble_eq_true h2
        omega
      · have := Nat.le_of_ble_eq_true h2
        omega
    · cases h
  · trivial
  · cases h
/-- the interval of an int -/
def nk_iv (v : nkV) : Option (Nat × Nat) := match v.1 with
  | 0 => some v.2
  | 5 => some v.2
  | _ => none
theorem nk_iv_ok {Γ : Nat → Nat} {v : nkV} {x : Value} {q : Nat × Nat} (h : nk_iv v = some q) (hv : nkOk Γ v x) : ∃ a : Int32, x = .int a ∧ (q.1 : Int) ≤ a.toInt + 18446744073709551616 ∧ a.toInt + 18446744073709551616 ≤ (q.2 : Int) := by
  obtain ⟨t, lo, hi⟩ := v
  unfold nk_iv at h
  dsimp only at h
  split at h
  · cases h
    exact hv
  · cases h
    obtain ⟨a, e, -, h2⟩ := hv
    exact ⟨a, e, h2⟩
  · cases h
def nk_lv (v : nkV) : Option (Nat × Nat) := match v.1 with
  | 1 => some v.2
  | _ => none
theorem nk_lv_ok {Γ : Nat → Nat} {v : nkV} {x : Value} {q : Nat × Nat} (h : nk_lv v = some q) (hv : nkOk Γ v x) : ∃ a : Int64, x = .long a ∧ (q.1 : Int) ≤ a.toInt + 18446744073709551616 ∧ a.toInt + 18446744073709551616 ≤ (q.2 : Int) := by
  obtain ⟨t, lo, hi⟩ := v
  unfold nk_lv at h
  dsimp only at h
  split at h
  · cases h
    exact hv
  · cases h
def nk_cat (v : nkV) : Nat := match v.1 with
  | 0 => 0
  | 5 => 0
  | 1 => 1
  | 2 => 2
  | 3 => 2
  | _ => 9
theorem nk_cat_ok {Γ : Nat → Nat} {v : nkV} {x : Value} (h : nkOk Γ v x) : (nk_cat v = 0 → ∃ a : Int32, x = .int a) ∧ (nk_cat v = 1 → ∃ a : Int64, x = .long a) ∧ (nk_cat v = 2 → x = .null ∨ ∃ a : Nat, x = .ref a) := by
  obtain ⟨t, a, b⟩ := v
  unfold nk_cat
  unfold nkOk at h
  dsimp only at h ⊢
  split
  · obtain ⟨z, e, -⟩ := h
    exact ⟨fun _ => ⟨z, e⟩, fun q => absurd q (by decide), fun q => absurd q (by decide)⟩
  · obtain ⟨z, e, -⟩ := h
    exact ⟨fun _ => ⟨z, e⟩, fun q => absurd q (by decide), fun q => absurd q (by decide)⟩
  · obtain ⟨z, e, -⟩ := h
    exact ⟨fun q => absurd q (by decide), fun _ => ⟨z, e⟩, fun q => absurd q (by decide)⟩
  · obtain ⟨z, e, -⟩ := h
    exact ⟨fun q => absurd q (by decide), fun q => absurd q (by decide), fun _ => Or.inr ⟨z, e⟩⟩
  · refine ⟨fun q => absurd q (by decide), fun q => absurd q (by decide), fun _ => ?_⟩
    rcases h with h | ⟨z, e, -⟩
    · exact Or.inl h
    · exact Or.inr ⟨z, e⟩
  · exact ⟨fun q => absurd q (by decide), fun q => absurd q (by decide), fun q => absurd q (by decide)⟩
theorem nk_cat1 {Γ : Nat → Nat} {v : nkV} {x : Value} (h : nkOk Γ v x) (hc : nk_cat v = 0 ∨ nk_cat v = 2) : x.category = 1 := by
  have h1 := nk_cat_ok h
  rcases hc with hc | hc
  · obtain ⟨a, rfl⟩ := h1.1 hc
    rfl
  · rcases h1.2.2 hc with rfl | ⟨a, rfl⟩ <;> rfl
theorem nk_fl_ok (Γ : Nat → Nat) (a : Int32) : nkOk Γ nk_fl (.int a) := by
  have hr := fb_rng a
  exact ⟨a, rfl, by dsimp only [nk_fl]; omega, by dsimp only [nk_fl]; omega⟩
theorem nk_fL_ok (Γ : Nat → Nat) (a : Int64) : nkOk Γ nk_fL (.long a) := by
  have hr := fb_rngL a
  exact ⟨a, rfl, by dsimp only [nk_fL]; omega, by dsimp only [nk_fL]; omega⟩
/-- of sums with 2 18446744073709551616 added -/
def nk_mk (s t : Nat) : nkV := match Nat.ble 36893488145271619584 s && Nat.ble t 36893488149566586879 with
  | true => (0, s - 18446744073709551616, t - 18446744073709551616)
  | false => nk_fl
theorem nk_mk_ok {Γ : Nat → Nat} {s t : Nat} {r : Int32} (h : 36893488145271619584 ≤ s → t ≤ 36893488149566586879 → (s : Int) ≤ r.toInt + 36893488147419103232 ∧ r.toInt + 36893488147419103232 ≤ (t : Int)) : nkOk Γ (nk_mk s t) (.int r) := by
  unfold nk_mk
  split
  · rename_i q
    rw [Bool.and_eq_true] at q
    have q1 := Nat.le_of_ble_eq_true q.1
    have q2 := Nat.le_of_ble_eq_true q.2
    have := h q1 q2
    exact ⟨r, rfl, by dsimp only; omega, by dsimp only; omega⟩
  · exact nk_fl_ok Γ r
def nk_or (a b c d : Nat) : nkV := match Nat.ble 18446744073709551616 a && Nat.ble 18446744073709551616 c && Nat.ble (Nat.log2 (Nat.max b d - 18446744073709551616)) 30 with
  | true => (0, 18446744073709551616, 18446744073709551615 + 2 ^ (Nat.log2 (Nat.max b d - 18446744073709551616) + 1))
  | false => nk_fl
/-- a mask of eight bits -/
def nk_m255 (a b c d : Nat) : Option nkV := match Nat.beq c 18446744073709551871 && Nat.beq d 18446744073709551871 with
  | true => match Nat.ble 18446744073709551616 a && Nat.ble b 18446744073709551871 with
    | true => some (0, a, b)
    | false => match Nat.ble 18446744073709551360 a && Nat.ble b 18446744073709551615 with
      | true => some (0, a + 256, b + 256)
      | false => none
  | false => none
theorem nk_and255 {x y : Int32} (h : y.toInt = 255) : (0 ≤ x.toInt → x.toInt ≤ 255 → (x &&& y).toInt = x.toInt) ∧ (-256 ≤ x.toInt → x.toInt < 0 → (x &&& y).toInt = x.toInt + 256) := by
  obtain ⟨j, hj, ey, ej⟩ := nh_nI (x := y) (by omega)
  have e255 : j = 255 := by omega
  subst e255
  have ex : x = nI x.toBitVec.toNat := by
    apply Int32.toBitVec_inj.1
    show x.toBitVec = BitVec.ofNat 32 x.toBitVec.toNat
    simp
  have hm : x.toBitVec.toNat &&& 255 = x.toBitVec.toNat % 256 := Nat.and_two_pow_sub_one_eq_mod x.toBitVec.toNat 8
  have key : (x &&& y).toInt = ((x.toBitVec.toNat % 256 : Nat) : Int) := by
    rw [ey]
    conv => lhs; rw [ex]
    rw [fa_and, hm, nI_toInt (by omega)]
  have hx := BitVec.toInt_eq_toNat_cond x.toBitVec
  have hx' : x.toInt = x.toBitVec.toInt := rfl
  rw [← hx'] at hx
  have hl := x.toBitVec.isLt
  rw [key]
  split at hx
  · exact ⟨fun a b => by omega, fun a b => by omega⟩
  · exact ⟨fun a b => by omega, fun a b => by omega⟩
theorem nk_m255_ok {Γ : Nat → Nat} {a b c d : Nat} {v : nkV} {x y : Int32} (h : nk_m255 a b c d = some v) (h1 : (a : Int) ≤ x.toInt + 18446744073709551616) (h2 : x.toInt + 18446744073709551616 ≤ (b : Int)) (h3 : (c : Int) ≤ y.toInt + 18446744073709551616) (h4 : y.toInt + 18446744073709551616 ≤ (d : Int)) : nkOk Γ v (.int (x &&& y)) := by
  unfold nk_m255 at h
  split at h
  · rename_i q
    rw [Bool.and_eq_true] at q
    have q1 := Nat.eq_of_beq_eq_true q.1
    have q2 := Nat.eq_of_beq_eq_true q.2
    have hm := nk_and255 (x := x) (y := y) (by omega)
    split at h
    · rename_i r
      rw [Bool.and_eq_true] at r
      have r1 := Nat.le_of_ble_eq_true r.1
      have r2 := Nat.le_of_ble_eq_true r.2
      have e := hm.1 (by omega) (by omega)
      have h := Option.some.inj h
      subst h
      exact ⟨_, rfl, by dsimp only; omega, by dsimp only; omega⟩
    · split at h
      · rename_i r
        rw [Bool.and_eq_true] at r
        have r1 := Nat.le_of_ble_eq_true r.1
        have r2 := Nat.le_of_ble_eq_true r.2
        have e := hm.2 (by omega) (by omega)
        have h := Option.some.inj h
        subst h
        exact ⟨_, rfl, by dsimp only; omega, by dsimp only; omega⟩
      · cases h
  · cases h
theorem nk_shrI {u w : Nat} (hu : u < 2 ^ 31) (hw : w < 32) : nI u >>> (nI w &&& 31) = nI (Nat.shiftRight u w) := by
  rw [pk_shrN hu _ w (s_l w hw)]
  show nI (u / 2 ^ w) = nI (u >>> w)
  rw [Nat.shiftRight_eq_div_pow]
theorem nk_shlI {u w : Nat} (hw : w < 32) (hb : u * 2 ^ w ≤ 2147483647) : nI u <<< (nI w &&& 31) = nI (u * 2 ^ w) := pk_shlN _ w (s_l w (by omega)) (by omega)
/-- bits of two numbers that are known -/
def nk_mz (x : Nat) : Nat := x - 18446744073709551616
theorem nk_mz_ok (x : Nat) : nk_mz x = x - 18446744073709551616 := rfl
def nk_cst1 (i : Instr) (u w : Nat) : Option Nat := match i with
  | .ior => some (Nat.lor u w)
  | .iand => some (Nat.land u w)
  | .ishr => match Nat.ble w 30 with
    | true => some (Nat.shiftRight u w)
    | false => none
  | .ishl => match Nat.ble w 30 && Nat.ble (u * 2 ^ w) 2147483647 with
    | true => some (u * 2 ^ w)
    | false => none
  | _ => none
theorem nk_cst1_ok {i : Instr} {u w n : Nat} (hu : u < 2 ^ 31) (hw : w < 2 ^ 31) (h : nk_cst1 i u w = some n) : n < 2 ^ 31 ∧ nh_bS i (nI u) (nI w) = some (nI n) := by
  unfold nk_cst1 at h
  split at h
  · have h := Option.some.inj h
    refine ⟨by rw [← h]; exact Nat.or_lt_two_pow hu hw, ?_⟩
    show some (nI u ||| nI w) = _
    rw [fa_or, ← h]
    rfl
  · have h := Option.some.inj h
    refine ⟨by rw [← h]; exact Nat.lt_of_le_of_lt Nat.and_le_left hu, ?_⟩
    show some (nI u &&& nI w) = _
    rw [fa_and, ← h]
    rfl
  · split at h
    · rename_i r
      have r := Nat.le_of_ble_eq_true r
      have h := Option.some.inj h
      refine ⟨by rw [← h]; exact Nat.lt_of_le_of_lt (Nat.shiftRight_le u w) hu, ?_⟩
      show some (nI u >>> (nI w &&& 31)) = _
      rw [nk_shrI hu (by omega), ← h]
    · cases h
  · split at h
    · rename_i r
      rw [Bool.and_eq_true] at r
      have r1 := Nat.le_of_ble_eq_true r.1
      have r2 := Nat.le_of_ble_eq_true r.2
      have h := Option.some.inj h
      refine ⟨by omega, ?_⟩
      show some (nI u <<< (nI w &&& 31)) = _
      rw [nk_shlI (by omega) r2, ← h]
    · cases h
  · cases h
def nk_cst (i : Instr) (a b c d : Nat) : Option Nat := match Nat.beq a b && (Nat.beq c d && (Nat.ble 18446744073709551616 a && (Nat.ble 18446744073709551616 c && (Nat.ble a 18446744075857035263 && Nat.ble c 18446744075857035263)))) with
  | true => nk_cst1 i (nk_mz a) (nk_mz c)
  | false => none
theorem nk_cst_fin {Γ : Nat → Nat} {n : Nat} (h : n < 2 ^ 31) : nkOk Γ (0, 18446744073709551616 + n, 18446744073709551616 + n) (.int (nI n)) := by
  have e2 := nI_toInt h
  exact ⟨_, rfl, by dsimp only; omega, by dsimp only; omega⟩
theorem nk_cst_ok {Γ : Nat → Nat} {i : Instr} {a b c d n : Nat} {x y : Int32} (h : nk_cst i a b c d = some n) (h1 : (a : Int) ≤ x.toInt + 18446744073709551616) (h2 : x.toInt + 18446744073709551616 ≤ (b : Int)) (h3 : (c : Int) ≤ y.toInt + 18446744073709551616) (h4 : y.toInt + 18446744073709551616 ≤ (d : Int)) : ∃ r, nh_bS i x y = some r ∧ nkOk Γ (0, 18446744073709551616 + n, 18446744073709551616 + n) (.int r) := by
  unfold nk_cst at h
  split at h
  · rename_i q
    simp only [Bool.and_eq_true] at q
    obtain ⟨q1, q2, q3, q4, q5, q6⟩ := q
    have q1 := Nat.eq_of_beq_eq_true q1
    have q2 := Nat.eq_of_beq_eq_true q2
    have q3 := Nat.le_of_ble_eq_true q3
    have q4 := Nat.le_of_ble_eq_true q4
    have q5 := Nat.le_of_ble_eq_true q5
    have q6 := Nat.le_of_ble_eq_true q6
    obtain ⟨u, hu, eu, fu⟩ := nh_nI (x := x) (by omega)
    obtain ⟨w, hw, ew, fw⟩ := nh_nI (x := y) (by omega)
    have eA : nk_mz a = u := by rw [nk_mz_ok]; omega
    have eC : nk_mz c = w := by rw [nk_mz_ok]; omega
    rw [eA, eC] at h
    obtain ⟨g1, g2⟩ := nk_cst1_ok hu hw h
    rw [eu, ew]
    exact ⟨_, g2, nk_cst_fin g1⟩
  · cases h
def nk_b0 (i : Instr) (a b c d : Nat) (nz : Bool) : Option nkV := match i with
  | .iadd => some (nk_mk (a + c) (b + d))
  | .isub => some (nk_mk (a + 36893488147419103232 - d) (b + 36893488147419103232 - c))
  | .imul => match Nat.ble 18446744073709551616 a && Nat.ble 18446744073709551616 c with
    | true => some (nk_mk ((a - 18446744073709551616) * (c - 18446744073709551616) + 36893488147419103232) ((b - 18446744073709551616) * (d - 18446744073709551616) + 36893488147419103232))
    | false => some nk_fl
  | .iand => match nk_m255 a b c d with
    | some v => some v
    | none => match Nat.ble 18446744073709551616 c with
      | true => match Nat.ble 18446744073709551616 a && Nat.ble b d with
        | true => some (0, 18446744073709551616, b)
        | false => some (0, 18446744073709551616, d)
      | false => match Nat.ble 18446744073709551616 a with
        | true => some (0, 18446744073709551616, b)
        | false => some nk_fl
  | .ior => some (nk_or a b c d)
  | .ixor => some (nk_or a b c d)
  | .ishl => match Nat.ble 18446744073709551616 a && (Nat.ble 18446744073709551616 c && (Nat.ble d 18446744073709551646 && Nat.ble ((b - 18446744073709551616) * 2 ^ (d - 18446744073709551616)) 2147483647)) with
    | true => some (0, 18446744073709551616, 18446744073709551616 + (b - 18446744073709551616) * 2 ^ (d - 18446744073709551616))
    | false => some nk_fl
  | .ishr => match Nat.ble 18446744073709551616 a with
    | true => some (0, 18446744073709551616, b)
    | false => some nk_fl
  | .iushr => some nk_fl
  | .idiv => match Nat.ble 18446744073709551616 a && Nat.ble 18446744073709551617 c with
    | true => some (0, (a - 18446744073709551616) / (d - 18446744073709551616) + 18446744073709551616, (b - 18446744073709551616) / (c - 18446744073709551616) + 18446744073709551616)
    | false => match Nat.ble 18446744073709551617 c || (Nat.ble d 18446744073709551615 || nz) with
      | true => some nk_fl
      | false => none
  | .irem => match Nat.ble 18446744073709551617 c with
    | true => match Nat.ble 18446744073709551616 a with
      | true => match Nat.ble b (d - 1) with
        | true => some (0, 18446744073709551616, b)
        | false => some (0, 18446744073709551616, d - 1)
      | false => some (0, 36893488147419103233 - d, d - 1)
    | false => match Nat.ble d 18446744073709551615 || nz with
      | true => some nk_fl
      | false => none
  | _ => none
theorem nk_b0_ok {Γ : Nat → Nat} {i : Instr} {a b c d : Nat} {nz : Bool} {v : nkV} {x y : Int32} (h : nk_b0 i a b c d nz = some v) (h1 : (a : Int) ≤ x.toInt + 18446744073709551616) (h2 : x.toInt + 18446744073709551616 ≤ (b : Int)) (h3 : (c : Int) ≤ y.toInt + 18446744073709551616) (h4 : y.toInt + 18446744073709551616 ≤ (d : Int)) (h5 : nz = true → y.toInt ≠ 0) :
    ∃ r, nh_bS i x y = some r ∧ nkOk Γ v (.int r) := by
  have rx := fb_rng x
  have ry := fb_rng y
  have ne0 : ∀ {z : Int32}, z.toInt ≠ 0 → ¬ z = 0 := fun hz e => by rw [e] at hz; simp at hz
  have ble : ∀ {m n : Nat}, Nat.ble m n = true → m ≤ n := fun h => Nat.le_of_ble_eq_true h
  have orc : ∀ {m k : Nat} {z : Int32}, z.toInt + 18446744073709551616 ≤ (m : Int) → m ≤ k → 0 ≤ z.toInt → z.toInt < 2 ^ (Nat.log2 (k - 18446744073709551616) + 1) := fun {m k z} q1 q2 q3 => by
    have q4 : k - 18446744073709551616 < 2 ^ (Nat.log2 (k - 18446744073709551616) + 1) := Nat.lt_log2_self
    have q5 : ((k - 18446744073709551616 : Nat) : Int) < ((2 ^ (Nat.log2 (k - 18446744073709551616) + 1) : Nat) : Int) := by exact_mod_cast q4
    rw [Int.natCast_pow] at q5
    have q6 : z.toInt ≤ ((k - 18446744073709551616 : Nat) : Int) := by omega
    exact Int.lt_of_le_of_lt q6 q5
  have inj : ∀ {w : nkV}, some w = some v → w = v := fun q => Option.some.inj q
  unfold nk_b0 at h
  split at h
  · cases h
    exact ⟨_, rfl, nk_mk_ok fun q1 q2 => by rw [fb_addI (by omega) (by omega)]; omega⟩
  · cases h
    exact ⟨_, rfl, nk_mk_ok fun q1 q2 => by rw [fb_subI (by omega) (by omega)]; omega⟩
  · split at h
    · rename_i q
      rw [Bool.and_eq_true] at q
      have q1 := ble q.1
      have q2 := ble q.2
      obtain ⟨A, rfl⟩ : ∃ A, a = A + 18446744073709551616 := ⟨a - 18446744073709551616, by omega⟩
      obtain ⟨B', rfl⟩ : ∃ A, b = A + 18446744073709551616 := ⟨b - 18446744073709551616, by omega⟩
      obtain ⟨C, rfl⟩ : ∃ A, c = A + 18446744073709551616 := ⟨c - 18446744073709551616, by omega⟩
      obtain ⟨D', rfl⟩ : ∃ A, d = A + 18446744073709551616 := ⟨d - 18446744073709551616, by omega⟩
      simp only [Nat.add_sub_cancel] at h
      have h := inj h
      subst h
      refine ⟨x * y, rfl, ?_⟩
      generalize hs : A * C + 36893488147419103232 = s
      generalize ht : B' * D' + 36893488147419103232 = t
      apply nk_mk_ok
      intro p1 p2
      have e1 : (A : Int) * (C : Int) ≤ x.toInt * y.toInt := Int.mul_le_mul (by omega) (by omega) (by omega) (by omega)
      have e2 : x.toInt * y.toInt ≤ (B' : Int) * (D' : Int) := Int.mul_le_mul (by omega) (by omega) (by omega) (by omega)
      rw [← Int.natCast_mul] at e1 e2
      rw [fb_mulI (by omega) (by omega)]
      omega
    · cases h
      exact ⟨_, rfl, nk_fl_ok Γ _⟩
  · split at h
    · rename_i v0 hv0
      have h := inj h
      subst h
      exact ⟨_, rfl, nk_m255_ok hv0 h1 h2 h3 h4⟩
    · split at h
      · rename_i q
        have q := ble q
        have e1 := nh_andR x (y := y) (by omega)
        split at h
        · rename_i q2
          rw [Bool.and_eq_true] at q2
          have q3 := ble q2.1
          have h := inj h
          subst h
          have e2 := nh_andL (x := x) y (by omega)
          exact ⟨_, rfl, _, rfl, by dsimp only; omega, by dsimp only; omega⟩
        · cases h
          exact ⟨_, rfl, _, rfl, by dsimp only; omega, by dsimp only; omega⟩
      · split at h
        · rename_i q
          have q := ble q
          have h := inj h
          subst h
          have e2 := nh_andL (x := x) y (by omega)
          exact ⟨_, rfl, _, rfl, by dsimp only; omega, by dsimp only; omega⟩
        · cases h
          exact ⟨_, rfl, nk_fl_ok Γ _⟩
  · cases h
    unfold nk_or
    split
    · rename_i q
      rw [Bool.and_eq_true, Bool.and_eq_true] at q
      have q1 := ble q.1.1
      have q2 := ble q.1.2
      have q3 := ble q.2
      have e1 := nh_or (k := Nat.log2 (Nat.max b d - 18446744073709551616) + 1) (by omega) (x := x) (y := y) (by omega) (by omega) (orc h2 (Nat.le_max_left _ _) (by omega)) (orc h4 (Nat.le_max_right _ _) (by omega))
      refine ⟨_, rfl, _, rfl, by dsimp only; omega, ?_⟩
      have e2 : ((18446744073709551615 + 2 ^ (Nat.log2 (Nat.max b d - 18446744073709551616) + 1) : Nat) : Int) = 18446744073709551615 + 2 ^ (Nat.log2 (Nat.max b d - 18446744073709551616) + 1) := by rw [Int.natCast_add, Int.natCast_pow]; rfl
      dsimp only
      rw [e2]
      omega
    · exact ⟨_, rfl, nk_fl_ok Γ _⟩
  · cases h
    unfold nk_or
    split
    · rename_i q
      rw [Bool.and_eq_true, Bool.and_eq_true] at q
      have q1 := ble q.1.1
      have q2 := ble q.1.2
      have q3 := ble q.2
      have e1 := nh_xor (k := Nat.log2 (Nat.max b d - 18446744073709551616) + 1) (by omega) (x := x) (y := y) (by omega) (by omega) (orc h2 (Nat.le_max_left _ _) (by omega)) (orc h4 (Nat.le_max_right _ _) (by omega))
      refine ⟨_, rfl, _, rfl, by dsimp only; omega, ?_⟩
      have e2 : ((18446744073709551615 + 2 ^ (Nat.log2 (Nat.max b d - 18446744073709551616) + 1) : Nat) : Int) = 18446744073709551615 + 2 ^ (Nat.log2 (Nat.max b d - 18446744073709551616) + 1) := by rw [Int.natCast_add, Int.natCast_pow]; rfl
      dsimp only
      rw [e2]
      omega
    · exact ⟨_, rfl, nk_fl_ok Γ _⟩
  · split at h
    · rename_i q
      simp only [Bool.and_eq_true] at q
      have q1 := ble q.1
      have q2 := ble q.2.1
      have q3 := ble q.2.2.1
      have q4 := ble q.2.2.2
      obtain ⟨B', rfl⟩ : ∃ A, b = A + 18446744073709551616 := ⟨b - 18446744073709551616, by omega⟩
      obtain ⟨D', rfl⟩ : ∃ A, d = A + 18446744073709551616 := ⟨d - 18446744073709551616, by omega⟩
      simp only [Nat.add_sub_cancel] at h q4
      have h := inj h
      subst h
      have hp : (0 : Int) ≤ 2 ^ D' := Int.pow_nonneg (by omega)
      have e0 : x.toInt * 2 ^ D' ≤ (B' : Int) * 2 ^ D' := Int.mul_le_mul_of_nonneg_right (by omega) hp
      have e5 : ((B' * 2 ^ D' : Nat) : Int) = (B' : Int) * 2 ^ D' := by rw [Int.natCast_mul, Int.natCast_pow]; rfl
      rw [← e5] at e0
      have e1 := nh_shl (x := x) (y := y) (d := D') (by omega) (by omega) (by omega) (by omega) (by omega)
      refine ⟨_, rfl, _, rfl, by dsimp only; omega, ?_⟩
      dsimp only
      rw [Int.natCast_add]
      have e6 : x.toInt * 2 ^ D' ≤ ((B' * 2 ^ D' : Nat) : Int) := e0
      omega
    · cases h
      exact ⟨_, rfl, nk_fl_ok Γ _⟩
  · split at h
    · rename_i q
      have q := ble q
      cases h
      have e1 := nh_shr (x := x) y (by omega)
      exact ⟨_, rfl, _, rfl, by dsimp only; omega, by dsimp only; omega⟩
    · cases h
      exact ⟨_, rfl, nk_fl_ok Γ _⟩
  · cases h
    exact ⟨_, rfl, nk_fl_ok Γ _⟩
  · split at h
    · rename_i q
      rw [Bool.and_eq_true] at q
      have q1 := ble q.1
      have q2 := ble q.2
      obtain ⟨A, rfl⟩ : ∃ A, a = A + 18446744073709551616 := ⟨a - 18446744073709551616, by omega⟩
      obtain ⟨B', rfl⟩ : ∃ A, b = A + 18446744073709551616 := ⟨b - 18446744073709551616, by omega⟩
      obtain ⟨C, rfl⟩ : ∃ A, c = A + 18446744073709551616 := ⟨c - 18446744073709551616, by omega⟩
      obtain ⟨D', rfl⟩ : ∃ A, d = A + 18446744073709551616 := ⟨d - 18446744073709551616, by omega⟩
      simp only [Nat.add_sub_cancel] at h
      have h := inj h
      subst h
      refine ⟨x / y, by simp only [nh_bS]; rw [if_neg (ne0 (by omega))], _, rfl, ?_⟩
      dsimp only
      rw [nh_div (by omega) (by omega), Int.natCast_add, Int.natCast_add, Int.natCast_ediv, Int.natCast_ediv]
      have g1 : (A : Int) ≤ x.toInt := by omega
      have g2 : x.toInt ≤ (B' : Int) := by omega
      have g3 : (C : Int) ≤ y.toInt := by omega
      have g4 : y.toInt ≤ (D' : Int) := by omega
      have g5 : (1 : Int) ≤ (C : Int) := by omega
      have g6 : (0 : Int) ≤ (A : Int) := by omega
      generalize (A : Int) = a' at g1 g6 ⊢
      generalize (B' : Int) = b' at g2 ⊢
      generalize (C : Int) = c' at g3 g5 ⊢
      generalize (D' : Int) = d' at g4 ⊢
      have k0 : a' / d' ≤ x.toInt / y.toInt := by
        refine Int.le_trans (Int.ediv_le_ediv (by omega) g1) ?_
        refine Int.le_ediv_of_mul_le (by omega) ?_
        have k1 : x.toInt / d' * y.toInt ≤ x.toInt / d' * d' := Int.mul_le_mul_of_nonneg_left g4 (Int.ediv_nonneg (by omega) (by omega))
        have k2 : x.toInt / d' * d' ≤ x.toInt := Int.ediv_mul_le _ (by omega)
        omega
      have k3 : x.toInt / y.toInt ≤ b' / c' := by
        refine Int.le_trans (Int.ediv_le_ediv (by omega) g2) ?_
        refine Int.le_ediv_of_mul_le (by omega) ?_
        have k1 : b' / y.toInt * c' ≤ b' / y.toInt * y.toInt := Int.mul_le_mul_of_nonneg_left g3 (Int.ediv_nonneg (by omega) (by omega))
        have k2 : b' / y.toInt * y.toInt ≤ b' := Int.ediv_mul_le _ (by omega)
        omega
      omega
    · split at h
      · rename_i q
        rw [Bool.or_eq_true, Bool.or_eq_true] at q
        cases h
        have hz : y.toInt ≠ 0 := by
          rcases q with q | q | q
          · have := ble q; omega
          · have := ble q; omega
          · exact h5 q
        exact ⟨_, by simp only [nh_bS]; rw [if_neg (ne0 hz)], nk_fl_ok Γ _⟩
      · cases h
  · split at h
    · rename_i q
      have q := ble q
      have hb := tmod_bounds (a := x.toInt) (M := y.toInt) (by omega)
      have hn : nh_bS .irem x y = some (x - x / y * y) := by simp only [nh_bS]; rw [if_neg (ne0 (by omega))]
      have hr := rem_toInt x y
      split at h
      · rename_i q0
        have q0 := ble q0
        have h0 : 0 ≤ x.toInt.tmod y.toInt ∧ x.toInt.tmod y.toInt ≤ x.toInt := by
          rw [Int.tmod_eq_emod_of_nonneg (by omega)]
          exact ⟨Int.emod_nonneg _ (by omega), by
            have := Int.ediv_nonneg (a := x.toInt) (b := y.toInt) (by omega) (by omega)
            have k := Int.mul_ediv_add_emod x.toInt y.toInt
            have k2 : 0 ≤ y.toInt * (x.toInt / y.toInt) := Int.mul_nonneg (by omega) this
            omega⟩
        split at h
        · cases h
          exact ⟨_, hn, _, rfl, by dsimp only; omega, by dsimp only; omega⟩
        · cases h
          exact ⟨_, hn, _, rfl, by dsimp only; omega, by dsimp only; omega⟩
      · cases h
        exact ⟨_, hn, _, rfl, by dsimp only; omega, by dsimp only; omega⟩
    · split at h
      · rename_i q
        rw [Bool.or_eq_true] at q
        cases h
        have hz : y.toInt ≠ 0 := by
          rcases q with q | q
          · have := ble q; omega
          · exact h5 q
        exact ⟨_, by simp only [nh_bS]; rw [if_neg (ne0 hz)], nk_fl_ok Γ _⟩
      · cases h
  · cases h
def nk_b (i : Instr) (a b c d : Nat) (nz : Bool) : Option nkV := match nk_cst i a b c d with
  | some n => some (0, 18446744073709551616 + n, 18446744073709551616 + n)
  | none => nk_b0 i a b c d nz
theorem nk_b_ok {Γ : Nat → Nat} {i : Instr} {a b c d : Nat} {nz : Bool} {v : nkV} {x y : Int32} (h : nk_b i a b c d nz = some v) (h1 : (a : Int) ≤ x.toInt + 18446744073709551616) (h2 : x.toInt + 18446744073709551616 ≤ (b : Int)) (h3 : (c : Int) ≤ y.toInt + 18446744073709551616) (h4 : y.toInt + 18446744073709551616 ≤ (d : Int)) (h5 : nz = true → y.toInt ≠ 0) :
    ∃ r, nh_bS i x y = some r ∧ nkOk Γ v (.int r) := by
  unfold nk_b at h
  split at h
  · rename_i n hn
    have h := Option.some.inj h
    subst h
    exact nk_cst_ok hn h1 h2 h3 h4
  · exact nk_b0_ok h h1 h2 h3 h4 h5
