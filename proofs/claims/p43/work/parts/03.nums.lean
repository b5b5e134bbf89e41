/-! plain facts on ints (begun from the kit's COUNTS, NUMBERS and BITS rows) -/
theorem fb_rng (x : Int32) : -2147483648 ≤ x.toInt ∧ x.toInt < 2147483648 := by
  have h1 := Int32.le_toInt x
  have h2 := Int32.toInt_lt x
  omega
theorem fb_bmod {z : Int} (h1 : -2147483648 ≤ z) (h2 : z < 2147483648) : z.bmod (2 ^ 32) = z := by
  rw [Int.bmod_eq_of_le (by omega) (by omega)]
theorem fb_addI {x y : Int32} (h1 : -2147483648 ≤ x.toInt + y.toInt) (h2 : x.toInt + y.toInt < 2147483648) : (x + y).toInt = x.toInt + y.toInt := by
  rw [Int32.toInt_add, fb_bmod h1 h2]
theorem fb_subI {x y : Int32} (h1 : -2147483648 ≤ x.toInt - y.toInt) (h2 : x.toInt - y.toInt < 2147483648) : (x - y).toInt = x.toInt - y.toInt := by
  rw [Int32.toInt_sub, fb_bmod h1 h2]
theorem fb_mulI {x y : Int32} (h1 : -2147483648 ≤ x.toInt * y.toInt) (h2 : x.toInt * y.toInt < 2147483648) : (x * y).toInt = x.toInt * y.toInt := by
  rw [Int32.toInt_mul, fb_bmod h1 h2]
theorem fb_negI {x : Int32} (h : x.toInt ≠ -2147483648) : (-x).toInt = -x.toInt := by
  have := fb_rng x
  rw [Int32.toInt_neg, fb_bmod (by omega) (by omega)]
theorem fb_ofI {z : Int} (h1 : -2147483648 ≤ z) (h2 : z < 2147483648) : (Int32.ofInt z).toInt = z := by
  rw [Int32.toInt_ofInt, fb_bmod h1 h2]
theorem fb_asI (x : Int32) : Int32.ofInt x.toInt = x := Int32.ofInt_toInt x
theorem fb_rngL (x : Int64) : -9223372036854775808 ≤ x.toInt ∧ x.toInt < 9223372036854775808 := by
  have h1 := Int64.le_toInt x
  have h2 := Int64.toInt_lt x
  omega
theorem s_l : ∀ n, n < 32 → ((nI n &&& 31).toBitVec.smod 32).toNat = n := by decide +kernel
theorem fa_or (a b : Nat) : nI a ||| nI b = nI (a ||| b) := by
  apply Int32.toBitVec_inj.1
  show BitVec.ofNat 32 a ||| BitVec.ofNat 32 b = BitVec.ofNat 32 (a ||| b)
  apply BitVec.eq_of_getLsbD_eq
  intro i hi
  simp [hi]
theorem fa_and (a b : Nat) : nI a &&& nI b = nI (a &&& b) := by
  apply Int32.toBitVec_inj.1
  show BitVec.ofNat 32 a &&& BitVec.ofNat 32 b = BitVec.ofNat 32 (a &&& b)
  apply BitVec.eq_of_getLsbD_eq
  intro i hi
  simp [hi]
theorem fb_xorI (a b : Nat) : nI a ^^^ nI b = nI (a ^^^ b) := by
  apply Int32.toBitVec_inj.1
  show BitVec.ofNat 32 a ^^^ BitVec.ofNat 32 b = BitVec.ofNat 32 (a ^^^ b)
  apply BitVec.eq_of_getLsbD_eq
  intro i hi
  simp [hi]
theorem nh_nI {x : Int32} (h : 0 ≤ x.toInt) : ∃ j : Nat, j < 2 ^ 31 ∧ x = nI j ∧ x.toInt = (j : Int) := by
  obtain ⟨j, hj, e⟩ := nI_of (x := x) (fun q => by have := (Int32.lt_iff_toInt_lt).mp q; simp at this; omega)
  exact ⟨j, hj, e, by rw [e]; exact nI_toInt hj⟩
theorem nh_any (x : Int32) : ∃ j : Nat, j < 2 ^ 32 ∧ x = nI j := by
  refine ⟨x.toBitVec.toNat, x.toBitVec.isLt, ?_⟩
  apply Int32.toBitVec_inj.1
  show x.toBitVec = BitVec.ofNat 32 x.toBitVec.toNat
  simp
theorem nh_andR (x : Int32) {y : Int32} (h : 0 ≤ y.toInt) : 0 ≤ (x &&& y).toInt ∧ (x &&& y).toInt ≤ y.toInt := by
  obtain ⟨j, hj, e, ej⟩ := nh_nI h
  obtain ⟨i, hi, e2⟩ := nh_any x
  have hle : i &&& j ≤ j := Nat.and_le_right
  rw [ej, e, e2, fa_and, nI_toInt (by omega)]
  omega
theorem nh_andL {x : Int32} (y : Int32) (h : 0 ≤ x.toInt) : 0 ≤ (x &&& y).toInt ∧ (x &&& y).toInt ≤ x.toInt := by
  obtain ⟨j, hj, e, ej⟩ := nh_nI h
  obtain ⟨i, hi, e2⟩ := nh_any y
  have hle : j &&& i ≤ j := Nat.and_le_left
  rw [ej, e, e2, fa_and, nI_toInt (by omega)]
  omega
theorem nh_or {x y : Int32} {k : Nat} (hk : k ≤ 31) (hx : 0 ≤ x.toInt) (hy : 0 ≤ y.toInt) (hx2 : x.toInt < 2 ^ k) (hy2 : y.toInt < 2 ^ k) : 0 ≤ (x ||| y).toInt ∧ (x ||| y).toInt < 2 ^ k := by
  obtain ⟨i, hi, e, ei⟩ := nh_nI hx
  obtain ⟨j, hj, e2, ej⟩ := nh_nI hy
  have h1 : i < 2 ^ k := by rw [ei] at hx2; exact_mod_cast hx2
  have h2 : j < 2 ^ k := by rw [ej] at hy2; exact_mod_cast hy2
  have h3 : i ||| j < 2 ^ k := Nat.or_lt_two_pow h1 h2
  have h4 : 2 ^ k ≤ 2 ^ 31 := Nat.pow_le_pow_right (by omega) hk
  rw [e, e2, fa_or, nI_toInt (by omega)]
  exact ⟨by omega, by exact_mod_cast h3⟩
theorem nh_xor {x y : Int32} {k : Nat} (hk : k ≤ 31) (hx : 0 ≤ x.toInt) (hy : 0 ≤ y.toInt) (hx2 : x.toInt < 2 ^ k) (hy2 : y.toInt < 2 ^ k) : 0 ≤ (x ^^^ y).toInt ∧ (x ^^^ y).toInt < 2 ^ k := by
  obtain ⟨i, hi, e, ei⟩ := nh_nI hx
  obtain ⟨j, hj, e2, ej⟩ := nh_nI hy
  have h1 : i < 2 ^ k := by rw [ei] at hx2; exact_mod_cast hx2
  have h2 : j < 2 ^ k := by rw [ej] at hy2; exact_mod_cast hy2
  have h3 : i ^^^ j < 2 ^ k := Nat.xor_lt_two_pow h1 h2
  have h4 : 2 ^ k ≤ 2 ^ 31 := Nat.pow_le_pow_right (by omega) hk
  rw [e, e2, fb_xorI, nI_toInt (by omega)]
  exact ⟨by omega, by exact_mod_cast h3⟩
theorem nh_cnt (y : Int32) : ∃ k : Nat, k < 32 ∧ ((y &&& 31).toBitVec.smod 32).toNat = k := by
  obtain ⟨j, hj, e⟩ := pk_andE y (m := 31) 5 (by decide)
  refine ⟨j, by omega, ?_⟩
  have h := s_l j (by omega)
  have h31 : nI j &&& 31 = nI j := by
    have := pk_andN (n := j) (by omega) (m := 31) 5 (by decide)
    rw [this, Nat.mod_eq_of_lt (by omega)]
  rw [h31] at h
  rw [e]; exact h
theorem nh_shr {x : Int32} (y : Int32) (h : 0 ≤ x.toInt) : 0 ≤ (x >>> (y &&& 31)).toInt ∧ (x >>> (y &&& 31)).toInt ≤ x.toInt := by
  obtain ⟨j, hj, e, ej⟩ := nh_nI h
  obtain ⟨k, hk, ek⟩ := nh_cnt y
  have hd : j / 2 ^ k ≤ j := Nat.div_le_self _ _
  rw [ej, e, pk_shrN hj _ k ek, nI_toInt (by omega)]
  exact ⟨Int.natCast_nonneg _, Int.ofNat_le.mpr hd⟩
theorem nh_shl {x y : Int32} {d : Nat} (hd : d < 32) (hx : 0 ≤ x.toInt) (hy : 0 ≤ y.toInt) (hy2 : y.toInt ≤ d) (hb : x.toInt * 2 ^ d ≤ 2147483647) : 0 ≤ (x <<< (y &&& 31)).toInt ∧ (x <<< (y &&& 31)).toInt ≤ x.toInt * 2 ^ d := by
  obtain ⟨i, hi, e, ei⟩ := nh_nI hx
  obtain ⟨j, hj, e2, ej⟩ := nh_nI hy
  have hjd : j ≤ d := by rw [ej] at hy2; exact_mod_cast hy2
  have h1 : i * 2 ^ j ≤ i * 2 ^ d := Nat.mul_le_mul_left _ (Nat.pow_le_pow_right (by omega) hjd)
  have hc : ((i * 2 ^ d : Nat) : Int) = (i : Int) * 2 ^ d := by rw [Int.natCast_mul, Int.natCast_pow]; rfl
  have h2 : i * 2 ^ d ≤ 2147483647 := by
    rw [ei, ← hc] at hb
    omega
  rw [ei, e, e2, pk_shlN _ j (s_l j (by omega)) (by omega), nI_toInt (by omega), ← hc]
  exact ⟨Int.natCast_nonneg _, Int.ofNat_le.mpr h1⟩
theorem nh_div {x y : Int32} (hx : 0 ≤ x.toInt) (hy : 1 ≤ y.toInt) : (x / y).toInt = x.toInt / y.toInt := by
  obtain ⟨i, hi, e, ei⟩ := nh_nI hx
  obtain ⟨j, hj, e2, ej⟩ := nh_nI (x := y) (by omega)
  have hle : i / j ≤ i := Nat.div_le_self _ _
  rw [ei, ej, e, e2, pk_div hi (by omega) hj, nI_toInt (by omega)]
  exact_mod_cast rfl
theorem nh_eqI {x : Int32} {a : Int} (h1 : a ≤ x.toInt) (h2 : x.toInt ≤ a) : x = Int32.ofInt a := by
  rw [← fb_asI x]
  congr 1
  omega
theorem nh_eqL {x : Int64} {a : Int} (h1 : a ≤ x.toInt) (h2 : x.toInt ≤ a) : x = Int64.ofInt a := by
  rw [← Int64.ofInt_toInt x]
  congr 1
  omega
