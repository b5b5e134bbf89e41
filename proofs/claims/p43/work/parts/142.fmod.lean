/-! what floorMod by 5 comes to -/
theorem nh_sg (a : Int32) : (0 ≤ (a ^^^ 5)) ↔ 0 ≤ a.toInt := by
  have h1 : (a ^^^ 5).toBitVec.msb = a.toBitVec.msb := by
    rw [Int32.toBitVec_xor, BitVec.msb_xor, show (5 : Int32).toBitVec.msb = false from by decide, Bool.xor_false]
  have h2 : ∀ x : Int32, (0 ≤ x.toInt) ↔ x.toBitVec.msb = false := fun x => by
    have e : x.toBitVec.msb = decide (x.toBitVec.toInt < 0) := BitVec.msb_eq_toInt
    rw [e, decide_eq_false_iff_not]
    show 0 ≤ x.toBitVec.toInt ↔ _
    omega
  rw [Int32.le_iff_toInt_le, show (0 : Int32).toInt = 0 from rfl, h2, h1, ← h2]
def nh_fm5 (a : Int32) : Int32 := if 0 ≤ (a ^^^ 5) then a - a / 5 * 5 else if a - a / 5 * 5 = 0 then a - a / 5 * 5 else a - a / 5 * 5 + 5
theorem nh_fm5_ok (a : Int32) : 0 ≤ (nh_fm5 a).toInt ∧ (nh_fm5 a).toInt ≤ 4 := by
  have hr := rem_toInt a 5
  rw [show (5 : Int32).toInt = 5 from rfl] at hr
  unfold nh_fm5
  by_cases h : 0 ≤ (a ^^^ 5)
  · rw [if_pos h, hr]
    have ha := (nh_sg a).mp h
    rw [Int.tmod_eq_emod_of_nonneg ha]
    omega
  · rw [if_neg h]
    have ha : a.toInt < 0 := by
      have := mt (nh_sg a).mpr h
      omega
    have hm : a.toInt.tmod 5 = -((-a.toInt) % 5) := by
      have e := Int.neg_tmod (-a.toInt) 5
      rw [Int.neg_neg] at e
      rw [e, Int.tmod_eq_emod_of_nonneg (by omega)]
    rw [hm] at hr
    split
    · rename_i h0
      rw [h0]
      decide
    · rename_i h0
      have h1 : (a - a / 5 * 5).toInt ≠ 0 := fun q => h0 (Int32.toInt_inj.mp (by rw [q]; rfl))
      rw [Int32.toInt_add, show (5 : Int32).toInt = 5 from rfl, fb_bmod (by omega) (by omega)]
      omega
