/-! way, fetch, realm -/
def ce_mem : Nat → Nat → List ceV → ceHp → Option ceO := fun d mn as hp => if Nat.beq d 12 = true then (if Nat.beq mn 128 = true then (if (ce_eqL ce_eqV as [(2, 198), (2, 2), (1, 0), (0, 0)] && ce_eqH hp cw3) = true then some (none, cxS, 0, 0) else none) else if Nat.beq mn 261 = true then (if (ce_eqL ce_eqV as [(2, 281), (0, 0)] && ce_eqH hp cxS) = true then some (none, cxL, 0, 0) else none) else none) else none
theorem ce_mem_ok : ceMo1 ce_mem := fun d mn as hp r hp' c1 z1 h => by
  unfold ce_mem at h
  split at h
  · rename_i e1
    have e1 := Nat.eq_of_beq_eq_true e1
    subst e1
    split at h
    · rename_i e2
      have e2 := Nat.eq_of_beq_eq_true e2
      subst e2
      split at h
      · rename_i e3
        rw [Bool.and_eq_true] at e3
        have e4 := ce_eqL_ok ce_eqV_ok _ _ e3.1
        have e5 := ce_eqH_ok _ _ e3.2
        rw [e4, e5]
        cases h
        exact ce_exec_ok _ _ _ _ _ _ _ _ _ cxS_ok
      · cases h
    · split at h
      · rename_i e2
        have e2 := Nat.eq_of_beq_eq_true e2
        subst e2
        split at h
        · rename_i e3
          rw [Bool.and_eq_true] at e3
          have e4 := ce_eqL_ok ce_eqV_ok _ _ e3.1
          have e5 := ce_eqH_ok _ _ e3.2
          rw [e4, e5]
          cases h
          exact lf_ok
        · cases h
      · cases h
  · cases h
set_option maxRecDepth 1000000 in
theorem ct_19 : ce_tk (ce_two2 ce_mem 3000 14 127 260 cw3) 77 [(0, 0), (9, 0), (0, 36), (0, 18), (0, 9), (0, 4), (0, 2), (0, 1), (9, 0), (9, 0), (0, 3), (9, 0), (9, 0), (0, 6), (0, 5), (9, 0), (9, 0), (0, 7), (9, 0), (0, 8), (9, 0), (9, 0), (0, 13), (0, 11), (0, 10), (9, 0), (9, 0), (0, 12), (9, 0), (9, 0), (0, 15), (0, 14), (9, 0), (9, 0), (0, 16), (9, 0), (0, 17), (9, 0), (9, 0), (0, 27), (0, 22), (0, 20), (0, 19), (9, 0), (9, 0), (0, 21), (9, 0), (9, 0), (0, 24), (0, 23), (9, 0), (9, 0), (0, 25), (9, 0), (0, 26), (9, 0), (9, 0), (0, 31), (0, 29), (0, 28), (9, 0), (9, 0), (0, 30), (9, 0), (9, 0), (0, 33), (0, 32), (9, 0), (9, 0), (0, 34), (9, 0), (0, 35), (9, 0), (9, 0), (9, 0)] [(-2147483648, 2147483647)] = true := by decide +kernel
set_option maxRecDepth 1000000 in
theorem ct_21 : ce_tk (ce_two2 ce_mem 3000 14 132 263 cw3) 3 [(9, 0)] [] = true := by decide +kernel
set_option maxRecDepth 1000000 in
theorem ct_36 : ce_tk (ce_two2 ce_mem 3000 14 131 262 cw3) 3 [(9, 0)] [] = true := by decide +kernel
