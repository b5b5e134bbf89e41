/-! the case post, the class -/
def pcH1 : ceHp := ce_set (cw3) 27 (0, 4, [(2, 28), (2, 29), (2, 30), (1, 0), (0, 35), (4, 2147483668), (0, 0), (0, 0)])
set_option maxRecDepth 1000000 in
theorem pc_0 : ce_seg (ce_ex2 ce_no 2000 13) 11 7 (ce_ck (ce_dt 115)) 16 (0, ce_lo0 0 [(2, 0), (4, 2147483668), (5, 2147483649)], [], cw3) = some (29, [(5, (0, 0)), (4, (0, -1)), (3, (0, -1)), (0, (2, 0)), (1, (4, 2147483668)), (2, (5, 2147483649))], [], cw3) := ce_isS_ok (by decide +kernel)
set_option maxRecDepth 1000000 in
theorem pc_1 : ce_seg (ce_ex2 ce_no 2000 13) 11 7 (ce_ck (ce_dt 115)) 1378 (29, [(5, (0, 0)), (4, (0, -1)), (3, (0, -1)), (0, (2, 0)), (1, (4, 2147483668)), (2, (5, 2147483649))], [], cw3) = some (126, [(5, (0, 36)), (6, (0, 0)), (3, (0, 0)), (4, (0, 0)), (0, (2, 0)), (1, (4, 2147483668)), (2, (5, 2147483649))], [(5, 2147483649)], pcH1) := ce_isS_ok (by decide +kernel)
set_option maxRecDepth 1000000 in
theorem pc_t : ce_run (ce_ex2 ce_no 2000 13) 11 7 false (ce_ck (ce_dt 115)) (some .int) 9 (133, [(5, (0, 36)), (6, (0, 0)), (3, (0, 0)), (4, (0, 0)), (0, (2, 0)), (1, (4, 2147483668)), (2, (5, 2147483649))], [], pcH1) 0 0 = some (some (0, 0), pcH1, 0, 0) := ce_isE_ok (by decide +kernel)
set_option maxRecDepth 1000000 in
theorem pc_f : ce_run (ce_ex2 ce_no 2000 13) 11 7 false (ce_ck (ce_dt 115)) (some .int) 9 (129, [(5, (0, 36)), (6, (0, 0)), (3, (0, 0)), (4, (0, 0)), (0, (2, 0)), (1, (4, 2147483668)), (2, (5, 2147483649))], [], pcH1) 0 0 = some (some (0, 0), pcH1, 0, 0) := ce_isE_ok (by decide +kernel)
theorem pc_m : ce_mC 115 7 11 (some .int) = true := by decide +kernel
theorem pc_i : ce_dk (ce_ck (ce_dt 115)) 126 = some (.ifCond .ne 7, 3) := by decide +kernel
theorem pc_ok : ∃ y, ce_m 115 = some y ∧ ceMet y 14 [(2, 0), (4, 2147483668), (5, 2147483649)] cw3 (some (0, 0)) pcH1 0 0 := ce_met_fork pc_m (Nat.le_of_ble_eq_true rfl) (ceRch.and (ceRch.of pc_0) pc_1) pc_i rfl rfl pc_t pc_f (ce_ex2_ok ce_no_ok 2000 13)
