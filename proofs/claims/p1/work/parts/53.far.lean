/-! the distances of the reference, in pieces -/
set_option maxRecDepth 1000000 in
theorem lf_0 : ce_seg (ce_exec 2000 12) 12 5 (ce_ck (ce_dt 261)) 476 (0, ce_lo0 0 [(2, 281), (0, 0)], [], cxS) = some (34, [(2, (0, 0)), (0, (2, 281)), (1, (0, 0))], [], ce_set cxS 311 (1, 0, ce_Is [0, 1000, 1000, 1000, 1000, 1000, 1000, 1000, 1000, 1000, 1000, 1000, 1000, 1000, 1000, 1000, 1000, 1000, 1000, 1000, 1000, 1000, 1000, 1000, 1000, 1000, 1000, 1000, 1000, 1000, 1000, 1000, 1000, 1000, 1000, 1000])) := ce_isF_ok (by decide +kernel)
set_option maxRecDepth 1000000 in
theorem lf_1 : ce_seg (ce_exec 2000 12) 12 5 (ce_ck (ce_dt 261)) 5548 (34, [(2, (0, 0)), (0, (2, 281)), (1, (0, 0))], [], ce_set cxS 311 (1, 0, ce_Is [0, 1000, 1000, 1000, 1000, 1000, 1000, 1000, 1000, 1000, 1000, 1000, 1000, 1000, 1000, 1000, 1000, 1000, 1000, 1000, 1000, 1000, 1000, 1000, 1000, 1000, 1000, 1000, 1000, 1000, 1000, 1000, 1000, 1000, 1000, 1000])) = some (34, [(2, (0, 6)), (3, (0, 36)), (4, (0, 1)), (0, (2, 281)), (1, (0, 0))], [], ce_set cxS 311 (1, 0, ce_Is [0, 1, 2, 3, 4, 5, 1, 2, 3, 4, 5, 6, 2, 3, 4, 5, 6, 1000, 3, 4, 5, 6, 1000, 1000, 4, 5, 6, 1000, 1000, 1000, 5, 6, 1000, 1000, 1000, 1000])) := ce_isF_ok (by decide +kernel)
set_option maxRecDepth 1000000 in
theorem lf_2 : ce_seg (ce_exec 2000 12) 12 5 (ce_ck (ce_dt 261)) 4954 (34, [(2, (0, 6)), (3, (0, 36)), (4, (0, 1)), (0, (2, 281)), (1, (0, 0))], [], ce_set cxS 311 (1, 0, ce_Is [0, 1, 2, 3, 4, 5, 1, 2, 3, 4, 5, 6, 2, 3, 4, 5, 6, 1000, 3, 4, 5, 6, 1000, 1000, 4, 5, 6, 1000, 1000, 1000, 5, 6, 1000, 1000, 1000, 1000])) = some (34, [(2, (0, 12)), (3, (0, 36)), (4, (0, 1)), (0, (2, 281)), (1, (0, 0))], [], cxL) := ce_isF_ok (by decide +kernel)
set_option maxRecDepth 1000000 in
theorem lf_3 : ce_seg (ce_exec 2000 12) 12 5 (ce_ck (ce_dt 261)) 3744 (34, [(2, (0, 12)), (3, (0, 36)), (4, (0, 1)), (0, (2, 281)), (1, (0, 0))], [], cxL) = some (34, [(2, (0, 18)), (3, (0, 36)), (4, (0, 1)), (0, (2, 281)), (1, (0, 0))], [], cxL) := ce_isF_ok (by decide +kernel)
set_option maxRecDepth 1000000 in
theorem lf_4 : ce_seg (ce_exec 2000 12) 12 5 (ce_ck (ce_dt 261)) 3744 (34, [(2, (0, 18)), (3, (0, 36)), (4, (0, 1)), (0, (2, 281)), (1, (0, 0))], [], cxL) = some (34, [(2, (0, 24)), (3, (0, 36)), (4, (0, 1)), (0, (2, 281)), (1, (0, 0))], [], cxL) := ce_isF_ok (by decide +kernel)
set_option maxRecDepth 1000000 in
theorem lf_5 : ce_seg (ce_exec 2000 12) 12 5 (ce_ck (ce_dt 261)) 3744 (34, [(2, (0, 24)), (3, (0, 36)), (4, (0, 1)), (0, (2, 281)), (1, (0, 0))], [], cxL) = some (34, [(2, (0, 30)), (3, (0, 36)), (4, (0, 1)), (0, (2, 281)), (1, (0, 0))], [], cxL) := ce_isF_ok (by decide +kernel)
set_option maxRecDepth 1000000 in
theorem lf_6 : ce_seg (ce_exec 2000 12) 12 5 (ce_ck (ce_dt 261)) 3748 (34, [(2, (0, 30)), (3, (0, 36)), (4, (0, 1)), (0, (2, 281)), (1, (0, 0))], [], cxL) = some (122, [(2, (0, 36)), (3, (0, 36)), (4, (0, 1)), (0, (2, 281)), (1, (0, 0))], [], cxL) := ce_isF_ok (by decide +kernel)
set_option maxRecDepth 1000000 in
theorem lf_r : ce_run (ce_exec 2000 12) 12 5 false (ce_ck (ce_dt 261)) none 3 (122, [(2, (0, 36)), (3, (0, 36)), (4, (0, 1)), (0, (2, 281)), (1, (0, 0))], [], cxL) 0 0 = some (none, cxL, 0, 0) := ce_isE_ok (by decide +kernel)
theorem lf_m : ce_mC 261 5 12 none = true := by decide +kernel
theorem lf_ok : ∃ y, ce_m 261 = some y ∧ ceMet y 13 [(2, 281), (0, 0)] cxS none cxL 0 0 := ce_met_seg lf_m (Nat.le_of_ble_eq_true rfl) (ceRch.and (ceRch.and (ceRch.and (ceRch.and (ceRch.and (ceRch.and (ceRch.of lf_0) lf_1) lf_2) lf_3) lf_4) lf_5) lf_6) lf_r (ce_exec_ok 2000 12)
