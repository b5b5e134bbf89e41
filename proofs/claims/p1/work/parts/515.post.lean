/-! the case post, the reference, on -/
set_option maxRecDepth 1000000 in
theorem pm_4 : ce_seg (ce_ex2 ce_no 2000 13) 12 7 (ce_ck (ce_dt 258)) 210 (29, [(5, (0, 18)), (6, (0, 0)), (4, (0, 0)), (3, (0, 0)), (0, (2, 281)), (1, (4, 2147483668)), (2, (5, 2147483649))], [], pmH1) = some (29, [(5, (0, 24)), (6, (0, 0)), (4, (0, 0)), (3, (0, 0)), (0, (2, 281)), (1, (4, 2147483668)), (2, (5, 2147483649))], [], pmH1) := ce_isS_ok (by decide +kernel)
set_option maxRecDepth 1000000 in
theorem pm_5 : ce_seg (ce_ex2 ce_no 2000 13) 12 7 (ce_ck (ce_dt 258)) 210 (29, [(5, (0, 24)), (6, (0, 0)), (4, (0, 0)), (3, (0, 0)), (0, (2, 281)), (1, (4, 2147483668)), (2, (5, 2147483649))], [], pmH1) = some (29, [(5, (0, 30)), (6, (0, 0)), (4, (0, 0)), (3, (0, 0)), (0, (2, 281)), (1, (4, 2147483668)), (2, (5, 2147483649))], [], pmH1) := ce_isS_ok (by decide +kernel)
set_option maxRecDepth 1000000 in
theorem pm_6 : ce_seg (ce_ex2 ce_no 2000 13) 12 7 (ce_ck (ce_dt 258)) 210 (29, [(5, (0, 30)), (6, (0, 0)), (4, (0, 0)), (3, (0, 0)), (0, (2, 281)), (1, (4, 2147483668)), (2, (5, 2147483649))], [], pmH1) = some (29, [(5, (0, 36)), (6, (0, 0)), (4, (0, 0)), (3, (0, 0)), (0, (2, 281)), (1, (4, 2147483668)), (2, (5, 2147483649))], [], pmH1) := ce_isS_ok (by decide +kernel)
set_option maxRecDepth 1000000 in
theorem pm_7 : ce_seg (ce_ex2 ce_no 2000 13) 12 7 (ce_ck (ce_dt 258)) 5 (29, [(5, (0, 36)), (6, (0, 0)), (4, (0, 0)), (3, (0, 0)), (0, (2, 281)), (1, (4, 2147483668)), (2, (5, 2147483649))], [], pmH1) = some (111, [(5, (0, 36)), (6, (0, 0)), (4, (0, 0)), (3, (0, 0)), (0, (2, 281)), (1, (4, 2147483668)), (2, (5, 2147483649))], [(5, 2147483649)], pmH1) := ce_isS_ok (by decide +kernel)
set_option maxRecDepth 1000000 in
theorem pm_t : ce_run (ce_ex2 ce_no 2000 13) 12 7 false (ce_ck (ce_dt 258)) (some .int) 9 (118, [(5, (0, 36)), (6, (0, 0)), (4, (0, 0)), (3, (0, 0)), (0, (2, 281)), (1, (4, 2147483668)), (2, (5, 2147483649))], [], pmH1) 0 0 = some (some (0, 0), pmH1, 0, 0) := ce_isE_ok (by decide +kernel)
set_option maxRecDepth 1000000 in
theorem pm_f : ce_run (ce_ex2 ce_no 2000 13) 12 7 false (ce_ck (ce_dt 258)) (some .int) 9 (114, [(5, (0, 36)), (6, (0, 0)), (4, (0, 0)), (3, (0, 0)), (0, (2, 281)), (1, (4, 2147483668)), (2, (5, 2147483649))], [], pmH1) 0 0 = some (some (0, 0), pmH1, 0, 0) := ce_isE_ok (by decide +kernel)
theorem pm_m : ce_mC 258 7 12 (some .int) = true := by decide +kernel
theorem pm_i : ce_dk (ce_ck (ce_dt 258)) 111 = some (.ifCond .ne 7, 3) := by decide +kernel
theorem pm_ok : ∃ y, ce_m 258 = some y ∧ ceMet y 14 [(2, 281), (4, 2147483668), (5, 2147483649)] pcH1 (some (0, 0)) pmH1 0 0 := ce_met_fork pm_m (Nat.le_of_ble_eq_true rfl) (ceRch.and (ceRch.and (ceRch.and (ceRch.and (ceRch.and (ceRch.and (ceRch.and (ceRch.of pm_0) pm_1) pm_2) pm_3) pm_4) pm_5) pm_6) pm_7) pm_i rfl rfl pm_t pm_f (ce_ex2_ok ce_no_ok 2000 13)
set_option maxRecDepth 1000000 in
theorem pp_rcv : ce_rcv pcH1 281 12 = true := by decide +kernel
theorem pp_two : ceTwo 14 115 258 cw3 (ce_bx 0 [(0, 20), (0, 1)]) := by
  obtain ⟨yx, a1, a2⟩ := pc_ok
  obtain ⟨ym, b1, b2⟩ := pm_ok
  exact ⟨yx, ym, (0, 0), _, _, a1, b1, a2, b2, rfl, pp_rcv⟩
