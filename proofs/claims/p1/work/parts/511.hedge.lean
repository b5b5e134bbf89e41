/-! the case hedge, on -/
set_option maxRecDepth 1000000 in
theorem ct_9_3 : ce_tk (ce_two 2500 14 87 231 cw3) 25 [(0, 30), (0, 27), (0, 25), (9, 0), (0, 26), (9, 0), (9, 0), (0, 28), (9, 0), (0, 29), (9, 0), (9, 0), (0, 33), (0, 31), (9, 0), (0, 32), (9, 0), (9, 0), (0, 34), (9, 0), (0, 35), (9, 0), (9, 0)] [(24, 35)] = true := by decide +kernel
set_option maxRecDepth 1000000 in
theorem ct_9_4 : ce_tk (ce_two 2500 14 87 231 cw3) 3 [(9, 0)] [(36, 2147483647)] = true := by decide +kernel
