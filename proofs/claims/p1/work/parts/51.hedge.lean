/-! the case hedge -/
set_option maxRecDepth 1000000 in
theorem ct_9_0 : ce_tk (ce_two 2500 14 87 231 cw3) 3 [(9, 0)] [(-2147483648, -1)] = true := by decide +kernel
set_option maxRecDepth 1000000 in
theorem ct_9_1 : ce_tk (ce_two 2500 14 87 231 cw3) 25 [(0, 6), (0, 3), (0, 1), (9, 0), (0, 2), (9, 0), (9, 0), (0, 4), (9, 0), (0, 5), (9, 0), (9, 0), (0, 9), (0, 7), (9, 0), (0, 8), (9, 0), (9, 0), (0, 10), (9, 0), (0, 11), (9, 0), (9, 0)] [(0, 11)] = true := by decide +kernel
set_option maxRecDepth 1000000 in
theorem ct_9_2 : ce_tk (ce_two 2500 14 87 231 cw3) 25 [(0, 18), (0, 15), (0, 13), (9, 0), (0, 14), (9, 0), (9, 0), (0, 16), (9, 0), (0, 17), (9, 0), (9, 0), (0, 21), (0, 19), (9, 0), (0, 20), (9, 0), (9, 0), (0, 22), (9, 0), (0, 23), (9, 0), (9, 0)] [(12, 23)] = true := by decide +kernel
