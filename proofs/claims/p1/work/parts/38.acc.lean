/-! cases of the law with a loop that counts, walked -/
set_option maxRecDepth 1000000 in
theorem ct_28 : ce_tk (ce_two2 ce_no 17566 14 117 259 cw3) 13 [(0, 0), (9, 0), (0, 21), (1, 0), (9, 0), (1, 2), (1, 1), (9, 0), (9, 0), (9, 0), (9, 0)] [(-2147483648, 2147483647), (-2147483648, 2147483647)] = true := by decide +kernel
set_option maxRecDepth 1000000 in
theorem ct_31_0 : ce_tk (fun as => ce_two2 ce_no 1612 14 125 246 cw3 (as ++ [(0, 0)])) 7 [(0, 0), (9, 0), (0, 61), (9, 0), (9, 0)] [(-2147483648, 2147483647)] = true := by decide +kernel
set_option maxRecDepth 1000000 in
theorem ct_31_1 : ce_tk (fun as => ce_two2 ce_no 1612 14 125 246 cw3 (as ++ [(0, 1)])) 7 [(0, 0), (9, 0), (0, 61), (9, 0), (9, 0)] [(-2147483648, 2147483647)] = true := by decide +kernel
set_option maxRecDepth 1000000 in
theorem ct_33 : ce_tk (ce_two2 ce_no 1605 14 126 248 cw3) 7 [(0, 0), (9, 0), (0, 61), (9, 0), (9, 0)] [(-2147483648, 2147483647)] = true := by decide +kernel
