/-! the case post, the refused -/
set_option maxRecDepth 1000000 in
theorem ct_18_2 : ce_tk (ce_two2 ce_no 2000 14 115 258 cw3) 3 [(9, 0)] [(-2147483648, -1), (-2147483648, 2147483647)] = true := by decide +kernel
set_option maxRecDepth 1000000 in
theorem ct_18_3 : ce_tk (ce_two2 ce_no 2000 14 115 258 cw3) 3 [(9, 0)] [(21, 2147483647), (-2147483648, 2147483647)] = true := by decide +kernel
set_option maxRecDepth 1000000 in
theorem ct_18_4 : ce_tk (ce_two2 ce_no 2000 14 115 258 cw3) 3 [(9, 0)] [(0, 20), (-2147483648, -1)] = true := by decide +kernel
set_option maxRecDepth 1000000 in
theorem ct_18_5 : ce_tk (ce_two2 ce_no 2000 14 115 258 cw3) 3 [(9, 0)] [(0, 20), (2, 2147483647)] = true := by decide +kernel
