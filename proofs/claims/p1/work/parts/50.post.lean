/-! the case post -/
set_option maxRecDepth 1000000 in
theorem ct_18 : ce_tk (ce_two2 ce_no 58182 14 115 258 cw3) 13 [(0, 0), (9, 0), (0, 21), (1, 0), (9, 0), (1, 2), (1, 1), (9, 0), (9, 0), (9, 0), (9, 0)] [(-2147483648, 2147483647), (-2147483648, 2147483647)] = true := by decide +kernel
