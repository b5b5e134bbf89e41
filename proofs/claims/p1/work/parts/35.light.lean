/-! cases of the law, walked -/
set_option maxRecDepth 1000000 in
theorem ct_0 : ce_tk (ce_two 704 14 8 284 cw3) 3 [(9, 0)] [(-2147483648, 2147483647), (-2147483648, 2147483647), (-2147483648, 2147483647), (-2147483648, 2147483647), (-2147483648, 2147483647)] = true := by decide +kernel
set_option maxRecDepth 1000000 in
theorem ct_1 : ce_tk (ce_two 31 14 10 285 cw3) 7 [(0, 0), (9, 0), (0, 1), (9, 0), (9, 0)] [(-2147483648, 2147483647)] = true := by decide +kernel
set_option maxRecDepth 1000000 in
theorem ct_2 : ce_tk (ce_two 3551 14 11 165 cw3) 3 [(9, 0)] [] = true := by decide +kernel
set_option maxRecDepth 1000000 in
theorem ct_3 : ce_tk (ce_two 29 14 49 197 cw3) 9 [(0, 0), (9, 0), (0, 1), (9, 0), (0, 2), (9, 0), (9, 0)] [(-2147483648, 2147483647)] = true := by decide +kernel
set_option maxRecDepth 1000000 in
theorem ct_4 : ce_tk (ce_two 48 14 50 198 cw3) 5 [(0, 0), (9, 0), (9, 0)] [(-2147483648, 2147483647), (-2147483648, 2147483647)] = true := by decide +kernel
set_option maxRecDepth 1000000 in
theorem ct_5 : ce_tk (ce_two 106 14 60 206 cw3) 155 [(0, 0), (9, 0), (0, 36), (1, 0), (9, 0), (1, 3), (1, 1), (0, 18), (0, 9), (0, 4), (0, 2), (0, 1), (9, 0), (9, 0), (0, 3), (9, 0), (9, 0), (0, 6), (0, 5), (9, 0), (9, 0), (0, 7), (9, 0), (0, 8), (9, 0), (9, 0), (0, 13), (0, 11), (0, 10), (9, 0), (9, 0), (0, 12), (9, 0), (9, 0), (0, 15), (0, 14), (9, 0), (9, 0), (0, 16), (9, 0), (0, 17), (9, 0), (9, 0), (0, 27), (0, 22), (0, 20), (0, 19), (9, 0), (9, 0), (0, 21), (9, 0), (9, 0), (0, 24), (0, 23), (9, 0), (9, 0), (0, 25), (9, 0), (0, 26), (9, 0), (9, 0), (0, 31), (0, 29), (0, 28), (9, 0), (9, 0), (0, 30), (9, 0), (9, 0), (0, 33), (0, 32), (9, 0), (9, 0), (0, 34), (9, 0), (0, 35), (9, 0), (9, 0), (1, 2), (9, 0), (0, 18), (0, 9), (0, 4), (0, 2), (0, 1), (9, 0), (9, 0), (0, 3), (9, 0), (9, 0), (0, 6), (0, 5), (9, 0), (9, 0), (0, 7), (9, 0), (0, 8), (9, 0), (9, 0), (0, 13), (0, 11), (0, 10), (9, 0), (9, 0), (0, 12), (9, 0), (9, 0), (0, 15), (0, 14), (9, 0), (9, 0), (0, 16), (9, 0), (0, 17), (9, 0), (9, 0), (0, 27), (0, 22), (0, 20), (0, 19), (9, 0), (9, 0), (0, 21), (9, 0), (9, 0), (0, 24), (0, 23), (9, 0), (9, 0), (0, 25), (9, 0), (0, 26), (9, 0), (9, 0), (0, 31), (0, 29), (0, 28), (9, 0), (9, 0), (0, 30), (9, 0), (9, 0), (0, 33), (0, 32), (9, 0), (9, 0), (0, 34), (9, 0), (0, 35), (9, 0), (9, 0), (9, 0), (9, 0)] [(-2147483648, 2147483647), (-2147483648, 2147483647)] = true := by decide +kernel
set_option maxRecDepth 1000000 in
theorem ct_6_0 : ce_tk (fun as => ce_two 1139 14 76 223 cw3 (as ++ [(0, 0)])) 3 [(9, 0)] [] = true := by decide +kernel
set_option maxRecDepth 1000000 in
theorem ct_6_1 : ce_tk (fun as => ce_two 1139 14 76 223 cw3 (as ++ [(0, 1)])) 3 [(9, 0)] [] = true := by decide +kernel
set_option maxRecDepth 1000000 in
theorem ct_7 : ce_tk (ce_two 1253 14 85 229 cw3) 13 [(0, 1), (9, 0), (0, 5), (0, 3), (0, 2), (9, 0), (9, 0), (0, 4), (9, 0), (9, 0), (9, 0)] [(-2147483648, 2147483647)] = true := by decide +kernel
set_option maxRecDepth 1000000 in
theorem ct_8 : ce_tk (ce_two 1098 14 86 230 cw3) 3 [(9, 0)] [] = true := by decide +kernel
set_option maxRecDepth 1000000 in
theorem ct_10 : ce_tk (ce_two 62 14 89 234 cw3) 77 [(0, 0), (9, 0), (0, 36), (0, 18), (0, 9), (0, 4), (0, 2), (0, 1), (9, 0), (9, 0), (0, 3), (9, 0), (9, 0), (0, 6), (0, 5), (9, 0), (9, 0), (0, 7), (9, 0), (0, 8), (9, 0), (9, 0), (0, 13), (0, 11), (0, 10), (9, 0), (9, 0), (0, 12), (9, 0), (9, 0), (0, 15), (0, 14), (9, 0), (9, 0), (0, 16), (9, 0), (0, 17), (9, 0), (9, 0), (0, 27), (0, 22), (0, 20), (0, 19), (9, 0), (9, 0), (0, 21), (9, 0), (9, 0), (0, 24), (0, 23), (9, 0), (9, 0), (0, 25), (9, 0), (0, 26), (9, 0), (9, 0), (0, 31), (0, 29), (0, 28), (9, 0), (9, 0), (0, 30), (9, 0), (9, 0), (0, 33), (0, 32), (9, 0), (9, 0), (0, 34), (9, 0), (0, 35), (9, 0), (9, 0), (9, 0)] [(-2147483648, 2147483647)] = true := by decide +kernel
set_option maxRecDepth 1000000 in
theorem ct_11 : ce_tk (ce_two 31 14 90 235 cw3) 3 [(9, 0)] [] = true := by decide +kernel
set_option maxRecDepth 1000000 in
theorem ct_12 : ce_tk (ce_two 31 14 92 237 cw3) 3 [(9, 0)] [] = true := by decide +kernel
set_option maxRecDepth 1000000 in
theorem ct_13 : ce_tk (ce_two 48 14 96 239 cw3) 5 [(0, 0), (9, 0), (9, 0)] [(-2147483648, 2147483647), (-2147483648, 2147483647), (-2147483648, 2147483647)] = true := by decide +kernel
set_option maxRecDepth 1000000 in
theorem ct_14 : ce_tk (ce_two 48 14 99 244 cw3) 5 [(0, 0), (9, 0), (9, 0)] [(-2147483648, 2147483647)] = true := by decide +kernel
set_option maxRecDepth 1000000 in
theorem ct_15 : ce_tk (ce_two 48 14 100 245 cw3) 5 [(0, 0), (9, 0), (9, 0)] [(-2147483648, 2147483647), (-2147483648, 2147483647)] = true := by decide +kernel
set_option maxRecDepth 1000000 in
theorem ct_16 : ce_tk (ce_two 51 14 102 255 cw3) 5 [(0, 0), (9, 0), (9, 0)] [(-2147483648, 2147483647), (-2147483648, 2147483647)] = true := by decide +kernel
set_option maxRecDepth 1000000 in
theorem ct_17 : ce_tk (ce_two 51 14 107 256 cw3) 5 [(0, 0), (9, 0), (9, 0)] [(-2147483648, 2147483647), (-2147483648, 2147483647), (-2147483648, 2147483647)] = true := by decide +kernel
set_option maxRecDepth 1000000 in
theorem ct_20 : ce_tk (ce_two 48 14 135 265 cw3) 5 [(0, 0), (9, 0), (9, 0)] [(-2147483648, 2147483647), (-2147483648, 2147483647), (-2147483648, 2147483647)] = true := by decide +kernel
set_option maxRecDepth 1000000 in
theorem ct_22 : ce_tk (ce_two 32 14 118 251 cw3) 7 [(0, 1), (9, 0), (0, 61), (9, 0), (9, 0)] [(-2147483648, 2147483647)] = true := by decide +kernel
set_option maxRecDepth 1000000 in
theorem ct_23 : ce_tk (ce_two 48 14 124 250 cw3) 5 [(0, 0), (9, 0), (9, 0)] [(-2147483648, 2147483647), (-2147483648, 2147483647)] = true := by decide +kernel
set_option maxRecDepth 1000000 in
theorem ct_24 : ce_tk (ce_two 48 14 134 218 cw3) 5 [(0, 0), (9, 0), (9, 0)] [(-2147483648, 2147483647)] = true := by decide +kernel
set_option maxRecDepth 1000000 in
theorem ct_25 : ce_tk (ce_two 31 14 123 254 cw3) 7 [(0, 0), (9, 0), (0, 61), (9, 0), (9, 0)] [(-2147483648, 2147483647)] = true := by decide +kernel
set_option maxRecDepth 1000000 in
theorem ct_26 : ce_tk (ce_two 36 14 133 264 cw3) 3 [(9, 0)] [] = true := by decide +kernel
set_option maxRecDepth 1000000 in
theorem ct_27 : ce_tk (ce_two 744 14 138 221 cw3) 7 [(0, 0), (9, 0), (0, 3), (9, 0), (9, 0)] [(-2147483648, 2147483647)] = true := by decide +kernel
set_option maxRecDepth 1000000 in
theorem ct_29 : ce_tk (ce_two 44 14 68 211 cw3) 3 [(9, 0)] [] = true := by decide +kernel
set_option maxRecDepth 1000000 in
theorem ct_30 : ce_tk (ce_two 39 14 71 215 cw3) 3 [(9, 0)] [] = true := by decide +kernel
set_option maxRecDepth 1000000 in
theorem ct_32 : ce_tk (ce_two 36 14 73 217 cw3) 3 [(9, 0)] [] = true := by decide +kernel
set_option maxRecDepth 1000000 in
theorem ct_34 : ce_tk (ce_two 708 14 141 220 cw3) 7 [(0, 0), (9, 0), (0, 3), (9, 0), (9, 0)] [(-2147483648, 2147483647)] = true := by decide +kernel
set_option maxRecDepth 1000000 in
theorem ct_35 : ce_tk (ce_two 64 14 70 213 cw3) 7 [(0, 0), (9, 0), (0, 100), (9, 0), (9, 0)] [(-2147483648, 2147483647)] = true := by decide +kernel
set_option maxRecDepth 1000000 in
theorem ct_37 : ce_tk (ce_two 180 14 74 269 cw3) 29 [(0, 0), (9, 0), (0, 5), (1, 0), (9, 0), (1, 2), (0, 1), (1, 1), (9, 0), (9, 0), (0, 2), (1, 1), (9, 0), (9, 0), (0, 3), (1, 1), (9, 0), (9, 0), (0, 4), (1, 1), (9, 0), (9, 0), (1, 1), (9, 0), (9, 0), (9, 0), (9, 0)] [(-2147483648, 2147483647), (-2147483648, 2147483647)] = true := by decide +kernel
set_option maxRecDepth 1000000 in
theorem ct_38 : ce_tk (ce_two 38 14 67 238 cw3) 5 [(0, 0), (9, 0), (9, 0)] [(-2147483648, 2147483647)] = true := by decide +kernel
set_option maxRecDepth 1000000 in
theorem ct_39_0 : ce_tk (fun as => ce_two 82 14 142 272 cw3 (as ++ [(0, 0)])) 11 [(0, 0), (9, 0), (0, 13), (1, 0), (9, 0), (1, 36), (9, 0), (9, 0), (9, 0)] [(-2147483648, 2147483647), (-2147483648, 2147483647)] = true := by decide +kernel
set_option maxRecDepth 1000000 in
theorem ct_39_1 : ce_tk (fun as => ce_two 82 14 142 272 cw3 (as ++ [(0, 1)])) 11 [(0, 0), (9, 0), (0, 13), (1, 0), (9, 0), (1, 36), (9, 0), (9, 0), (9, 0)] [(-2147483648, 2147483647), (-2147483648, 2147483647)] = true := by decide +kernel
set_option maxRecDepth 1000000 in
theorem ct_40 : ce_tk (ce_two 38 14 144 273 cw3) 5 [(0, 0), (9, 0), (9, 0)] [(-2147483648, 2147483647)] = true := by decide +kernel
set_option maxRecDepth 1000000 in
theorem ct_41 : ce_tk (ce_two 49 14 146 274 cw3) 7 [(0, 0), (9, 0), (0, 1001), (9, 0), (9, 0)] [(-2147483648, 2147483647)] = true := by decide +kernel
set_option maxRecDepth 1000000 in
theorem ct_42 : ce_tk (ce_two 82 14 147 275 cw3) 3 [(9, 0)] [(-2147483648, 2147483647)] = true := by decide +kernel
set_option maxRecDepth 1000000 in
theorem ct_43 : ce_tk (ce_two 51 14 153 278 cw3) 7 [(0, 0), (9, 0), (0, 2), (9, 0), (9, 0)] [(-2147483648, 2147483647), (-2147483648, 2147483647)] = true := by decide +kernel
set_option maxRecDepth 1000000 in
theorem ct_44 : ce_tk (ce_two 51 14 158 279 cw3) 7 [(0, 0), (9, 0), (0, 2), (9, 0), (9, 0)] [(-2147483648, 2147483647), (-2147483648, 2147483647)] = true := by decide +kernel
set_option maxRecDepth 1000000 in
theorem ct_45 : ce_tk (ce_two 984 14 94 281 cw3) 11 [(0, 0), (9, 0), (0, 3), (0, 1), (9, 0), (0, 2), (9, 0), (9, 0), (9, 0)] [(-2147483648, 2147483647)] = true := by decide +kernel
set_option maxRecDepth 1000000 in
theorem ct_46 : ce_tk (ce_two 41 14 95 282 cw3) 11 [(0, 0), (9, 0), (0, 3), (0, 1), (9, 0), (0, 2), (9, 0), (9, 0), (9, 0)] [(-2147483648, 2147483647)] = true := by decide +kernel
set_option maxRecDepth 1000000 in
theorem ct_47 : ce_tk (ce_two 538 14 64 283 cw3) 39 [(0, 0), (9, 0), (0, 8), (0, 4), (0, 2), (0, 1), (9, 0), (9, 0), (0, 3), (9, 0), (9, 0), (0, 6), (0, 5), (9, 0), (9, 0), (0, 7), (9, 0), (9, 0), (0, 17), (0, 12), (0, 10), (0, 9), (9, 0), (9, 0), (0, 11), (9, 0), (9, 0), (0, 14), (0, 13), (9, 0), (9, 0), (0, 15), (9, 0), (0, 16), (9, 0), (9, 0), (9, 0)] [(-2147483648, 2147483647)] = true := by decide +kernel
