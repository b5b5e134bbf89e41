/-! calls that many cases make, walked once -/
def cxS : ceHp := ce_set (ce_set (ce_set (cw3) 198 (0, 10, ce_Rs [199, 200, 201] ++ ce_Is [36])) 199 (1, 0, ce_Is [0, 1, 2, 3, 4, 5, 1, 2, 3, 4, 5, 6, 2, 3, 4, 5, 6, 7, 3, 4, 5, 6, 7, 8, 4, 5, 6, 7, 8, 9, 5, 6, 7, 8, 9, 10])) 200 (1, 0, ce_Is [0, 1, 6, 2, 7, 12, 3, 8, 13, 18, 4, 9, 14, 19, 24, 5, 10, 15, 20, 25, 30, 11, 16, 21, 26, 31, 17, 22, 27, 32, 23, 28, 33, 29, 34, 35])
def cxL : ceHp := ce_set (cxS) 311 (1, 0, ce_Is [0, 1, 2, 3, 4, 5, 1, 2, 3, 4, 5, 6, 2, 3, 4, 5, 6, 7, 3, 4, 5, 6, 7, 8, 4, 5, 6, 7, 8, 9, 5, 6, 7, 8, 9, 10])
set_option maxRecDepth 1000000 in
theorem cxS_ok : ce_exec 11657 13 128 [(2, 198), (2, 2), (1, 0), (0, 0)] cw3 = some (none, cxS, 0, 0) := ce_isE_ok (by decide +kernel)
