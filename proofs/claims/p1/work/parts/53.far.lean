/-! the distances of the reference -/
set_option maxRecDepth 1000000 in
theorem cxL_ok : ce_exec 58001 13 261 [(2, 281), (0, 0)] cxS = some (none, cxL, 0, 0) := ce_isE_ok (by decide +kernel)
