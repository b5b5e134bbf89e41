/-! the constructor, walked -/
set_option maxRecDepth 1000000 in
theorem cw1_ok : ce_exec 4000 12 1000 [(2, 0)] cw0 = some (none, cw1, 280, 5183) := ce_isE_ok (by decide +kernel)
