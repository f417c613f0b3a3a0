/-! the law's own code, some blocks at a time -/
set_option maxRecDepth 100000 in
theorem zkl_20 : zpart 118 100 5 = true := by decide +kernel
set_option maxRecDepth 100000 in
theorem zkl_21 : zpart 118 105 5 = true := by decide +kernel
set_option maxRecDepth 100000 in
theorem zkl_22 : zpart 118 110 5 = true := by decide +kernel
