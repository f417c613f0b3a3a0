/-! the law's own code, some blocks at a time -/
set_option maxRecDepth 100000 in
theorem zkl_3 : zpart 267 15 5 = true := by decide +kernel
set_option maxRecDepth 100000 in
theorem zkl_4 : zpart 267 20 5 = true := by decide +kernel
set_option maxRecDepth 100000 in
theorem zkl_5 : zpart 267 25 5 = true := by decide +kernel
