/-! the law's own code, some blocks at a time -/
set_option maxRecDepth 100000 in
theorem zkl_9 : zpart 267 45 5 = true := by decide +kernel
set_option maxRecDepth 100000 in
theorem zkl_10 : zpart 267 50 5 = true := by decide +kernel
set_option maxRecDepth 100000 in
theorem zkl_11 : zpart 267 55 5 = true := by decide +kernel
