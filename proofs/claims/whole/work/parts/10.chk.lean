/-! the law's own code, some blocks at a time -/
set_option maxRecDepth 100000 in
theorem zkl_6 : zpart 267 30 5 = true := by decide +kernel
set_option maxRecDepth 100000 in
theorem zkl_7 : zpart 267 35 5 = true := by decide +kernel
set_option maxRecDepth 100000 in
theorem zkl_8 : zpart 267 40 5 = true := by decide +kernel
