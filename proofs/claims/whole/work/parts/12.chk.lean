/-! the law's own code, some blocks at a time -/
set_option maxRecDepth 100000 in
theorem zkl_12 : zpart 267 60 5 = true := by decide +kernel
set_option maxRecDepth 100000 in
theorem zkl_13 : zpart 267 65 5 = true := by decide +kernel
set_option maxRecDepth 100000 in
theorem zkl_14 : zpart 267 70 5 = true := by decide +kernel
