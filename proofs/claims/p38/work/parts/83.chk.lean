/-! the law's own code, some blocks at a time -/
set_option maxRecDepth 100000 in
theorem zkl_10 : zpart 118 50 5 = true := by decide +kernel
set_option maxRecDepth 100000 in
theorem zkl_11 : zpart 118 55 5 = true := by decide +kernel
set_option maxRecDepth 100000 in
theorem zkl_12 : zpart 118 60 5 = true := by decide +kernel
set_option maxRecDepth 100000 in
theorem zkl_13 : zpart 118 65 5 = true := by decide +kernel
set_option maxRecDepth 100000 in
theorem zkl_14 : zpart 118 70 5 = true := by decide +kernel
