/-! the law's own code, some blocks at a time -/
set_option maxRecDepth 100000 in
theorem zkl_15 : zpart 118 75 5 = true := by decide +kernel
set_option maxRecDepth 100000 in
theorem zkl_16 : zpart 118 80 5 = true := by decide +kernel
set_option maxRecDepth 100000 in
theorem zkl_17 : zpart 118 85 5 = true := by decide +kernel
set_option maxRecDepth 100000 in
theorem zkl_18 : zpart 118 90 5 = true := by decide +kernel
set_option maxRecDepth 100000 in
theorem zkl_19 : zpart 118 95 5 = true := by decide +kernel
