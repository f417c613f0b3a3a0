/-! the law's own code, some blocks at a time -/
set_option maxRecDepth 100000 in
theorem zkl_5 : zpart 118 25 5 = true := by decide +kernel
set_option maxRecDepth 100000 in
theorem zkl_6 : zpart 118 30 5 = true := by decide +kernel
set_option maxRecDepth 100000 in
theorem zkl_7 : zpart 118 35 5 = true := by decide +kernel
set_option maxRecDepth 100000 in
theorem zkl_8 : zpart 118 40 5 = true := by decide +kernel
set_option maxRecDepth 100000 in
theorem zkl_9 : zpart 118 45 5 = true := by decide +kernel
