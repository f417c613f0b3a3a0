/-! the law's own code, some blocks at a time -/
def zpart (mi a n : Nat) : Bool := (((zBk mi).drop a).take n).all fun q => zchk mi q.1 q.2
set_option maxRecDepth 100000 in
theorem zkl_0 : zpart 118 0 5 = true := by decide +kernel
set_option maxRecDepth 100000 in
theorem zkl_1 : zpart 118 5 5 = true := by decide +kernel
set_option maxRecDepth 100000 in
theorem zkl_2 : zpart 118 10 5 = true := by decide +kernel
set_option maxRecDepth 100000 in
theorem zkl_3 : zpart 118 15 5 = true := by decide +kernel
set_option maxRecDepth 100000 in
theorem zkl_4 : zpart 118 20 5 = true := by decide +kernel
