/-! each call's link stands in the tables -/
theorem zq_2 : ∀ q ∈ (zCT.drop 240).take 120, zPc q := by unfold zPc; decide +kernel
