/-! each call's link stands in the tables -/
theorem zq_1 : ∀ q ∈ (zCT.drop 120).take 120, zPc q := by unfold zPc; decide +kernel
