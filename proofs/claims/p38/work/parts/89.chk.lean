/-! each call's link stands in the tables -/
theorem zq_0 : ∀ q ∈ (zCT.drop 0).take 120, zPc q := by unfold zPc; decide +kernel
