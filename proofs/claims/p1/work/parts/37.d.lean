/-! the same, for a second hall -/
theorem ab_entB0 : ab_entB ab_SP0 ab_eB0 = true := by decide +kernel
theorem ab_entB1 : ab_entB ab_SP0 ab_eB1 = true := by decide +kernel
