/-! the parts of a hall, made new: by computing -/
theorem ab_entA0 : ab_entB ab_SP0 ab_eA0 = true := by decide +kernel
theorem ab_entA1 : ab_entB ab_SP0 ab_eA1 = true := by decide +kernel
