/-! case 3, by its parts -/
theorem ab_g3_11 : ab_grp 3 ab_p3 ab_h3 11 1 = true := by decide +kernel
theorem ab_g3_12 : ab_grp 3 ab_p3 ab_h3 12 1 = true := by decide +kernel
