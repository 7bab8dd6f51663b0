/-! case 3, by its parts -/
theorem ab_g3_14 : ab_grp 3 ab_p3 ab_h3 14 1 = true := by decide +kernel
theorem ab_g3_15 : ab_grp 3 ab_p3 ab_h3 15 1 = true := by decide +kernel
