/-! case 3, by its parts -/
theorem ab_g3_8 : ab_grp 3 ab_p3 ab_h3 8 1 = true := by decide +kernel
theorem ab_g3_9 : ab_grp 3 ab_p3 ab_h3 9 1 = true := by decide +kernel
