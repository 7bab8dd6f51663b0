/-! case 3, by its parts -/
theorem ab_g3_0 : ab_grp 3 ab_p3 ab_h3 0 6 = true := by decide +kernel
theorem ab_g3_6 : ab_grp 3 ab_p3 ab_h3 6 1 = true := by decide +kernel
