/-! case 3, by its parts -/
theorem ab_g3_13 : ab_grp 3 ab_p3 ab_h3 13 1 = true := by decide +kernel
