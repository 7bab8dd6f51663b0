/-! case 3, by its parts -/
theorem ab_g3_10 : ab_grp 3 ab_p3 ab_h3 10 1 = true := by decide +kernel
