/-! case 3, by its parts -/
theorem ab_g3_7 : ab_grp 3 ab_p3 ab_h3 7 1 = true := by decide +kernel
