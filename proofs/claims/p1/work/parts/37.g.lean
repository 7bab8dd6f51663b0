/-! case 7, by its parts -/
theorem ab_g7_0 : ab_grp 7 ab_p7 ab_h7 0 4 = true := by decide +kernel
theorem ab_g7_4 : ab_grp 7 ab_p7 ab_h7 4 3 = true := by decide +kernel
theorem ab_g7_7 : ab_grp 7 ab_p7 ab_h7 7 2 = true := by decide +kernel
theorem ab_g7_9 : ab_grp 7 ab_p7 ab_h7 9 3 = true := by decide +kernel
