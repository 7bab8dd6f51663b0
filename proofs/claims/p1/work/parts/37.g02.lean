/-! case 7, by its parts -/
theorem ab_g7_4 : ab_grp 7 ab_p7 ab_h7 4 3 = true := by decide +kernel
