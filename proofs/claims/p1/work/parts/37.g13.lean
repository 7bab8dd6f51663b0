/-! case 7, by its parts -/
theorem ab_g7_22 : ab_grp 7 ab_p7 ab_h7 22 2 = true := by decide +kernel
