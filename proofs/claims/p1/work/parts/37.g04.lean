/-! case 7, by its parts -/
theorem ab_g7_8 : ab_grp 7 ab_p7 ab_h7 8 1 = true := by decide +kernel
