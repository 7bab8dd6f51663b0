/-! case 7, by its parts -/
theorem ab_g7_11 : ab_grp 7 ab_p7 ab_h7 11 1 = true := by decide +kernel
