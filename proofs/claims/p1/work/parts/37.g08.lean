/-! case 7, by its parts -/
theorem ab_g7_14 : ab_grp 7 ab_p7 ab_h7 14 2 = true := by decide +kernel
