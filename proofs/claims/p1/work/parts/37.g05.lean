/-! case 7, by its parts -/
theorem ab_g7_9 : ab_grp 7 ab_p7 ab_h7 9 2 = true := by decide +kernel
