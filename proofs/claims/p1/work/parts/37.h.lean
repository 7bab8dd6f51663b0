/-! case 7, by its parts -/
theorem ab_g7_12 : ab_grp 7 ab_p7 ab_h7 12 4 = true := by decide +kernel
theorem ab_g7_16 : ab_grp 7 ab_p7 ab_h7 16 2 = true := by decide +kernel
theorem ab_g7_18 : ab_grp 7 ab_p7 ab_h7 18 3 = true := by decide +kernel
theorem ab_g7_21 : ab_tl 7 ab_p7 ab_h7 21 = true := by decide +kernel
theorem ab_case_7 : ab_tl 7 ab_p7 ab_h7 0 = true := (ab_tl_c ab_g7_0 (ab_tl_c ab_g7_4 (ab_tl_c ab_g7_7 (ab_tl_c ab_g7_9 (ab_tl_c ab_g7_12 (ab_tl_c ab_g7_16 (ab_tl_c ab_g7_18 ab_g7_21)))))))
