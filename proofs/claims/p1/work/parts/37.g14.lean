/-! case 7, by its parts -/
theorem ab_g7_24 : ab_tl 7 ab_p7 ab_h7 24 = true := by decide +kernel
theorem ab_case_7 : ab_tl 7 ab_p7 ab_h7 0 = true := (ab_tl_c ab_g7_0 (ab_tl_c ab_g7_2 (ab_tl_c ab_g7_4 (ab_tl_c ab_g7_7 (ab_tl_c ab_g7_8 (ab_tl_c ab_g7_9 (ab_tl_c ab_g7_11 (ab_tl_c ab_g7_12 (ab_tl_c ab_g7_14 (ab_tl_c ab_g7_16 (ab_tl_c ab_g7_17 (ab_tl_c ab_g7_18 (ab_tl_c ab_g7_20 (ab_tl_c ab_g7_22 ab_g7_24))))))))))))))
