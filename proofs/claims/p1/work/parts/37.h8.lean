/-! case 3, by its parts -/
theorem ab_g3_17 : ab_grp 3 ab_p3 ab_h3 17 1 = true := by decide +kernel
theorem ab_g3_18 : ab_tl 3 ab_p3 ab_h3 18 = true := by decide +kernel
theorem ab_case_3 : ab_tl 3 ab_p3 ab_h3 0 = true := (ab_tl_c ab_g3_0 (ab_tl_c ab_g3_6 (ab_tl_c ab_g3_7 (ab_tl_c ab_g3_8 (ab_tl_c ab_g3_9 (ab_tl_c ab_g3_10 (ab_tl_c ab_g3_11 (ab_tl_c ab_g3_12 (ab_tl_c ab_g3_13 (ab_tl_c ab_g3_14 (ab_tl_c ab_g3_15 (ab_tl_c ab_g3_16 (ab_tl_c ab_g3_17 ab_g3_18)))))))))))))
