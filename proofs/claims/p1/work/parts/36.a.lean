/-! the cases, by computing -/
theorem ab_case_5 : ab_nth 5 ab_h5 = true := by decide +kernel
theorem ab_case_6 : ab_nth 6 ab_h6 = true := by decide +kernel
theorem ab_case_8 : ab_nth 8 ab_h8 = true := by decide +kernel
theorem ab_case_9 : ab_nth 9 ab_h9 = true := by decide +kernel
theorem ab_case_11 : ab_nth 11 ab_h11 = true := by decide +kernel
theorem ab_case_12 : ab_nth 12 ab_h12 = true := by decide +kernel
theorem ab_case_13 : ab_nth 13 ab_h13 = true := by decide +kernel
theorem ab_case_14 : ab_nth 14 ab_h14 = true := by decide +kernel
theorem ab_case_17 : ab_nth 17 ab_h17 = true := by decide +kernel
theorem ab_case_18 : ab_nth 18 ab_h18 = true := by decide +kernel
theorem ab_case_19 : ab_nth 19 ab_h19 = true := by decide +kernel
theorem ab_case_20 : ab_nth 20 ab_h20 = true := by decide +kernel
theorem ab_case_22 : ab_nth 22 ab_h22 = true := by decide +kernel
theorem ab_case_23 : ab_nth 23 ab_h23 = true := by decide +kernel
theorem ab_case_24 : ab_nth 24 ab_h24 = true := by decide +kernel
theorem ab_case_25 : ab_nth 25 ab_h25 = true := by decide +kernel
theorem ab_case_26 : ab_nth 26 ab_h26 = true := by decide +kernel
theorem ab_case_28 : ab_nth 28 ab_h28 = true := by decide +kernel
theorem ab_case_29 : ab_nth 29 ab_h29 = true := by decide +kernel
theorem ab_case_30 : ab_nth 30 ab_h30 = true := by decide +kernel
theorem ab_case_31 : ab_nth 31 ab_h31 = true := by decide +kernel
theorem ab_case_32 : ab_nth 32 ab_h32 = true := by decide +kernel
theorem ab_case_33 : ab_nth 33 ab_h33 = true := by decide +kernel
def ab_h0 : ab_H := ab_HB
theorem ab_case_35 : ab_nth 35 ab_h35 = true := by decide +kernel
theorem ab_case_0 : ab_nth 0 ab_h0 = true := by decide +kernel
