/-! the cases, by computing -/
theorem ab_case_1 : ab_nth 1 ab_h1 = true := by decide +kernel
theorem ab_case_10 : ab_nth 10 ab_h10 = true := by decide +kernel
theorem ab_case_16 : ab_nth 16 ab_h16 = true := by decide +kernel
theorem ab_case_21 : ab_nth 21 ab_h21 = true := by decide +kernel
theorem ab_case_27 : ab_nth 27 ab_h27 = true := by decide +kernel
