/-! the cases, by computing -/
theorem ab_case_2 : ab_nth 2 ab_h2 = true := by decide +kernel
theorem ab_case_15 : ab_nth 15 ab_h15 = true := by decide +kernel
