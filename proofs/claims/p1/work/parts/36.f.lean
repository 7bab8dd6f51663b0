/-! the cases, by computing -/
theorem ab_case_4 : ab_nth 4 ab_h4 = true := by decide +kernel
