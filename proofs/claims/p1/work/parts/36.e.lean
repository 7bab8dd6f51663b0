/-! the cases, by computing -/
theorem ab_case_7 : ab_nth 7 ab_h7 = true := by decide +kernel
