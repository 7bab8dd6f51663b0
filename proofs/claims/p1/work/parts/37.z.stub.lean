theorem ab_case_7 : ab_tl 7 ab_p7 ab_h7 0 = true := sorry
theorem ab_case_3 : ab_tl 3 ab_p3 ab_h3 0 = true := sorry
