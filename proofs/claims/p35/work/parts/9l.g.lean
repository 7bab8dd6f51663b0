/-! the turns' stretches by computing -/
theorem ac_sB2 : ac_AB2.all ac_segB = true := by decide +kernel
theorem ac_sB : ac_AB.all ac_segB = true := by
  unfold ac_AB
  rw [List.all_append, List.all_append, List.all_append, List.all_append, List.all_append, List.all_append, ac_sB0, ac_sB1, ac_sB2, ac_sB3, ac_sB4, ac_sB5, ac_sB6]
  rfl
theorem ac_sA : ac_AB.all ac_segA = true := by
  unfold ac_AB
  rw [List.all_append, List.all_append, List.all_append, List.all_append, List.all_append, List.all_append, ac_sA0, ac_sA1, ac_sA2, ac_sA3, ac_sA4, ac_sA5, ac_sA6]
  rfl
