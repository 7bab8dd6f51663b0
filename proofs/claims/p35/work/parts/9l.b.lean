/-! the turns' stretches by computing -/
theorem ac_sA0 : ac_AB0.all ac_segA = true := by decide +kernel
theorem ac_sA1 : ac_AB1.all ac_segA = true := by decide +kernel
theorem ac_sA2 : ac_AB2.all ac_segA = true := by decide +kernel
theorem ac_sA3 : ac_AB3.all ac_segA = true := by decide +kernel
