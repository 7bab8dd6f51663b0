/-! the turns' stretches by computing -/
theorem ac_sB0 : ac_AB0.all ac_segB = true := by decide +kernel
theorem ac_sB3 : ac_AB3.all ac_segB = true := by decide +kernel
