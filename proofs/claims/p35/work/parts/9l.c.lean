/-! the turns' stretches by computing -/
theorem ac_sA4 : ac_AB4.all ac_segA = true := by decide +kernel
theorem ac_sA5 : ac_AB5.all ac_segA = true := by decide +kernel
theorem ac_sA6 : ac_AB6.all ac_segA = true := by decide +kernel
theorem ac_sB1 : ac_AB1.all ac_segB = true := by decide +kernel
