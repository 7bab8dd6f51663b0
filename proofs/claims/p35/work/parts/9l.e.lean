/-! the turns' stretches by computing -/
theorem ac_sB4 : ac_AB4.all ac_segB = true := by decide +kernel
theorem ac_sB5 : ac_AB5.all ac_segB = true := by decide +kernel
theorem ac_sB6 : ac_AB6.all ac_segB = true := by decide +kernel
