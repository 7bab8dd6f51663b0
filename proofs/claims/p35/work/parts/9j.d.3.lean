/-! the methods that feed, by computing -/
theorem ac_tm_spread : ac_chm ac_SPl ac_cspread = true := by decide +kernel
