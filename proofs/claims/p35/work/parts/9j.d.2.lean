/-! the methods that feed, by computing -/
theorem ac_tm_open : ac_chm ac_SPl ac_copen = true := by decide +kernel
