/-! the methods that feed, by computing -/
theorem ac_tm_order : ac_chm ac_SPl ac_corder = true := by decide +kernel
