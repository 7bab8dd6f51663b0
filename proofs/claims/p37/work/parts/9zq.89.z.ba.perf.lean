/-! what a call performs -/
theorem ar_t6_0 : ((ar_fits.drop 0).take 2).all ar_ck = true := by decide +kernel
