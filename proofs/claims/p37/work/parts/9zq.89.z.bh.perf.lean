/-! what a call performs -/
theorem ar_t6_10 : ((ar_fits.drop 10).take 2).all ar_ck = true := by decide +kernel
