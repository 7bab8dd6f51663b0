/-! what a call performs -/
theorem ar_t6_15 : ((ar_fits.drop 15).take 1).all ar_ck = true := by decide +kernel
