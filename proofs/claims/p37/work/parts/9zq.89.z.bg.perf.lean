/-! what a call performs -/
theorem ar_t6_9 : ((ar_fits.drop 9).take 1).all ar_ck = true := by decide +kernel
