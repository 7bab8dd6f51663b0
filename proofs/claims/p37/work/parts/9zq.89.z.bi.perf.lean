/-! what a call performs -/
theorem ar_t6_12 : ((ar_fits.drop 12).take 1).all ar_ck = true := by decide +kernel
