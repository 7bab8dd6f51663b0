/-! what a call performs -/
theorem ar_t6_3 : ((ar_fits.drop 3).take 1).all ar_ck = true := by decide +kernel
