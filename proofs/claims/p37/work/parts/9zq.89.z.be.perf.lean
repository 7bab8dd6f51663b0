/-! what a call performs -/
theorem ar_t6_6 : ((ar_fits.drop 6).take 1).all ar_ck = true := by decide +kernel
