/-! what a call performs -/
theorem ar_t6_16 : ((ar_fits.drop 16).take 1).all ar_ck = true := by decide +kernel
