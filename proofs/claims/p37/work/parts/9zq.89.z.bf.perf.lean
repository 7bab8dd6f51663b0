/-! what a call performs -/
theorem ar_t6_7 : ((ar_fits.drop 7).take 2).all ar_ck = true := by decide +kernel
