/-! what a call performs -/
theorem ar_t6_13 : ((ar_fits.drop 13).take 2).all ar_ck = true := by decide +kernel
