/-! what a call performs -/
theorem ar_t6_4 : ((ar_fits.drop 4).take 2).all ar_ck = true := by decide +kernel
