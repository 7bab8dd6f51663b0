/-! what a call performs -/
theorem ar_t6_2 : ((ar_fits.drop 2).take 1).all ar_ck = true := by decide +kernel
