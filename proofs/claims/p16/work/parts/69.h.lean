/-! the turn of a split, by computing: the class's half, the reference's half -/
theorem ac_s5A_00 : ac_s5A (0, 0) = true := by decide +kernel
theorem ac_s5A_01 : ac_s5A (0, 1) = true := by decide +kernel
theorem ac_s5A_02 : ac_s5A (0, 2) = true := by decide +kernel
theorem ac_s5A_10 : ac_s5A (1, 0) = true := by decide +kernel
theorem ac_s5A_11 : ac_s5A (1, 1) = true := by decide +kernel
theorem ac_s5A_12 : ac_s5A (1, 2) = true := by decide +kernel
theorem ac_s5A_20 : ac_s5A (2, 0) = true := by decide +kernel
theorem ac_s5A_21 : ac_s5A (2, 1) = true := by decide +kernel
theorem ac_s5A_22 : ac_s5A (2, 2) = true := by decide +kernel
