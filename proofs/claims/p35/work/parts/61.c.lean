/-! contracts by computing -/
theorem ac_t0_3_1 : ac_L0_3_1.all (ac_chk ac_K0 (fun kp => ac_SPt kp ac_A0_2) ac_LP0 ac_PL ac_nc) = true := by decide +kernel
theorem ac_t0_4_0 : ac_L0_4_0.all (ac_chk ac_K0 (fun kp => ac_SPt kp ac_A0_3) ac_LP0 ac_PL ac_nc) = true := by decide +kernel
theorem ac_t0_5_0 : ac_L0_5_0.all (ac_chk ac_K0 (fun kp => ac_SPt kp ac_A0_4) ac_LP0 ac_PL ac_nc) = true := by decide +kernel
