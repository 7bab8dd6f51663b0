/-! contracts by computing -/
theorem ac_t0_5_1 : ac_L0_5_1.all (ac_chk ac_K0 (fun kp => ac_SPt kp ac_A0_4) ac_LP0 ac_PL ac_nc) = true := by decide +kernel
theorem ac_t0_5_2 : ac_L0_5_2.all (ac_chk ac_K0 (fun kp => ac_SPt kp ac_A0_4) ac_LP0 ac_PL ac_nc) = true := by decide +kernel
theorem ac_t0_6_0 : ac_L0_6_0.all (ac_chk ac_K0 (fun kp => ac_SPt kp ac_A0_5) ac_LP0 ac_PL ac_nc) = true := by decide +kernel
