/-! contracts by computing -/
theorem ac_t0_1_3 : ac_L0_1_3.all (ac_chk ac_K0 (fun _ => ac_SP0) ac_LP0 ac_PL ac_nc) = true := by decide +kernel
theorem ac_t0_2_0 : ac_L0_2_0.all (ac_chk ac_K0 (fun kp => ac_SPt kp ac_A0_1) ac_LP0 ac_PL ac_nc) = true := by decide +kernel
theorem ac_t0_2_1 : ac_L0_2_1.all (ac_chk ac_K0 (fun kp => ac_SPt kp ac_A0_1) ac_LP0 ac_PL ac_nc) = true := by decide +kernel
theorem ac_t0_3_0 : ac_L0_3_0.all (ac_chk ac_K0 (fun kp => ac_SPt kp ac_A0_2) ac_LP0 ac_PL ac_nc) = true := by decide +kernel
