/-! contracts by computing -/
theorem ac_t0_1_0 : ac_L0_1_0.all (ac_chk ac_K0 (fun _ => ac_SP0) ac_LP0 ac_PL ac_nc) = true := by decide +kernel
theorem ac_t0_1_1 : ac_L0_1_1.all (ac_chk ac_K0 (fun _ => ac_SP0) ac_LP0 ac_PL ac_nc) = true := by decide +kernel
theorem ac_t0_1_2 : ac_L0_1_2.all (ac_chk ac_K0 (fun _ => ac_SP0) ac_LP0 ac_PL ac_nc) = true := by decide +kernel
