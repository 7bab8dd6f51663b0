/-! contracts by computing: the second hall -/
theorem ac_tB_1_0 : ac_LB_1_0.all (ac_chk ac_KB (fun _ => ac_SP0) ac_LPB ac_PL ac_nc) = true := by decide +kernel
theorem ac_tB_2_0 : ac_LB_2_0.all (ac_chk ac_KB (fun kp => ac_SPt kp ac_AB_1) ac_LPB ac_PL ac_nc) = true := by decide +kernel
theorem ac_tB_2_1 : ac_LB_2_1.all (ac_chk ac_KB (fun kp => ac_SPt kp ac_AB_1) ac_LPB ac_PL ac_nc) = true := by decide +kernel
theorem ac_tB_3_0 : ac_LB_3_0.all (ac_chk ac_KB (fun kp => ac_SPt kp ac_AB_2) ac_LPB ac_PL ac_nc) = true := by decide +kernel
