/-! contracts by computing: the second hall -/
theorem ac_tB_3_1 : ac_LB_3_1.all (ac_chk ac_KB (fun kp => ac_SPt kp ac_AB_2) ac_LPB ac_PL ac_nc) = true := by decide +kernel
theorem ac_tB_3_2 : ac_LB_3_2.all (ac_chk ac_KB (fun kp => ac_SPt kp ac_AB_2) ac_LPB ac_PL ac_nc) = true := by decide +kernel
theorem ac_tB_4_0 : ac_LB_4_0.all (ac_chk ac_KB (fun kp => ac_SPt kp ac_AB_3) ac_LPB ac_PL ac_nc) = true := by decide +kernel
theorem ac_tB_5_0 : ac_LB_5_0.all (ac_chk ac_KB (fun kp => ac_SPt kp ac_AB_4) ac_LPB ac_PL ac_nc) = true := by decide +kernel
theorem ac_tB_6_0 : ac_LB_6_0.all (ac_chk ac_KB (fun kp => ac_SPt kp ac_AB_5) ac_LPB ac_PL ac_nc) = true := by decide +kernel
