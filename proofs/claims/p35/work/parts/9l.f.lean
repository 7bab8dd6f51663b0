/-! the turns' stretches by computing -/
theorem ac_sS0 : (ac_segS (ac_spB (-2147483648, -1) 20 0) && ac_segS (ac_spB (3, 2147483647) 20 0)) = true := by decide +kernel
theorem ac_sS1 : (List.range 4).all (fun v => ac_segS (ac_spB (0, 0) 0 (v : Int))) = true := by decide +kernel
theorem ac_sS2 : (List.range 4).all (fun v => ac_segS (ac_spB (1, 1) 1 (v : Int))) = true := by decide +kernel
theorem ac_sS3 : (List.range 4).all (fun v => ac_segS (ac_spB (2, 2) 2 (v : Int))) = true := by decide +kernel
theorem ac_sW : ac_Wh.all (fun p => ac_seg ac_CA p 23 (2, 8) 1 60000) = true := by decide +kernel
