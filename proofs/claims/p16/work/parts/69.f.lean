/-! the turns' stretches by computing -/
theorem ac_sS0 : (ac_segS (ac_spA (-2147483648, -1) 20 0) && ac_segS (ac_spA (3, 2147483647) 20 0)) = true := by decide +kernel
theorem ac_sS1 : (List.range 3).all (fun k => ac_segS (ac_spA ((k : Int), (k : Int)) k 3)) = true := by decide +kernel
theorem ac_sS2 : (List.range 3).all (fun k => (List.range 3).all (fun v => ac_segS (ac_sp2 ac_BA k v (-2147483648, 1)))) = true := by decide +kernel
theorem ac_sS3 : (List.range 3).all (fun k => (List.range 3).all (fun v => ac_segS (ac_sp2 ac_BA k v (6, 2147483647)))) = true := by decide +kernel
theorem ac_sW : ac_Wh.all (fun p => ac_seg ac_CA p 23 (2, 8) 1 60000) = true := by decide +kernel
