/-! a stretch of main, by computing -/
def n_ts4590 : List (v_Tm × Int × Nat) := [(n_T925, 0, 0)]
theorem n_k4590 : (List.range 4).all (fun g => n_ck n_gd (n_SP (ac_K0, n_WX)) n_T4590 [(13, (0, 17), (0, 1), .inl (0, (g : Int)))] n_ts4590 0 0 10 90) = true := by decide +kernel
