/-! a stretch of main, by computing -/
def n_ts1103 : List (v_Tm × Int × Nat) := []
theorem n_k1103 : n_ck n_gd (n_SP (ac_K0, n_WX)) n_T1103 [] n_ts1103 0 0 100 900 = true := by decide +kernel
