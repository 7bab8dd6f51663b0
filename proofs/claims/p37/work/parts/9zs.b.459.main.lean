/-! a stretch of main, by computing -/
def n_ts459 : List (v_Tm × Int × Nat) := [(n_T925, 0, 0)]
theorem n_k459 : n_ck n_gd (n_SP (ac_K0, n_WX)) n_T459 [] n_ts459 0 0 10 90 = true := by decide +kernel
