/-! a stretch of main, by computing -/
def n_ts925 : List (v_Tm × Int × Nat) := [(n_T977, 0, 0)]
theorem n_k925 : n_ck n_gd (n_SP (ac_K0, n_WX)) n_T925 [] n_ts925 50 450 100 900 = true := by decide +kernel
