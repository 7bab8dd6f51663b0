/-! a stretch of main, by computing -/
def n_ts977 : List (v_Tm × Int × Nat) := [(n_T162, 1, 0)]
theorem n_k977 : n_ck n_gd (n_SP (ac_K0, n_WX)) n_T977 [] n_ts977 500 4500 600 5400 = true := by decide +kernel
