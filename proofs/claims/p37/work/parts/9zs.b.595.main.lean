/-! a stretch of main, by computing -/
def n_ts595 : List (v_Tm × Int × Nat) := [(n_T925, 0, 2)]
theorem n_k595 : n_ck n_gd (n_SP (ac_K0, n_WX)) n_T595 [] n_ts595 2310 20790 2400 21600 = true := by decide +kernel
