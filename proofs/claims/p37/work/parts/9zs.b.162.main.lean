/-! a stretch of main, by computing -/
def n_ts162 : List (v_Tm × Int × Nat) := [(n_T221, 0, 0), (n_T245, 0, 0), (n_T269, 0, 0), (n_T304, 0, 0), (n_T355, 0, 0), (n_T382, 0, 0), (n_T426, 0, 0), (n_T595, 0, 0), (n_T1091, 0, 0)]
theorem n_k162 : n_ck n_gd2 n_part n_T162 [] n_ts162 0 0 10 90 = true := by decide +kernel
