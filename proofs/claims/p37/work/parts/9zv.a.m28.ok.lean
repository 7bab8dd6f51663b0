/-! words of main's rows -/
theorem okl_main_28 : rw_main_28.all (fun q => n_hv q || m_rowB m_mt RL false code room_1 q) = true := by decide +kernel
theorem okl_main_29 : rw_main_29.all (fun q => n_hv q || m_rowB m_mt RL false code room_1 q) = true := by decide +kernel
theorem okl_main_30 : rw_main_30.all (fun q => n_hv q || m_rowB m_mt RL false code room_1 q) = true := by decide +kernel
