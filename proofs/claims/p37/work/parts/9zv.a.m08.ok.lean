/-! words of main's rows -/
theorem okl_main_8 : rw_main_8.all (fun q => n_hv q || m_rowB m_mt RL false code room_1 q) = true := by decide +kernel
theorem okl_main_9 : rw_main_9.all (fun q => n_hv q || m_rowB m_mt RL false code room_1 q) = true := by decide +kernel
theorem okl_main_10 : rw_main_10.all (fun q => n_hv q || m_rowB m_mt RL false code room_1 q) = true := by decide +kernel
theorem ok_main_11 : ∀ q ∈ rw_main_11, m_rowB m_mt RL false code room_1 q = true := List.all_eq_true.mp (by decide +kernel)
