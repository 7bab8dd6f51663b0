/-! words of main's rows -/
theorem okl_main_4 : rw_main_4.all (fun q => n_hv q || m_rowB m_mt RL false code room_1 q) = true := by decide +kernel
theorem ok_main_5 : ∀ q ∈ rw_main_5, m_rowB m_mt RL false code room_1 q = true := List.all_eq_true.mp (by decide +kernel)
theorem okl_main_6 : rw_main_6.all (fun q => n_hv q || m_rowB m_mt RL false code room_1 q) = true := by decide +kernel
theorem okl_main_7 : rw_main_7.all (fun q => n_hv q || m_rowB m_mt RL false code room_1 q) = true := by decide +kernel
