/-! words of main's rows -/
theorem ok_main_0 : ∀ q ∈ rw_main_0, m_rowB m_mt RL false code room_1 q = true := List.all_eq_true.mp (by decide +kernel)
theorem okl_main_1 : rw_main_1.all (fun q => n_hv q || m_rowB m_mt RL false code room_1 q) = true := by decide +kernel
theorem okl_main_2 : rw_main_2.all (fun q => n_hv q || m_rowB m_mt RL false code room_1 q) = true := by decide +kernel
theorem okl_main_3 : rw_main_3.all (fun q => n_hv q || m_rowB m_mt RL false code room_1 q) = true := by decide +kernel
