/-! words of main's rows -/
theorem ok_main_24 : ∀ q ∈ rw_main_24, m_rowB m_mt RL false code room_1 q = true := List.all_eq_true.mp (by decide +kernel)
theorem okl_main_25 : rw_main_25.all (fun q => n_hv q || m_rowB m_mt RL false code room_1 q) = true := by decide +kernel
theorem ok_main_26 : ∀ q ∈ rw_main_26, m_rowB m_mt RL false code room_1 q = true := List.all_eq_true.mp (by decide +kernel)
theorem okl_main_27 : rw_main_27.all (fun q => n_hv q || m_rowB m_mt RL false code room_1 q) = true := by decide +kernel
