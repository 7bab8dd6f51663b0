/-! words of main's rows -/
theorem ok_main_20 : ∀ q ∈ rw_main_20, m_rowB m_mt RL false code room_1 q = true := List.all_eq_true.mp (by decide +kernel)
theorem ok_main_21 : ∀ q ∈ rw_main_21, m_rowB m_mt RL false code room_1 q = true := List.all_eq_true.mp (by decide +kernel)
theorem okl_main_22 : rw_main_22.all (fun q => n_hv q || m_rowB m_mt RL false code room_1 q) = true := by decide +kernel
theorem okl_main_23 : rw_main_23.all (fun q => n_hv q || m_rowB m_mt RL false code room_1 q) = true := by decide +kernel
