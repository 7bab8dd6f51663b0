/-! words of main's rows -/
theorem okl_main_12 : rw_main_12.all (fun q => n_hv q || m_rowB m_mt RL false code room_1 q) = true := by decide +kernel
theorem ok_main_13 : ∀ q ∈ rw_main_13, m_rowB m_mt RL false code room_1 q = true := List.all_eq_true.mp (by decide +kernel)
theorem ok_main_14 : ∀ q ∈ rw_main_14, m_rowB m_mt RL false code room_1 q = true := List.all_eq_true.mp (by decide +kernel)
theorem ok_main_15 : ∀ q ∈ rw_main_15, m_rowB m_mt RL false code room_1 q = true := List.all_eq_true.mp (by decide +kernel)
