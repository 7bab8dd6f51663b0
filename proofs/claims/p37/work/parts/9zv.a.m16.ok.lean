/-! words of main's rows -/
theorem ok_main_16 : ∀ q ∈ rw_main_16, m_rowB m_mt RL false code room_1 q = true := List.all_eq_true.mp (by decide +kernel)
theorem okl_main_17 : rw_main_17.all (fun q => n_hv q || m_rowB m_mt RL false code room_1 q) = true := by decide +kernel
theorem ok_main_18 : ∀ q ∈ rw_main_18, m_rowB m_mt RL false code room_1 q = true := List.all_eq_true.mp (by decide +kernel)
theorem ok_main_19 : ∀ q ∈ rw_main_19, m_rowB m_mt RL false code room_1 q = true := List.all_eq_true.mp (by decide +kernel)
