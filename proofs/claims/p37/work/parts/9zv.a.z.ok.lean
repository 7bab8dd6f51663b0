/-! words of main's rows -/
theorem ok_main_1 : ∀ q ∈ rw_main_1, m_rowB m_mt RL false code room_1 q = true := by
  intro q h
  have g := (Bool.or_eq_true _ _).mp (List.all_eq_true.mp okl_main_1 q h)
  unfold rw_main_1 at h
  rcases List.mem_cons.mp h with rfl | h
  · exact g.elim (fun z => absurd z (by decide)) (fun z => z)
  rcases List.mem_cons.mp h with rfl | h
  · exact g.elim (fun z => absurd z (by decide)) (fun z => z)
  rcases List.mem_cons.mp h with rfl | h
  · exact g.elim (fun z => absurd z (by decide)) (fun z => z)
  rcases List.mem_cons.mp h with rfl | h
  · exact g.elim (fun z => absurd z (by decide)) (fun z => z)
  rcases List.mem_cons.mp h with rfl | h
  · exact g.elim (fun z => absurd z (by decide)) (fun z => z)
  rcases List.mem_cons.mp h with rfl | h
  · exact g.elim (fun z => absurd z (by decide)) (fun z => z)
  rcases List.mem_cons.mp h with rfl | h
  · exact g.elim (fun z => absurd z (by decide)) (fun z => z)
  rcases List.mem_cons.mp h with rfl | h
  · exact g.elim (fun z => absurd z (by decide)) (fun z => z)
  rcases List.mem_cons.mp h with rfl | h
  · exact g.elim (fun z => absurd z (by decide)) (fun z => z)
  rcases List.mem_cons.mp h with rfl | h
  · exact g.elim (fun z => absurd z (by decide)) (fun z => z)
  rcases List.mem_cons.mp h with rfl | h
  · exact g.elim (fun z => absurd z (by decide)) (fun z => z)
  rcases List.mem_cons.mp h with rfl | h
  · exact g.elim (fun z => absurd z (by decide)) (fun z => z)
  rcases List.mem_cons.mp h with rfl | h
  · exact g.elim (fun z => absurd z (by decide)) (fun z => z)
  rcases List.mem_cons.mp h with rfl | h
  · exact g.elim (fun z => absurd z (by decide)) (fun z => z)
  rcases List.mem_cons.mp h with rfl | h
  · exact n_hk0
  rcases List.mem_cons.mp h with rfl | h
  · exact g.elim (fun z => absurd z (by decide)) (fun z => z)
  rcases List.mem_cons.mp h with rfl | h
  · exact g.elim (fun z => absurd z (by decide)) (fun z => z)
  rcases List.mem_cons.mp h with rfl | h
  · exact g.elim (fun z => absurd z (by decide)) (fun z => z)
  rcases List.mem_cons.mp h with rfl | h
  · exact g.elim (fun z => absurd z (by decide)) (fun z => z)
  rcases List.mem_cons.mp h with rfl | h
  · exact g.elim (fun z => absurd z (by decide)) (fun z => z)
  cases h
theorem ok_main_2 : ∀ q ∈ rw_main_2, m_rowB m_mt RL false code room_1 q = true := by
  intro q h
  have g := (Bool.or_eq_true _ _).mp (List.all_eq_true.mp okl_main_2 q h)
  unfold rw_main_2 at h
  rcases List.mem_cons.mp h with rfl | h
  · exact g.elim (fun z => absurd z (by decide)) (fun z => z)
  rcases List.mem_cons.mp h with rfl | h
  · exact g.elim (fun z => absurd z (by decide)) (fun z => z)
  rcases List.mem_cons.mp h with rfl | h
  · exact g.elim (fun z => absurd z (by decide)) (fun z => z)
  rcases List.mem_cons.mp h with rfl | h
  · exact g.elim (fun z => absurd z (by decide)) (fun z => z)
  rcases List.mem_cons.mp h with rfl | h
  · exact g.elim (fun z => absurd z (by decide)) (fun z => z)
  rcases List.mem_cons.mp h with rfl | h
  · exact g.elim (fun z => absurd z (by decide)) (fun z => z)
  rcases List.mem_cons.mp h with rfl | h
  · exact g.elim (fun z => absurd z (by decide)) (fun z => z)
  rcases List.mem_cons.mp h with rfl | h
  · exact n_hk1
  rcases List.mem_cons.mp h with rfl | h
  · exact g.elim (fun z => absurd z (by decide)) (fun z => z)
  rcases List.mem_cons.mp h with rfl | h
  · exact g.elim (fun z => absurd z (by decide)) (fun z => z)
  rcases List.mem_cons.mp h with rfl | h
  · exact g.elim (fun z => absurd z (by decide)) (fun z => z)
  rcases List.mem_cons.mp h with rfl | h
  · exact g.elim (fun z => absurd z (by decide)) (fun z => z)
  rcases List.mem_cons.mp h with rfl | h
  · exact g.elim (fun z => absurd z (by decide)) (fun z => z)
  rcases List.mem_cons.mp h with rfl | h
  · exact g.elim (fun z => absurd z (by decide)) (fun z => z)
  rcases List.mem_cons.mp h with rfl | h
  · exact g.elim (fun z => absurd z (by decide)) (fun z => z)
  rcases List.mem_cons.mp h with rfl | h
  · exact g.elim (fun z => absurd z (by decide)) (fun z => z)
  rcases List.mem_cons.mp h with rfl | h
  · exact g.elim (fun z => absurd z (by decide)) (fun z => z)
  rcases List.mem_cons.mp h with rfl | h
  · exact g.elim (fun z => absurd z (by decide)) (fun z => z)
  rcases List.mem_cons.mp h with rfl | h
  · exact g.elim (fun z => absurd z (by decide)) (fun z => z)
  rcases List.mem_cons.mp h with rfl | h
  · exact g.elim (fun z => absurd z (by decide)) (fun z => z)
  cases h
theorem ok_main_3 : ∀ q ∈ rw_main_3, m_rowB m_mt RL false code room_1 q = true := by
  intro q h
  have g := (Bool.or_eq_true _ _).mp (List.all_eq_true.mp okl_main_3 q h)
  unfold rw_main_3 at h
  rcases List.mem_cons.mp h with rfl | h
  · exact n_hk2
  rcases List.mem_cons.mp h with rfl | h
  · exact g.elim (fun z => absurd z (by decide)) (fun z => z)
  rcases List.mem_cons.mp h with rfl | h
  · exact g.elim (fun z => absurd z (by decide)) (fun z => z)
  rcases List.mem_cons.mp h with rfl | h
  · exact g.elim (fun z => absurd z (by decide)) (fun z => z)
  rcases List.mem_cons.mp h with rfl | h
  · exact g.elim (fun z => absurd z (by decide)) (fun z => z)
  rcases List.mem_cons.mp h with rfl | h
  · exact g.elim (fun z => absurd z (by decide)) (fun z => z)
  rcases List.mem_cons.mp h with rfl | h
  · exact g.elim (fun z => absurd z (by decide)) (fun z => z)
  rcases List.mem_cons.mp h with rfl | h
  · exact g.elim (fun z => absurd z (by decide)) (fun z => z)
  rcases List.mem_cons.mp h with rfl | h
  · exact g.elim (fun z => absurd z (by decide)) (fun z => z)
  rcases List.mem_cons.mp h with rfl | h
  · exact g.elim (fun z => absurd z (by decide)) (fun z => z)
  rcases List.mem_cons.mp h with rfl | h
  · exact g.elim (fun z => absurd z (by decide)) (fun z => z)
  rcases List.mem_cons.mp h with rfl | h
  · exact g.elim (fun z => absurd z (by decide)) (fun z => z)
  rcases List.mem_cons.mp h with rfl | h
  · exact g.elim (fun z => absurd z (by decide)) (fun z => z)
  rcases List.mem_cons.mp h with rfl | h
  · exact n_hk3
  rcases List.mem_cons.mp h with rfl | h
  · exact g.elim (fun z => absurd z (by decide)) (fun z => z)
  rcases List.mem_cons.mp h with rfl | h
  · exact g.elim (fun z => absurd z (by decide)) (fun z => z)
  rcases List.mem_cons.mp h with rfl | h
  · exact g.elim (fun z => absurd z (by decide)) (fun z => z)
  rcases List.mem_cons.mp h with rfl | h
  · exact g.elim (fun z => absurd z (by decide)) (fun z => z)
  rcases List.mem_cons.mp h with rfl | h
  · exact g.elim (fun z => absurd z (by decide)) (fun z => z)
  rcases List.mem_cons.mp h with rfl | h
  · exact g.elim (fun z => absurd z (by decide)) (fun z => z)
  cases h
theorem ok_main_4 : ∀ q ∈ rw_main_4, m_rowB m_mt RL false code room_1 q = true := by
  intro q h
  have g := (Bool.or_eq_true _ _).mp (List.all_eq_true.mp okl_main_4 q h)
  unfold rw_main_4 at h
  rcases List.mem_cons.mp h with rfl | h
  · exact g.elim (fun z => absurd z (by decide)) (fun z => z)
  rcases List.mem_cons.mp h with rfl | h
  · exact g.elim (fun z => absurd z (by decide)) (fun z => z)
  rcases List.mem_cons.mp h with rfl | h
  · exact g.elim (fun z => absurd z (by decide)) (fun z => z)
  rcases List.mem_cons.mp h with rfl | h
  · exact g.elim (fun z => absurd z (by decide)) (fun z => z)
  rcases List.mem_cons.mp h with rfl | h
  · exact g.elim (fun z => absurd z (by decide)) (fun z => z)
  rcases List.mem_cons.mp h with rfl | h
  · exact g.elim (fun z => absurd z (by decide)) (fun z => z)
  rcases List.mem_cons.mp h with rfl | h
  · exact n_hk4
  rcases List.mem_cons.mp h with rfl | h
  · exact g.elim (fun z => absurd z (by decide)) (fun z => z)
  rcases List.mem_cons.mp h with rfl | h
  · exact g.elim (fun z => absurd z (by decide)) (fun z => z)
  rcases List.mem_cons.mp h with rfl | h
  · exact g.elim (fun z => absurd z (by decide)) (fun z => z)
  rcases List.mem_cons.mp h with rfl | h
  · exact g.elim (fun z => absurd z (by decide)) (fun z => z)
  rcases List.mem_cons.mp h with rfl | h
  · exact g.elim (fun z => absurd z (by decide)) (fun z => z)
  rcases List.mem_cons.mp h with rfl | h
  · exact g.elim (fun z => absurd z (by decide)) (fun z => z)
  rcases List.mem_cons.mp h with rfl | h
  · exact g.elim (fun z => absurd z (by decide)) (fun z => z)
  rcases List.mem_cons.mp h with rfl | h
  · exact g.elim (fun z => absurd z (by decide)) (fun z => z)
  rcases List.mem_cons.mp h with rfl | h
  · exact g.elim (fun z => absurd z (by decide)) (fun z => z)
  rcases List.mem_cons.mp h with rfl | h
  · exact g.elim (fun z => absurd z (by decide)) (fun z => z)
  rcases List.mem_cons.mp h with rfl | h
  · exact g.elim (fun z => absurd z (by decide)) (fun z => z)
  rcases List.mem_cons.mp h with rfl | h
  · exact g.elim (fun z => absurd z (by decide)) (fun z => z)
  rcases List.mem_cons.mp h with rfl | h
  · exact g.elim (fun z => absurd z (by decide)) (fun z => z)
  cases h
theorem ok_main_6 : ∀ q ∈ rw_main_6, m_rowB m_mt RL false code room_1 q = true := by
  intro q h
  have g := (Bool.or_eq_true _ _).mp (List.all_eq_true.mp okl_main_6 q h)
  unfold rw_main_6 at h
  rcases List.mem_cons.mp h with rfl | h
  · exact g.elim (fun z => absurd z (by decide)) (fun z => z)
  rcases List.mem_cons.mp h with rfl | h
  · exact g.elim (fun z => absurd z (by decide)) (fun z => z)
  rcases List.mem_cons.mp h with rfl | h
  · exact g.elim (fun z => absurd z (by decide)) (fun z => z)
  rcases List.mem_cons.mp h with rfl | h
  · exact g.elim (fun z => absurd z (by decide)) (fun z => z)
  rcases List.mem_cons.mp h with rfl | h
  · exact g.elim (fun z => absurd z (by decide)) (fun z => z)
  rcases List.mem_cons.mp h with rfl | h
  · exact g.elim (fun z => absurd z (by decide)) (fun z => z)
  rcases List.mem_cons.mp h with rfl | h
  · exact g.elim (fun z => absurd z (by decide)) (fun z => z)
  rcases List.mem_cons.mp h with rfl | h
  · exact g.elim (fun z => absurd z (by decide)) (fun z => z)
  rcases List.mem_cons.mp h with rfl | h
  · exact g.elim (fun z => absurd z (by decide)) (fun z => z)
  rcases List.mem_cons.mp h with rfl | h
  · exact g.elim (fun z => absurd z (by decide)) (fun z => z)
  rcases List.mem_cons.mp h with rfl | h
  · exact g.elim (fun z => absurd z (by decide)) (fun z => z)
  rcases List.mem_cons.mp h with rfl | h
  · exact g.elim (fun z => absurd z (by decide)) (fun z => z)
  rcases List.mem_cons.mp h with rfl | h
  · exact g.elim (fun z => absurd z (by decide)) (fun z => z)
  rcases List.mem_cons.mp h with rfl | h
  · exact g.elim (fun z => absurd z (by decide)) (fun z => z)
  rcases List.mem_cons.mp h with rfl | h
  · exact g.elim (fun z => absurd z (by decide)) (fun z => z)
  rcases List.mem_cons.mp h with rfl | h
  · exact n_hk5
  rcases List.mem_cons.mp h with rfl | h
  · exact g.elim (fun z => absurd z (by decide)) (fun z => z)
  rcases List.mem_cons.mp h with rfl | h
  · exact g.elim (fun z => absurd z (by decide)) (fun z => z)
  rcases List.mem_cons.mp h with rfl | h
  · exact g.elim (fun z => absurd z (by decide)) (fun z => z)
  rcases List.mem_cons.mp h with rfl | h
  · exact g.elim (fun z => absurd z (by decide)) (fun z => z)
  cases h
theorem ok_main_7 : ∀ q ∈ rw_main_7, m_rowB m_mt RL false code room_1 q = true := by
  intro q h
  have g := (Bool.or_eq_true _ _).mp (List.all_eq_true.mp okl_main_7 q h)
  unfold rw_main_7 at h
  rcases List.mem_cons.mp h with rfl | h
  · exact g.elim (fun z => absurd z (by decide)) (fun z => z)
  rcases List.mem_cons.mp h with rfl | h
  · exact g.elim (fun z => absurd z (by decide)) (fun z => z)
  rcases List.mem_cons.mp h with rfl | h
  · exact g.elim (fun z => absurd z (by decide)) (fun z => z)
  rcases List.mem_cons.mp h with rfl | h
  · exact g.elim (fun z => absurd z (by decide)) (fun z => z)
  rcases List.mem_cons.mp h with rfl | h
  · exact g.elim (fun z => absurd z (by decide)) (fun z => z)
  rcases List.mem_cons.mp h with rfl | h
  · exact g.elim (fun z => absurd z (by decide)) (fun z => z)
  rcases List.mem_cons.mp h with rfl | h
  · exact g.elim (fun z => absurd z (by decide)) (fun z => z)
  rcases List.mem_cons.mp h with rfl | h
  · exact n_hk6
  rcases List.mem_cons.mp h with rfl | h
  · exact g.elim (fun z => absurd z (by decide)) (fun z => z)
  rcases List.mem_cons.mp h with rfl | h
  · exact g.elim (fun z => absurd z (by decide)) (fun z => z)
  rcases List.mem_cons.mp h with rfl | h
  · exact g.elim (fun z => absurd z (by decide)) (fun z => z)
  rcases List.mem_cons.mp h with rfl | h
  · exact g.elim (fun z => absurd z (by decide)) (fun z => z)
  rcases List.mem_cons.mp h with rfl | h
  · exact g.elim (fun z => absurd z (by decide)) (fun z => z)
  rcases List.mem_cons.mp h with rfl | h
  · exact g.elim (fun z => absurd z (by decide)) (fun z => z)
  rcases List.mem_cons.mp h with rfl | h
  · exact g.elim (fun z => absurd z (by decide)) (fun z => z)
  rcases List.mem_cons.mp h with rfl | h
  · exact g.elim (fun z => absurd z (by decide)) (fun z => z)
  rcases List.mem_cons.mp h with rfl | h
  · exact g.elim (fun z => absurd z (by decide)) (fun z => z)
  rcases List.mem_cons.mp h with rfl | h
  · exact g.elim (fun z => absurd z (by decide)) (fun z => z)
  rcases List.mem_cons.mp h with rfl | h
  · exact g.elim (fun z => absurd z (by decide)) (fun z => z)
  rcases List.mem_cons.mp h with rfl | h
  · exact g.elim (fun z => absurd z (by decide)) (fun z => z)
  cases h
theorem ok_main_8 : ∀ q ∈ rw_main_8, m_rowB m_mt RL false code room_1 q = true := by
  intro q h
  have g := (Bool.or_eq_true _ _).mp (List.all_eq_true.mp okl_main_8 q h)
  unfold rw_main_8 at h
  rcases List.mem_cons.mp h with rfl | h
  · exact g.elim (fun z => absurd z (by decide)) (fun z => z)
  rcases List.mem_cons.mp h with rfl | h
  · exact g.elim (fun z => absurd z (by decide)) (fun z => z)
  rcases List.mem_cons.mp h with rfl | h
  · exact g.elim (fun z => absurd z (by decide)) (fun z => z)
  rcases List.mem_cons.mp h with rfl | h
  · exact g.elim (fun z => absurd z (by decide)) (fun z => z)
  rcases List.mem_cons.mp h with rfl | h
  · exact n_hk7
  rcases List.mem_cons.mp h with rfl | h
  · exact g.elim (fun z => absurd z (by decide)) (fun z => z)
  rcases List.mem_cons.mp h with rfl | h
  · exact g.elim (fun z => absurd z (by decide)) (fun z => z)
  rcases List.mem_cons.mp h with rfl | h
  · exact g.elim (fun z => absurd z (by decide)) (fun z => z)
  rcases List.mem_cons.mp h with rfl | h
  · exact g.elim (fun z => absurd z (by decide)) (fun z => z)
  rcases List.mem_cons.mp h with rfl | h
  · exact g.elim (fun z => absurd z (by decide)) (fun z => z)
  rcases List.mem_cons.mp h with rfl | h
  · exact g.elim (fun z => absurd z (by decide)) (fun z => z)
  rcases List.mem_cons.mp h with rfl | h
  · exact g.elim (fun z => absurd z (by decide)) (fun z => z)
  rcases List.mem_cons.mp h with rfl | h
  · exact g.elim (fun z => absurd z (by decide)) (fun z => z)
  rcases List.mem_cons.mp h with rfl | h
  · exact g.elim (fun z => absurd z (by decide)) (fun z => z)
  rcases List.mem_cons.mp h with rfl | h
  · exact g.elim (fun z => absurd z (by decide)) (fun z => z)
  rcases List.mem_cons.mp h with rfl | h
  · exact g.elim (fun z => absurd z (by decide)) (fun z => z)
  rcases List.mem_cons.mp h with rfl | h
  · exact g.elim (fun z => absurd z (by decide)) (fun z => z)
  rcases List.mem_cons.mp h with rfl | h
  · exact g.elim (fun z => absurd z (by decide)) (fun z => z)
  rcases List.mem_cons.mp h with rfl | h
  · exact g.elim (fun z => absurd z (by decide)) (fun z => z)
  rcases List.mem_cons.mp h with rfl | h
  · exact g.elim (fun z => absurd z (by decide)) (fun z => z)
  cases h
theorem ok_main_9 : ∀ q ∈ rw_main_9, m_rowB m_mt RL false code room_1 q = true := by
  intro q h
  have g := (Bool.or_eq_true _ _).mp (List.all_eq_true.mp okl_main_9 q h)
  unfold rw_main_9 at h
  rcases List.mem_cons.mp h with rfl | h
  · exact g.elim (fun z => absurd z (by decide)) (fun z => z)
  rcases List.mem_cons.mp h with rfl | h
  · exact g.elim (fun z => absurd z (by decide)) (fun z => z)
  rcases List.mem_cons.mp h with rfl | h
  · exact g.elim (fun z => absurd z (by decide)) (fun z => z)
  rcases List.mem_cons.mp h with rfl | h
  · exact g.elim (fun z => absurd z (by decide)) (fun z => z)
  rcases List.mem_cons.mp h with rfl | h
  · exact g.elim (fun z => absurd z (by decide)) (fun z => z)
  rcases List.mem_cons.mp h with rfl | h
  · exact g.elim (fun z => absurd z (by decide)) (fun z => z)
  rcases List.mem_cons.mp h with rfl | h
  · exact g.elim (fun z => absurd z (by decide)) (fun z => z)
  rcases List.mem_cons.mp h with rfl | h
  · exact g.elim (fun z => absurd z (by decide)) (fun z => z)
  rcases List.mem_cons.mp h with rfl | h
  · exact g.elim (fun z => absurd z (by decide)) (fun z => z)
  rcases List.mem_cons.mp h with rfl | h
  · exact n_hk8
  rcases List.mem_cons.mp h with rfl | h
  · exact g.elim (fun z => absurd z (by decide)) (fun z => z)
  rcases List.mem_cons.mp h with rfl | h
  · exact g.elim (fun z => absurd z (by decide)) (fun z => z)
  rcases List.mem_cons.mp h with rfl | h
  · exact g.elim (fun z => absurd z (by decide)) (fun z => z)
  rcases List.mem_cons.mp h with rfl | h
  · exact g.elim (fun z => absurd z (by decide)) (fun z => z)
  rcases List.mem_cons.mp h with rfl | h
  · exact g.elim (fun z => absurd z (by decide)) (fun z => z)
  rcases List.mem_cons.mp h with rfl | h
  · exact g.elim (fun z => absurd z (by decide)) (fun z => z)
  rcases List.mem_cons.mp h with rfl | h
  · exact g.elim (fun z => absurd z (by decide)) (fun z => z)
  rcases List.mem_cons.mp h with rfl | h
  · exact g.elim (fun z => absurd z (by decide)) (fun z => z)
  rcases List.mem_cons.mp h with rfl | h
  · exact g.elim (fun z => absurd z (by decide)) (fun z => z)
  rcases List.mem_cons.mp h with rfl | h
  · exact g.elim (fun z => absurd z (by decide)) (fun z => z)
  cases h
theorem ok_main_10 : ∀ q ∈ rw_main_10, m_rowB m_mt RL false code room_1 q = true := by
  intro q h
  have g := (Bool.or_eq_true _ _).mp (List.all_eq_true.mp okl_main_10 q h)
  unfold rw_main_10 at h
  rcases List.mem_cons.mp h with rfl | h
  · exact g.elim (fun z => absurd z (by decide)) (fun z => z)
  rcases List.mem_cons.mp h with rfl | h
  · exact g.elim (fun z => absurd z (by decide)) (fun z => z)
  rcases List.mem_cons.mp h with rfl | h
  · exact n_hk9
  rcases List.mem_cons.mp h with rfl | h
  · exact g.elim (fun z => absurd z (by decide)) (fun z => z)
  rcases List.mem_cons.mp h with rfl | h
  · exact g.elim (fun z => absurd z (by decide)) (fun z => z)
  rcases List.mem_cons.mp h with rfl | h
  · exact g.elim (fun z => absurd z (by decide)) (fun z => z)
  rcases List.mem_cons.mp h with rfl | h
  · exact g.elim (fun z => absurd z (by decide)) (fun z => z)
  rcases List.mem_cons.mp h with rfl | h
  · exact g.elim (fun z => absurd z (by decide)) (fun z => z)
  rcases List.mem_cons.mp h with rfl | h
  · exact g.elim (fun z => absurd z (by decide)) (fun z => z)
  rcases List.mem_cons.mp h with rfl | h
  · exact g.elim (fun z => absurd z (by decide)) (fun z => z)
  rcases List.mem_cons.mp h with rfl | h
  · exact g.elim (fun z => absurd z (by decide)) (fun z => z)
  rcases List.mem_cons.mp h with rfl | h
  · exact g.elim (fun z => absurd z (by decide)) (fun z => z)
  rcases List.mem_cons.mp h with rfl | h
  · exact g.elim (fun z => absurd z (by decide)) (fun z => z)
  rcases List.mem_cons.mp h with rfl | h
  · exact g.elim (fun z => absurd z (by decide)) (fun z => z)
  rcases List.mem_cons.mp h with rfl | h
  · exact g.elim (fun z => absurd z (by decide)) (fun z => z)
  rcases List.mem_cons.mp h with rfl | h
  · exact g.elim (fun z => absurd z (by decide)) (fun z => z)
  rcases List.mem_cons.mp h with rfl | h
  · exact g.elim (fun z => absurd z (by decide)) (fun z => z)
  rcases List.mem_cons.mp h with rfl | h
  · exact g.elim (fun z => absurd z (by decide)) (fun z => z)
  rcases List.mem_cons.mp h with rfl | h
  · exact n_hk10
  rcases List.mem_cons.mp h with rfl | h
  · exact g.elim (fun z => absurd z (by decide)) (fun z => z)
  cases h
theorem ok_main_12 : ∀ q ∈ rw_main_12, m_rowB m_mt RL false code room_1 q = true := by
  intro q h
  have g := (Bool.or_eq_true _ _).mp (List.all_eq_true.mp okl_main_12 q h)
  unfold rw_main_12 at h
  rcases List.mem_cons.mp h with rfl | h
  · exact g.elim (fun z => absurd z (by decide)) (fun z => z)
  rcases List.mem_cons.mp h with rfl | h
  · exact g.elim (fun z => absurd z (by decide)) (fun z => z)
  rcases List.mem_cons.mp h with rfl | h
  · exact g.elim (fun z => absurd z (by decide)) (fun z => z)
  rcases List.mem_cons.mp h with rfl | h
  · exact g.elim (fun z => absurd z (by decide)) (fun z => z)
  rcases List.mem_cons.mp h with rfl | h
  · exact g.elim (fun z => absurd z (by decide)) (fun z => z)
  rcases List.mem_cons.mp h with rfl | h
  · exact g.elim (fun z => absurd z (by decide)) (fun z => z)
  rcases List.mem_cons.mp h with rfl | h
  · exact g.elim (fun z => absurd z (by decide)) (fun z => z)
  rcases List.mem_cons.mp h with rfl | h
  · exact g.elim (fun z => absurd z (by decide)) (fun z => z)
  rcases List.mem_cons.mp h with rfl | h
  · exact g.elim (fun z => absurd z (by decide)) (fun z => z)
  rcases List.mem_cons.mp h with rfl | h
  · exact n_hk11
  rcases List.mem_cons.mp h with rfl | h
  · exact g.elim (fun z => absurd z (by decide)) (fun z => z)
  rcases List.mem_cons.mp h with rfl | h
  · exact g.elim (fun z => absurd z (by decide)) (fun z => z)
  rcases List.mem_cons.mp h with rfl | h
  · exact g.elim (fun z => absurd z (by decide)) (fun z => z)
  rcases List.mem_cons.mp h with rfl | h
  · exact g.elim (fun z => absurd z (by decide)) (fun z => z)
  rcases List.mem_cons.mp h with rfl | h
  · exact g.elim (fun z => absurd z (by decide)) (fun z => z)
  rcases List.mem_cons.mp h with rfl | h
  · exact g.elim (fun z => absurd z (by decide)) (fun z => z)
  rcases List.mem_cons.mp h with rfl | h
  · exact g.elim (fun z => absurd z (by decide)) (fun z => z)
  rcases List.mem_cons.mp h with rfl | h
  · exact g.elim (fun z => absurd z (by decide)) (fun z => z)
  rcases List.mem_cons.mp h with rfl | h
  · exact g.elim (fun z => absurd z (by decide)) (fun z => z)
  rcases List.mem_cons.mp h with rfl | h
  · exact g.elim (fun z => absurd z (by decide)) (fun z => z)
  cases h
theorem ok_main_17 : ∀ q ∈ rw_main_17, m_rowB m_mt RL false code room_1 q = true := by
  intro q h
  have g := (Bool.or_eq_true _ _).mp (List.all_eq_true.mp okl_main_17 q h)
  unfold rw_main_17 at h
  rcases List.mem_cons.mp h with rfl | h
  · exact g.elim (fun z => absurd z (by decide)) (fun z => z)
  rcases List.mem_cons.mp h with rfl | h
  · exact g.elim (fun z => absurd z (by decide)) (fun z => z)
  rcases List.mem_cons.mp h with rfl | h
  · exact g.elim (fun z => absurd z (by decide)) (fun z => z)
  rcases List.mem_cons.mp h with rfl | h
  · exact g.elim (fun z => absurd z (by decide)) (fun z => z)
  rcases List.mem_cons.mp h with rfl | h
  · exact g.elim (fun z => absurd z (by decide)) (fun z => z)
  rcases List.mem_cons.mp h with rfl | h
  · exact g.elim (fun z => absurd z (by decide)) (fun z => z)
  rcases List.mem_cons.mp h with rfl | h
  · exact g.elim (fun z => absurd z (by decide)) (fun z => z)
  rcases List.mem_cons.mp h with rfl | h
  · exact g.elim (fun z => absurd z (by decide)) (fun z => z)
  rcases List.mem_cons.mp h with rfl | h
  · exact g.elim (fun z => absurd z (by decide)) (fun z => z)
  rcases List.mem_cons.mp h with rfl | h
  · exact g.elim (fun z => absurd z (by decide)) (fun z => z)
  rcases List.mem_cons.mp h with rfl | h
  · exact g.elim (fun z => absurd z (by decide)) (fun z => z)
  rcases List.mem_cons.mp h with rfl | h
  · exact g.elim (fun z => absurd z (by decide)) (fun z => z)
  rcases List.mem_cons.mp h with rfl | h
  · exact g.elim (fun z => absurd z (by decide)) (fun z => z)
  rcases List.mem_cons.mp h with rfl | h
  · exact g.elim (fun z => absurd z (by decide)) (fun z => z)
  rcases List.mem_cons.mp h with rfl | h
  · exact g.elim (fun z => absurd z (by decide)) (fun z => z)
  rcases List.mem_cons.mp h with rfl | h
  · exact g.elim (fun z => absurd z (by decide)) (fun z => z)
  rcases List.mem_cons.mp h with rfl | h
  · exact g.elim (fun z => absurd z (by decide)) (fun z => z)
  rcases List.mem_cons.mp h with rfl | h
  · exact g.elim (fun z => absurd z (by decide)) (fun z => z)
  rcases List.mem_cons.mp h with rfl | h
  · exact g.elim (fun z => absurd z (by decide)) (fun z => z)
  rcases List.mem_cons.mp h with rfl | h
  · exact n_hk12
  cases h
theorem ok_main_22 : ∀ q ∈ rw_main_22, m_rowB m_mt RL false code room_1 q = true := by
  intro q h
  have g := (Bool.or_eq_true _ _).mp (List.all_eq_true.mp okl_main_22 q h)
  unfold rw_main_22 at h
  rcases List.mem_cons.mp h with rfl | h
  · exact n_hk13
  rcases List.mem_cons.mp h with rfl | h
  · exact g.elim (fun z => absurd z (by decide)) (fun z => z)
  rcases List.mem_cons.mp h with rfl | h
  · exact g.elim (fun z => absurd z (by decide)) (fun z => z)
  rcases List.mem_cons.mp h with rfl | h
  · exact g.elim (fun z => absurd z (by decide)) (fun z => z)
  rcases List.mem_cons.mp h with rfl | h
  · exact g.elim (fun z => absurd z (by decide)) (fun z => z)
  rcases List.mem_cons.mp h with rfl | h
  · exact g.elim (fun z => absurd z (by decide)) (fun z => z)
  rcases List.mem_cons.mp h with rfl | h
  · exact g.elim (fun z => absurd z (by decide)) (fun z => z)
  rcases List.mem_cons.mp h with rfl | h
  · exact g.elim (fun z => absurd z (by decide)) (fun z => z)
  rcases List.mem_cons.mp h with rfl | h
  · exact g.elim (fun z => absurd z (by decide)) (fun z => z)
  rcases List.mem_cons.mp h with rfl | h
  · exact g.elim (fun z => absurd z (by decide)) (fun z => z)
  rcases List.mem_cons.mp h with rfl | h
  · exact g.elim (fun z => absurd z (by decide)) (fun z => z)
  rcases List.mem_cons.mp h with rfl | h
  · exact g.elim (fun z => absurd z (by decide)) (fun z => z)
  rcases List.mem_cons.mp h with rfl | h
  · exact g.elim (fun z => absurd z (by decide)) (fun z => z)
  rcases List.mem_cons.mp h with rfl | h
  · exact g.elim (fun z => absurd z (by decide)) (fun z => z)
  rcases List.mem_cons.mp h with rfl | h
  · exact g.elim (fun z => absurd z (by decide)) (fun z => z)
  rcases List.mem_cons.mp h with rfl | h
  · exact g.elim (fun z => absurd z (by decide)) (fun z => z)
  rcases List.mem_cons.mp h with rfl | h
  · exact g.elim (fun z => absurd z (by decide)) (fun z => z)
  rcases List.mem_cons.mp h with rfl | h
  · exact g.elim (fun z => absurd z (by decide)) (fun z => z)
  rcases List.mem_cons.mp h with rfl | h
  · exact g.elim (fun z => absurd z (by decide)) (fun z => z)
  rcases List.mem_cons.mp h with rfl | h
  · exact g.elim (fun z => absurd z (by decide)) (fun z => z)
  cases h
theorem ok_main_23 : ∀ q ∈ rw_main_23, m_rowB m_mt RL false code room_1 q = true := by
  intro q h
  have g := (Bool.or_eq_true _ _).mp (List.all_eq_true.mp okl_main_23 q h)
  unfold rw_main_23 at h
  rcases List.mem_cons.mp h with rfl | h
  · exact g.elim (fun z => absurd z (by decide)) (fun z => z)
  rcases List.mem_cons.mp h with rfl | h
  · exact g.elim (fun z => absurd z (by decide)) (fun z => z)
  rcases List.mem_cons.mp h with rfl | h
  · exact g.elim (fun z => absurd z (by decide)) (fun z => z)
  rcases List.mem_cons.mp h with rfl | h
  · exact g.elim (fun z => absurd z (by decide)) (fun z => z)
  rcases List.mem_cons.mp h with rfl | h
  · exact g.elim (fun z => absurd z (by decide)) (fun z => z)
  rcases List.mem_cons.mp h with rfl | h
  · exact g.elim (fun z => absurd z (by decide)) (fun z => z)
  rcases List.mem_cons.mp h with rfl | h
  · exact g.elim (fun z => absurd z (by decide)) (fun z => z)
  rcases List.mem_cons.mp h with rfl | h
  · exact g.elim (fun z => absurd z (by decide)) (fun z => z)
  rcases List.mem_cons.mp h with rfl | h
  · exact g.elim (fun z => absurd z (by decide)) (fun z => z)
  rcases List.mem_cons.mp h with rfl | h
  · exact g.elim (fun z => absurd z (by decide)) (fun z => z)
  rcases List.mem_cons.mp h with rfl | h
  · exact g.elim (fun z => absurd z (by decide)) (fun z => z)
  rcases List.mem_cons.mp h with rfl | h
  · exact n_hk14
  rcases List.mem_cons.mp h with rfl | h
  · exact g.elim (fun z => absurd z (by decide)) (fun z => z)
  rcases List.mem_cons.mp h with rfl | h
  · exact g.elim (fun z => absurd z (by decide)) (fun z => z)
  rcases List.mem_cons.mp h with rfl | h
  · exact g.elim (fun z => absurd z (by decide)) (fun z => z)
  rcases List.mem_cons.mp h with rfl | h
  · exact g.elim (fun z => absurd z (by decide)) (fun z => z)
  rcases List.mem_cons.mp h with rfl | h
  · exact g.elim (fun z => absurd z (by decide)) (fun z => z)
  rcases List.mem_cons.mp h with rfl | h
  · exact g.elim (fun z => absurd z (by decide)) (fun z => z)
  rcases List.mem_cons.mp h with rfl | h
  · exact g.elim (fun z => absurd z (by decide)) (fun z => z)
  rcases List.mem_cons.mp h with rfl | h
  · exact g.elim (fun z => absurd z (by decide)) (fun z => z)
  cases h
theorem ok_main_25 : ∀ q ∈ rw_main_25, m_rowB m_mt RL false code room_1 q = true := by
  intro q h
  have g := (Bool.or_eq_true _ _).mp (List.all_eq_true.mp okl_main_25 q h)
  unfold rw_main_25 at h
  rcases List.mem_cons.mp h with rfl | h
  · exact g.elim (fun z => absurd z (by decide)) (fun z => z)
  rcases List.mem_cons.mp h with rfl | h
  · exact g.elim (fun z => absurd z (by decide)) (fun z => z)
  rcases List.mem_cons.mp h with rfl | h
  · exact g.elim (fun z => absurd z (by decide)) (fun z => z)
  rcases List.mem_cons.mp h with rfl | h
  · exact n_hk15
  rcases List.mem_cons.mp h with rfl | h
  · exact g.elim (fun z => absurd z (by decide)) (fun z => z)
  rcases List.mem_cons.mp h with rfl | h
  · exact g.elim (fun z => absurd z (by decide)) (fun z => z)
  rcases List.mem_cons.mp h with rfl | h
  · exact g.elim (fun z => absurd z (by decide)) (fun z => z)
  rcases List.mem_cons.mp h with rfl | h
  · exact g.elim (fun z => absurd z (by decide)) (fun z => z)
  rcases List.mem_cons.mp h with rfl | h
  · exact g.elim (fun z => absurd z (by decide)) (fun z => z)
  rcases List.mem_cons.mp h with rfl | h
  · exact g.elim (fun z => absurd z (by decide)) (fun z => z)
  rcases List.mem_cons.mp h with rfl | h
  · exact g.elim (fun z => absurd z (by decide)) (fun z => z)
  rcases List.mem_cons.mp h with rfl | h
  · exact g.elim (fun z => absurd z (by decide)) (fun z => z)
  rcases List.mem_cons.mp h with rfl | h
  · exact g.elim (fun z => absurd z (by decide)) (fun z => z)
  rcases List.mem_cons.mp h with rfl | h
  · exact n_hk16
  rcases List.mem_cons.mp h with rfl | h
  · exact g.elim (fun z => absurd z (by decide)) (fun z => z)
  rcases List.mem_cons.mp h with rfl | h
  · exact g.elim (fun z => absurd z (by decide)) (fun z => z)
  rcases List.mem_cons.mp h with rfl | h
  · exact g.elim (fun z => absurd z (by decide)) (fun z => z)
  rcases List.mem_cons.mp h with rfl | h
  · exact g.elim (fun z => absurd z (by decide)) (fun z => z)
  rcases List.mem_cons.mp h with rfl | h
  · exact g.elim (fun z => absurd z (by decide)) (fun z => z)
  rcases List.mem_cons.mp h with rfl | h
  · exact g.elim (fun z => absurd z (by decide)) (fun z => z)
  cases h
theorem ok_main_27 : ∀ q ∈ rw_main_27, m_rowB m_mt RL false code room_1 q = true := by
  intro q h
  have g := (Bool.or_eq_true _ _).mp (List.all_eq_true.mp okl_main_27 q h)
  unfold rw_main_27 at h
  rcases List.mem_cons.mp h with rfl | h
  · exact g.elim (fun z => absurd z (by decide)) (fun z => z)
  rcases List.mem_cons.mp h with rfl | h
  · exact g.elim (fun z => absurd z (by decide)) (fun z => z)
  rcases List.mem_cons.mp h with rfl | h
  · exact g.elim (fun z => absurd z (by decide)) (fun z => z)
  rcases List.mem_cons.mp h with rfl | h
  · exact g.elim (fun z => absurd z (by decide)) (fun z => z)
  rcases List.mem_cons.mp h with rfl | h
  · exact g.elim (fun z => absurd z (by decide)) (fun z => z)
  rcases List.mem_cons.mp h with rfl | h
  · exact g.elim (fun z => absurd z (by decide)) (fun z => z)
  rcases List.mem_cons.mp h with rfl | h
  · exact g.elim (fun z => absurd z (by decide)) (fun z => z)
  rcases List.mem_cons.mp h with rfl | h
  · exact g.elim (fun z => absurd z (by decide)) (fun z => z)
  rcases List.mem_cons.mp h with rfl | h
  · exact g.elim (fun z => absurd z (by decide)) (fun z => z)
  rcases List.mem_cons.mp h with rfl | h
  · exact g.elim (fun z => absurd z (by decide)) (fun z => z)
  rcases List.mem_cons.mp h with rfl | h
  · exact g.elim (fun z => absurd z (by decide)) (fun z => z)
  rcases List.mem_cons.mp h with rfl | h
  · exact g.elim (fun z => absurd z (by decide)) (fun z => z)
  rcases List.mem_cons.mp h with rfl | h
  · exact g.elim (fun z => absurd z (by decide)) (fun z => z)
  rcases List.mem_cons.mp h with rfl | h
  · exact g.elim (fun z => absurd z (by decide)) (fun z => z)
  rcases List.mem_cons.mp h with rfl | h
  · exact g.elim (fun z => absurd z (by decide)) (fun z => z)
  rcases List.mem_cons.mp h with rfl | h
  · exact g.elim (fun z => absurd z (by decide)) (fun z => z)
  rcases List.mem_cons.mp h with rfl | h
  · exact n_hk17
  rcases List.mem_cons.mp h with rfl | h
  · exact g.elim (fun z => absurd z (by decide)) (fun z => z)
  rcases List.mem_cons.mp h with rfl | h
  · exact g.elim (fun z => absurd z (by decide)) (fun z => z)
  rcases List.mem_cons.mp h with rfl | h
  · exact g.elim (fun z => absurd z (by decide)) (fun z => z)
  cases h
theorem ok_main_28 : ∀ q ∈ rw_main_28, m_rowB m_mt RL false code room_1 q = true := by
  intro q h
  have g := (Bool.or_eq_true _ _).mp (List.all_eq_true.mp okl_main_28 q h)
  unfold rw_main_28 at h
  rcases List.mem_cons.mp h with rfl | h
  · exact g.elim (fun z => absurd z (by decide)) (fun z => z)
  rcases List.mem_cons.mp h with rfl | h
  · exact n_hk18
  rcases List.mem_cons.mp h with rfl | h
  · exact g.elim (fun z => absurd z (by decide)) (fun z => z)
  rcases List.mem_cons.mp h with rfl | h
  · exact g.elim (fun z => absurd z (by decide)) (fun z => z)
  rcases List.mem_cons.mp h with rfl | h
  · exact g.elim (fun z => absurd z (by decide)) (fun z => z)
  rcases List.mem_cons.mp h with rfl | h
  · exact g.elim (fun z => absurd z (by decide)) (fun z => z)
  rcases List.mem_cons.mp h with rfl | h
  · exact g.elim (fun z => absurd z (by decide)) (fun z => z)
  rcases List.mem_cons.mp h with rfl | h
  · exact g.elim (fun z => absurd z (by decide)) (fun z => z)
  rcases List.mem_cons.mp h with rfl | h
  · exact g.elim (fun z => absurd z (by decide)) (fun z => z)
  rcases List.mem_cons.mp h with rfl | h
  · exact n_hk19
  rcases List.mem_cons.mp h with rfl | h
  · exact g.elim (fun z => absurd z (by decide)) (fun z => z)
  rcases List.mem_cons.mp h with rfl | h
  · exact g.elim (fun z => absurd z (by decide)) (fun z => z)
  rcases List.mem_cons.mp h with rfl | h
  · exact g.elim (fun z => absurd z (by decide)) (fun z => z)
  rcases List.mem_cons.mp h with rfl | h
  · exact g.elim (fun z => absurd z (by decide)) (fun z => z)
  rcases List.mem_cons.mp h with rfl | h
  · exact g.elim (fun z => absurd z (by decide)) (fun z => z)
  rcases List.mem_cons.mp h with rfl | h
  · exact g.elim (fun z => absurd z (by decide)) (fun z => z)
  rcases List.mem_cons.mp h with rfl | h
  · exact g.elim (fun z => absurd z (by decide)) (fun z => z)
  rcases List.mem_cons.mp h with rfl | h
  · exact g.elim (fun z => absurd z (by decide)) (fun z => z)
  rcases List.mem_cons.mp h with rfl | h
  · exact g.elim (fun z => absurd z (by decide)) (fun z => z)
  rcases List.mem_cons.mp h with rfl | h
  · exact g.elim (fun z => absurd z (by decide)) (fun z => z)
  cases h
theorem ok_main_29 : ∀ q ∈ rw_main_29, m_rowB m_mt RL false code room_1 q = true := by
  intro q h
  have g := (Bool.or_eq_true _ _).mp (List.all_eq_true.mp okl_main_29 q h)
  unfold rw_main_29 at h
  rcases List.mem_cons.mp h with rfl | h
  · exact g.elim (fun z => absurd z (by decide)) (fun z => z)
  rcases List.mem_cons.mp h with rfl | h
  · exact g.elim (fun z => absurd z (by decide)) (fun z => z)
  rcases List.mem_cons.mp h with rfl | h
  · exact g.elim (fun z => absurd z (by decide)) (fun z => z)
  rcases List.mem_cons.mp h with rfl | h
  · exact g.elim (fun z => absurd z (by decide)) (fun z => z)
  rcases List.mem_cons.mp h with rfl | h
  · exact n_hk20
  rcases List.mem_cons.mp h with rfl | h
  · exact g.elim (fun z => absurd z (by decide)) (fun z => z)
  rcases List.mem_cons.mp h with rfl | h
  · exact g.elim (fun z => absurd z (by decide)) (fun z => z)
  rcases List.mem_cons.mp h with rfl | h
  · exact g.elim (fun z => absurd z (by decide)) (fun z => z)
  rcases List.mem_cons.mp h with rfl | h
  · exact g.elim (fun z => absurd z (by decide)) (fun z => z)
  rcases List.mem_cons.mp h with rfl | h
  · exact g.elim (fun z => absurd z (by decide)) (fun z => z)
  rcases List.mem_cons.mp h with rfl | h
  · exact g.elim (fun z => absurd z (by decide)) (fun z => z)
  rcases List.mem_cons.mp h with rfl | h
  · exact g.elim (fun z => absurd z (by decide)) (fun z => z)
  rcases List.mem_cons.mp h with rfl | h
  · exact g.elim (fun z => absurd z (by decide)) (fun z => z)
  rcases List.mem_cons.mp h with rfl | h
  · exact g.elim (fun z => absurd z (by decide)) (fun z => z)
  rcases List.mem_cons.mp h with rfl | h
  · exact g.elim (fun z => absurd z (by decide)) (fun z => z)
  rcases List.mem_cons.mp h with rfl | h
  · exact g.elim (fun z => absurd z (by decide)) (fun z => z)
  rcases List.mem_cons.mp h with rfl | h
  · exact g.elim (fun z => absurd z (by decide)) (fun z => z)
  rcases List.mem_cons.mp h with rfl | h
  · exact g.elim (fun z => absurd z (by decide)) (fun z => z)
  rcases List.mem_cons.mp h with rfl | h
  · exact g.elim (fun z => absurd z (by decide)) (fun z => z)
  rcases List.mem_cons.mp h with rfl | h
  · exact g.elim (fun z => absurd z (by decide)) (fun z => z)
  cases h
theorem ok_main_30 : ∀ q ∈ rw_main_30, m_rowB m_mt RL false code room_1 q = true := by
  intro q h
  have g := (Bool.or_eq_true _ _).mp (List.all_eq_true.mp okl_main_30 q h)
  unfold rw_main_30 at h
  rcases List.mem_cons.mp h with rfl | h
  · exact g.elim (fun z => absurd z (by decide)) (fun z => z)
  rcases List.mem_cons.mp h with rfl | h
  · exact g.elim (fun z => absurd z (by decide)) (fun z => z)
  rcases List.mem_cons.mp h with rfl | h
  · exact g.elim (fun z => absurd z (by decide)) (fun z => z)
  rcases List.mem_cons.mp h with rfl | h
  · exact g.elim (fun z => absurd z (by decide)) (fun z => z)
  rcases List.mem_cons.mp h with rfl | h
  · exact g.elim (fun z => absurd z (by decide)) (fun z => z)
  rcases List.mem_cons.mp h with rfl | h
  · exact g.elim (fun z => absurd z (by decide)) (fun z => z)
  rcases List.mem_cons.mp h with rfl | h
  · exact g.elim (fun z => absurd z (by decide)) (fun z => z)
  rcases List.mem_cons.mp h with rfl | h
  · exact g.elim (fun z => absurd z (by decide)) (fun z => z)
  rcases List.mem_cons.mp h with rfl | h
  · exact g.elim (fun z => absurd z (by decide)) (fun z => z)
  rcases List.mem_cons.mp h with rfl | h
  · exact g.elim (fun z => absurd z (by decide)) (fun z => z)
  rcases List.mem_cons.mp h with rfl | h
  · exact g.elim (fun z => absurd z (by decide)) (fun z => z)
  rcases List.mem_cons.mp h with rfl | h
  · exact g.elim (fun z => absurd z (by decide)) (fun z => z)
  rcases List.mem_cons.mp h with rfl | h
  · exact n_hk21
  rcases List.mem_cons.mp h with rfl | h
  · exact g.elim (fun z => absurd z (by decide)) (fun z => z)
  rcases List.mem_cons.mp h with rfl | h
  · exact g.elim (fun z => absurd z (by decide)) (fun z => z)
  rcases List.mem_cons.mp h with rfl | h
  · exact g.elim (fun z => absurd z (by decide)) (fun z => z)
  rcases List.mem_cons.mp h with rfl | h
  · exact g.elim (fun z => absurd z (by decide)) (fun z => z)
  rcases List.mem_cons.mp h with rfl | h
  · exact g.elim (fun z => absurd z (by decide)) (fun z => z)
  rcases List.mem_cons.mp h with rfl | h
  · exact g.elim (fun z => absurd z (by decide)) (fun z => z)
  rcases List.mem_cons.mp h with rfl | h
  · exact g.elim (fun z => absurd z (by decide)) (fun z => z)
  cases h
theorem ok_main : ∀ q ∈ rw_main, m_rowB m_mt RL false code room_1 q = true := by
  intro q h
  unfold rw_main at h
  rcases List.mem_append.mp h with h | h
  · exact ok_main_0 q h
  rcases List.mem_append.mp h with h | h
  · exact ok_main_1 q h
  rcases List.mem_append.mp h with h | h
  · exact ok_main_2 q h
  rcases List.mem_append.mp h with h | h
  · exact ok_main_3 q h
  rcases List.mem_append.mp h with h | h
  · exact ok_main_4 q h
  rcases List.mem_append.mp h with h | h
  · exact ok_main_5 q h
  rcases List.mem_append.mp h with h | h
  · exact ok_main_6 q h
  rcases List.mem_append.mp h with h | h
  · exact ok_main_7 q h
  rcases List.mem_append.mp h with h | h
  · exact ok_main_8 q h
  rcases List.mem_append.mp h with h | h
  · exact ok_main_9 q h
  rcases List.mem_append.mp h with h | h
  · exact ok_main_10 q h
  rcases List.mem_append.mp h with h | h
  · exact ok_main_11 q h
  rcases List.mem_append.mp h with h | h
  · exact ok_main_12 q h
  rcases List.mem_append.mp h with h | h
  · exact ok_main_13 q h
  rcases List.mem_append.mp h with h | h
  · exact ok_main_14 q h
  rcases List.mem_append.mp h with h | h
  · exact ok_main_15 q h
  rcases List.mem_append.mp h with h | h
  · exact ok_main_16 q h
  rcases List.mem_append.mp h with h | h
  · exact ok_main_17 q h
  rcases List.mem_append.mp h with h | h
  · exact ok_main_18 q h
  rcases List.mem_append.mp h with h | h
  · exact ok_main_19 q h
  rcases List.mem_append.mp h with h | h
  · exact ok_main_20 q h
  rcases List.mem_append.mp h with h | h
  · exact ok_main_21 q h
  rcases List.mem_append.mp h with h | h
  · exact ok_main_22 q h
  rcases List.mem_append.mp h with h | h
  · exact ok_main_23 q h
  rcases List.mem_append.mp h with h | h
  · exact ok_main_24 q h
  rcases List.mem_append.mp h with h | h
  · exact ok_main_25 q h
  rcases List.mem_append.mp h with h | h
  · exact ok_main_26 q h
  rcases List.mem_append.mp h with h | h
  · exact ok_main_27 q h
  rcases List.mem_append.mp h with h | h
  · exact ok_main_28 q h
  rcases List.mem_append.mp h with h | h
  · exact ok_main_29 q h
  exact ok_main_30 q h
