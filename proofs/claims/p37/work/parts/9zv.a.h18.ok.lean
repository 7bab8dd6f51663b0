/-! words of main's rows -/
set_option maxRecDepth 100000 in
theorem n_hk18 : m_rowB m_mt RL false code room_1 n_h18 = true := n_rowS (y := (yL_areOrders, cL_areOrders, 7, (some .boolean), { frames := 9, cells := 270, slots := 2430, locals := 247 }, [])) (by decide +kernel) rfl rfl (by decide +kernel) (by decide +kernel) (n_callS (by decide +kernel) rfl (by decide +kernel) (by decide +kernel) (by decide +kernel))
set_option maxRecDepth 100000 in
theorem n_hk19 : m_rowB m_mt RL false code room_1 n_h19 = true := n_rowS (y := (yL_isMember, cL_isMember, 12, (some .boolean), { frames := 8, cells := 60, slots := 540, locals := 133 }, [])) (by decide +kernel) rfl rfl (by decide +kernel) (by decide +kernel) (n_callS (by decide +kernel) rfl (by decide +kernel) (by decide +kernel) (by decide +kernel))
set_option maxRecDepth 100000 in
theorem n_hk20 : m_rowB m_mt RL false code room_1 n_h20 = true := n_rowS (y := (yL_isShown, cL_isShown, 13, (some .boolean), { frames := 8, cells := 80, slots := 720, locals := 133 }, [])) (by decide +kernel) rfl rfl (by decide +kernel) (by decide +kernel) (n_callS (by decide +kernel) rfl (by decide +kernel) (by decide +kernel) (by decide +kernel))
