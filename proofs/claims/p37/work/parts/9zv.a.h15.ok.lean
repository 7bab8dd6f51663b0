/-! words of main's rows -/
set_option maxRecDepth 100000 in
theorem n_hk15 : m_rowB m_mt RL false code room_1 n_h15 = true := n_rowS (y := (yL_areTrades, cL_areTrades, 5, (some .boolean), { frames := 8, cells := 2100, slots := 18900, locals := 133 }, [])) (by decide +kernel) rfl rfl (by decide +kernel) (by decide +kernel) (n_callS (by decide +kernel) rfl (by decide +kernel) (by decide +kernel) (by decide +kernel))
set_option maxRecDepth 100000 in
theorem n_hk16 : m_rowB m_mt RL false code room_1 n_h16 = true := n_rowS (y := (yL_isRead, cL_isRead, 4, (some .boolean), { frames := 9, cells := 269, slots := 1782, locals := 247 }, [])) (by decide +kernel) rfl rfl (by decide +kernel) (by decide +kernel) (n_callS (by decide +kernel) rfl (by decide +kernel) (by decide +kernel) (by decide +kernel))
set_option maxRecDepth 100000 in
theorem n_hk17 : m_rowB m_mt RL false code room_1 n_h17 = true := n_rowS (y := (yL_isMoney, cL_isMoney, 9, (some .boolean), { frames := 8, cells := 60, slots := 540, locals := 133 }, [])) (by decide +kernel) rfl rfl (by decide +kernel) (by decide +kernel) (n_callS (by decide +kernel) rfl (by decide +kernel) (by decide +kernel) (by decide +kernel))
