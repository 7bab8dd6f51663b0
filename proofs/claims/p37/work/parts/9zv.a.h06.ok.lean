/-! words of main's rows -/
set_option maxRecDepth 100000 in
theorem n_hk5 : m_rowB m_mt RL false code room_1 n_h5 = true := n_rowS (y := (yL_isOrder, cL_isOrder, 19, (some .boolean), { frames := 9, cells := 2200, slots := 19800, locals := 247 }, [])) (by decide +kernel) rfl rfl (by decide +kernel) (by decide +kernel) (n_callS (by decide +kernel) rfl (by decide +kernel) (by decide +kernel) (by decide +kernel))
set_option maxRecDepth 100000 in
theorem n_hk6 : m_rowB m_mt RL false code room_1 n_h6 = true := n_rowS (y := (yL_isStop, cL_isStop, 12, (some .boolean), { frames := 9, cells := 68, slots := 450, locals := 247 }, [])) (by decide +kernel) rfl rfl (by decide +kernel) (by decide +kernel) (n_callS (by decide +kernel) rfl (by decide +kernel) (by decide +kernel) (by decide +kernel))
set_option maxRecDepth 100000 in
theorem n_hk7 : m_rowB m_mt RL false code room_1 n_h7 = true := n_rowS (y := (yL_isGone, cL_isGone, 13, (some .boolean), { frames := 10, cells := 91, slots := 606, locals := 261 }, [])) (by decide +kernel) rfl rfl (by decide +kernel) (by decide +kernel) (n_callS (by decide +kernel) rfl (by decide +kernel) (by decide +kernel) (by decide +kernel))
