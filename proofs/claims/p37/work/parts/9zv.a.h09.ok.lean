/-! words of main's rows -/
set_option maxRecDepth 100000 in
theorem n_hk9 : m_rowB m_mt RL false code room_1 n_h9 = true := n_rowS (y := (yL_isHouse, cL_isHouse, 13, (some .boolean), { frames := 10, cells := 200, slots := 1800, locals := 261 }, [])) (by decide +kernel) rfl rfl (by decide +kernel) (by decide +kernel) (n_callS (by decide +kernel) rfl (by decide +kernel) (by decide +kernel) (by decide +kernel))
set_option maxRecDepth 100000 in
theorem n_hk10 : m_rowB m_mt RL false code room_1 n_h10 = true := n_rowS (y := (yL_isPaid, cL_isPaid, 10, (some .boolean), { frames := 9, cells := 133, slots := 882, locals := 247 }, [])) (by decide +kernel) rfl rfl (by decide +kernel) (by decide +kernel) (n_callS (by decide +kernel) rfl (by decide +kernel) (by decide +kernel) (by decide +kernel))
set_option maxRecDepth 100000 in
theorem n_hk11 : m_rowB m_mt RL false code room_1 n_h11 = true := n_rowS (y := (yL_does, cL_does, 10, (some .long), { frames := 8, cells := 66, slots := 438, locals := 218 }, [(0, 396, 397, 94), (0, 396, 403, 98), (0, 396, 409, 102)])) (by decide +kernel) rfl rfl (by decide +kernel) (by decide +kernel) (n_callSX (by decide +kernel) rfl (by decide +kernel) (by decide +kernel) (by decide +kernel))
