/-! words of main's rows -/
set_option maxRecDepth 100000 in
theorem n_hk12 : m_rowB m_mt RL false code room_1 n_h12 = true := n_rowS (y := (yL_does, cL_does, 10, (some .long), { frames := 8, cells := 66, slots := 438, locals := 218 }, [(0, 396, 397, 94), (0, 396, 403, 98), (0, 396, 409, 102)])) (by decide +kernel) rfl rfl (by decide +kernel) (by decide +kernel) (n_callSX (by decide +kernel) rfl (by decide +kernel) (by decide +kernel) (by decide +kernel))
set_option maxRecDepth 100000 in
theorem n_hk13 : m_rowB m_mt RL false code room_1 n_h13 = true := n_rowS (y := (yL_hasFailed, cL_hasFailed, 2, (some .boolean), { frames := 7, cells := 1, slots := 6, locals := 112 }, [])) (by decide +kernel) rfl rfl (by decide +kernel) (by decide +kernel) (n_callS (by decide +kernel) rfl (by decide +kernel) (by decide +kernel) (by decide +kernel))
set_option maxRecDepth 100000 in
theorem n_hk14 : m_rowB m_mt RL false code room_1 n_h14 = true := n_rowS (y := (yL_does, cL_does, 10, (some .long), { frames := 8, cells := 66, slots := 438, locals := 218 }, [(0, 396, 397, 94), (0, 396, 403, 98), (0, 396, 409, 102)])) (by decide +kernel) rfl rfl (by decide +kernel) (by decide +kernel) (n_callSX (by decide +kernel) rfl (by decide +kernel) (by decide +kernel) (by decide +kernel))
