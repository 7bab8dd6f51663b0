/-! words of main's rows -/
set_option maxRecDepth 100000 in
theorem n_hk8 : m_rowB m_mt RL false code room_1 n_h8 = true := n_rowS (y := (yL_isInstrument, cL_isInstrument, 14, (some .boolean), { frames := 10, cells := 2300, slots := 20700, locals := 261 }, [])) (by decide +kernel) rfl rfl (by decide +kernel) (by decide +kernel) (n_callS (by decide +kernel) rfl (by decide +kernel) (by decide +kernel) (by decide +kernel))
set_option maxRecDepth 100000 in
theorem n_hk0 : m_rowB m_mt RL false code room_1 n_h0 = true := n_rowS (y := (yL_does, cL_does, 10, (some .long), { frames := 8, cells := 66, slots := 438, locals := 218 }, [(0, 396, 397, 94), (0, 396, 403, 98), (0, 396, 409, 102)])) (by decide +kernel) rfl rfl (by decide +kernel) (by decide +kernel) (n_callSX (by decide +kernel) rfl (by decide +kernel) (by decide +kernel) (by decide +kernel))
set_option maxRecDepth 100000 in
theorem n_hk1 : m_rowB m_mt RL false code room_1 n_h1 = true := n_rowS (y := (yL_does, cL_does, 10, (some .long), { frames := 8, cells := 66, slots := 438, locals := 218 }, [(0, 396, 397, 94), (0, 396, 403, 98), (0, 396, 409, 102)])) (by decide +kernel) rfl rfl (by decide +kernel) (by decide +kernel) (n_callSX (by decide +kernel) rfl (by decide +kernel) (by decide +kernel) (by decide +kernel))
