/-! words of main's rows -/
set_option maxRecDepth 100000 in
theorem n_hk21 : m_rowB m_mt RL false code room_1 n_h21 = true := n_rowS (y := (yL_does, cL_does, 10, (some .long), { frames := 8, cells := 66, slots := 438, locals := 218 }, [(0, 396, 397, 94), (0, 396, 403, 98), (0, 396, 409, 102)])) (by decide +kernel) rfl rfl (by decide +kernel) (by decide +kernel) (n_callSX (by decide +kernel) rfl (by decide +kernel) (by decide +kernel) (by decide +kernel))
