/-! an order: its key, whether it stands -/
def z51 : mAl := ((yX3_keyOf, cX3_keyOf, 1, (some .int), { frames := 0, cells := 0, slots := 0, locals := 0 }, []), rw_X3_keyOf, false)
theorem z51_at : m_alF[51]? = some z51 := rfl
def z99 : mAl := ((yX7_stands, cX7_stands, 1, (some .boolean), { frames := 0, cells := 0, slots := 0, locals := 0 }, []), rw_X7_stands, false)
theorem z99_at : m_alF[99]? = some z99 := rfl
/-- an order's key -/
def oK (σ : mS) (o : Nat) : Int32 := (Int32.ofInt 100000) * (m_i σ 7 (o) (2)) + (Int32.ofInt 50000) * (m_i σ 7 (o) (3)) + (m_i σ 7 (o) (4))
/-- an order's instrument, side, price are in their bounds -/
def oB (σ : mS) (o : Nat) : Prop := (0 ≤ (m_i σ 7 o 2).toInt ∧ (m_i σ 7 o 2).toInt ≤ 8) ∧ (0 ≤ (m_i σ 7 o 3).toInt ∧ (m_i σ 7 o 3).toInt ≤ 1) ∧ 0 ≤ (m_i σ 7 o 4).toInt ∧ (m_i σ 7 o 4).toInt < 50000
theorem oK_v {σ : mS} {o : Nat} (h : oB σ o) : (oK σ o).toInt = 100000 * (m_i σ 7 o 2).toInt + 50000 * (m_i σ 7 o 3).toInt + (m_i σ 7 o 4).toInt := by
  obtain ⟨⟨a1, a2⟩, ⟨b1, b2⟩, c1, c2⟩ := h
  have e1 : (Int32.ofInt 100000).toInt = 100000 := by decide
  have e2 : (Int32.ofInt 50000).toInt = 50000 := by decide
  have g1 : (Int32.ofInt 100000 * m_i σ 7 o 2).toInt = 100000 * (m_i σ 7 o 2).toInt := by rw [i_mul (by rw [e1]; omega) (by rw [e1]; omega), e1]
  have g2 : (Int32.ofInt 50000 * m_i σ 7 o 3).toInt = 50000 * (m_i σ 7 o 3).toInt := by rw [i_mul (by rw [e2]; omega) (by rw [e2]; omega), e2]
  have g3 : (Int32.ofInt 100000 * m_i σ 7 o 2 + Int32.ofInt 50000 * m_i σ 7 o 3).toInt = 100000 * (m_i σ 7 o 2).toInt + 50000 * (m_i σ 7 o 3).toInt := by rw [i_add (by rw [g1, g2]; omega) (by rw [g1, g2]; omega), g1, g2]
  unfold oK
  rw [i_add (by rw [g3]; omega) (by rw [g3]; omega), g3]
theorem oK_b {σ : mS} {o : Nat} (h : oB σ o) : 0 ≤ (oK σ o).toInt ∧ (oK σ o).toInt < 1000000 := by
  rw [oK_v h]
  obtain ⟨⟨a1, a2⟩, ⟨b1, b2⟩, c1, c2⟩ := h
  omega
theorem s51 {σ σ' : mS} {o : Nat} {w : mX} (h : ev_run sm_all 51 [rf 7 o] σ w σ') : w = .inl (some (.inl (oK σ o))) ∧ σ' = σ := by
  obtain ⟨F, f, h⟩ := ei_go h z51_at
  replace h : EV F f 51 z51 0 [some (rf 7 (o))] [] σ (w, σ') := h
  replace h := ei_p h rfl rfl rfl rfl
  obtain ⟨f, g, h⟩ := h
  clear g
  replace h : EV F f 51 z51 2 [some (rf 7 (o))] [.inl (Int32.ofInt 100000)] σ (w, σ') := h
  replace h := ei_p h rfl rfl rfl rfl
  obtain ⟨f, g, h⟩ := h
  clear g
  replace h : EV F f 51 z51 3 [some (rf 7 (o))] [rf 7 (o), .inl (Int32.ofInt 100000)] σ (w, σ') := h
  replace h := ei_get h rfl rfl
  obtain ⟨f, g, h⟩ := h
  clear g
  replace h : EV F f 51 z51 6 [some (rf 7 (o))] [.inl (m_i σ 7 (o) (2)), .inl (Int32.ofInt 100000)] σ (w, σ') := h
  replace h := ei_p h rfl rfl rfl rfl
  obtain ⟨f, g, h⟩ := h
  clear g
  replace h : EV F f 51 z51 7 [some (rf 7 (o))] [.inl ((Int32.ofInt 100000) * (m_i σ 7 (o) (2)))] σ (w, σ') := h
  replace h := ei_p h rfl rfl rfl rfl
  obtain ⟨f, g, h⟩ := h
  clear g
  replace h : EV F f 51 z51 9 [some (rf 7 (o))] [.inl (Int32.ofInt 50000), .inl ((Int32.ofInt 100000) * (m_i σ 7 (o) (2)))] σ (w, σ') := h
  replace h := ei_p h rfl rfl rfl rfl
  obtain ⟨f, g, h⟩ := h
  clear g
  replace h : EV F f 51 z51 10 [some (rf 7 (o))] [rf 7 (o), .inl (Int32.ofInt 50000), .inl ((Int32.ofInt 100000) * (m_i σ 7 (o) (2)))] σ (w, σ') := h
  replace h := ei_get h rfl rfl
  obtain ⟨f, g, h⟩ := h
  clear g
  replace h : EV F f 51 z51 13 [some (rf 7 (o))] [.inl (m_i σ 7 (o) (3)), .inl (Int32.ofInt 50000), .inl ((Int32.ofInt 100000) * (m_i σ 7 (o) (2)))] σ (w, σ') := h
  replace h := ei_p h rfl rfl rfl rfl
  obtain ⟨f, g, h⟩ := h
  clear g
  replace h : EV F f 51 z51 14 [some (rf 7 (o))] [.inl ((Int32.ofInt 50000) * (m_i σ 7 (o) (3))), .inl ((Int32.ofInt 100000) * (m_i σ 7 (o) (2)))] σ (w, σ') := h
  replace h := ei_p h rfl rfl rfl rfl
  obtain ⟨f, g, h⟩ := h
  clear g
  replace h : EV F f 51 z51 15 [some (rf 7 (o))] [.inl (((Int32.ofInt 100000) * (m_i σ 7 (o) (2))) + ((Int32.ofInt 50000) * (m_i σ 7 (o) (3))))] σ (w, σ') := h
  replace h := ei_p h rfl rfl rfl rfl
  obtain ⟨f, g, h⟩ := h
  clear g
  replace h : EV F f 51 z51 16 [some (rf 7 (o))] [rf 7 (o), .inl (((Int32.ofInt 100000) * (m_i σ 7 (o) (2))) + ((Int32.ofInt 50000) * (m_i σ 7 (o) (3))))] σ (w, σ') := h
  replace h := ei_get h rfl rfl
  obtain ⟨f, g, h⟩ := h
  clear g
  replace h : EV F f 51 z51 19 [some (rf 7 (o))] [.inl (m_i σ 7 (o) (4)), .inl (((Int32.ofInt 100000) * (m_i σ 7 (o) (2))) + ((Int32.ofInt 50000) * (m_i σ 7 (o) (3))))] σ (w, σ') := h
  replace h := ei_p h rfl rfl rfl rfl
  obtain ⟨f, g, h⟩ := h
  clear g
  replace h : EV F f 51 z51 20 [some (rf 7 (o))] [.inl ((((Int32.ofInt 100000) * (m_i σ 7 (o) (2))) + ((Int32.ofInt 50000) * (m_i σ 7 (o) (3)))) + (m_i σ 7 (o) (4)))] σ (w, σ') := h
  have e := ei_iret h rfl
  cases e
  exact ⟨rfl, rfl⟩
theorem s99 {σ σ' : mS} {o : Nat} {w : mX} (h : ev_run sm_all 99 [rf 7 o] σ w σ') : ∃ v : Int32, w = .inl (some (.inl v)) ∧ σ' = σ ∧ (v.toInt = 1 ∧ (m_i σ 7 o 9).toInt = 1 ∨ v.toInt = 0 ∧ (m_i σ 7 o 9).toInt ≠ 1) := by
  obtain ⟨F, f, h⟩ := ei_go h z99_at
  replace h : EV F f 99 z99 0 [some (rf 7 (o))] [] σ (w, σ') := h
  replace h := ei_p h rfl rfl rfl rfl
  obtain ⟨f, g, h⟩ := h
  clear g
  replace h : EV F f 99 z99 1 [some (rf 7 (o))] [rf 7 (o)] σ (w, σ') := h
  replace h := ei_get h rfl rfl
  obtain ⟨f, g, h⟩ := h
  clear g
  replace h : EV F f 99 z99 4 [some (rf 7 (o))] [.inl (m_i σ 7 (o) (9))] σ (w, σ') := h
  replace h := ei_p h rfl rfl rfl rfl
  obtain ⟨f, g, h⟩ := h
  clear g
  replace h : EV F f 99 z99 5 [some (rf 7 (o))] [.inl (Int32.ofInt 1), .inl (m_i σ 7 (o) (9))] σ (w, σ') := h
  replace h := ei_c h rfl rfl rfl
  rcases h with ⟨hp1, f, g, h⟩ | ⟨hp1, f, g, h⟩
  · skip
    replace hp1 : (m_i σ 7 (o) (9)).toInt ≠ (1 : Int) := ic_ne.mp hp1
    clear g
    replace h : EV F f 99 z99 12 [some (rf 7 (o))] [] σ (w, σ') := h
    replace h := ei_p h rfl rfl rfl rfl
    obtain ⟨f, g, h⟩ := h
    clear g
    replace h : EV F f 99 z99 13 [some (rf 7 (o))] [.inl (Int32.ofInt 0)] σ (w, σ') := h
    have e := ei_iret h rfl
    cases e
    exact ⟨_, rfl, rfl, Or.inr ⟨by decide, hp1⟩⟩
  · skip
    replace hp1 : ¬ ((m_i σ 7 (o) (9)).toInt ≠ (1 : Int)) := (not_congr ic_ne).mp hp1
    clear g
    replace h : EV F f 99 z99 8 [some (rf 7 (o))] [] σ (w, σ') := h
    replace h := ei_p h rfl rfl rfl rfl
    obtain ⟨f, g, h⟩ := h
    clear g
    replace h : EV F f 99 z99 9 [some (rf 7 (o))] [.inl (Int32.ofInt 1)] σ (w, σ') := h
    replace h := ei_p h rfl rfl rfl rfl
    obtain ⟨f, g, h⟩ := h
    clear g
    replace h : EV F f 99 z99 13 [some (rf 7 (o))] [.inl (Int32.ofInt 1)] σ (w, σ') := h
    have e := ei_iret h rfl
    cases e
    exact ⟨_, rfl, rfl, Or.inl ⟨by decide, Decidable.of_not_not hp1⟩⟩
