/-! the law's methods as relations: isOrder -/
def z184 : mAl := ((yL_isOrder, cL_isOrder, 19, (some .boolean), { frames := 9, cells := 2200, slots := 19800, locals := 247 }, []), rw_L_isOrder, false)
theorem z184_at : m_alF[184]? = some z184 := rfl
def J184_219 (t0 : Int64) (t1 : Int64) (τ : mS) (w : mX) (σ' : mS) : Prop := (((t1).toInt ≠ (t0).toInt ∧ w = .inl (some (.inl (Int32.ofInt 0))) ∧ σ' = τ) ∨ (¬ ((t1).toInt ≠ (t0).toInt) ∧ w = .inl (some (.inl (Int32.ofInt 1))) ∧ σ' = τ))
set_option maxRecDepth 100000 in
theorem j184_219 {F f : Nat} {σ' τ : mS} {t0 : Int64} {t1 : Int64} {y0 : Option mV} {y1 : Option mV} {y2 : Option mV} {y3 : Option mV} {y4 : Option mV} {y5 : Option mV} {y6 : Option mV} {y7 : Option mV} {y8 : Option mV} {y9 : Option mV} {y10 : Option mV} {y11 : Option mV} {y12 : Option mV} {y13 : Option mV} {y14 : Option mV} {y15 : Option mV} {y16 : Option mV} {y17 : Option mV} {y18 : Option mV} {w : mX} (hsτ : HL τ) (h : EV F f 184 z184 219 [y0, y1, y2, y3, y4, y5, y6, y7, y8, y9, y10, y11, y12, y13, y14, y15, y16, y17, y18] [.inr (.inl (t0)), .inr (.inl (t1))] τ (w, σ')) : J184_219 t0 t1 τ w σ' := by
  unfold J184_219
  replace h := ei_p h rfl rfl rfl rfl
  obtain ⟨f, g, h⟩ := h
  clear g
  replace h : EV F f 184 z184 220 [y0, y1, y2, y3, y4, y5, y6, y7, y8, y9, y10, y11, y12, y13, y14, y15, y16, y17, y18] [.inl (lg_cmp (t1) (t0))] τ (w, σ') := h
  replace h := ei_c h rfl rfl rfl
  rcases h with ⟨hp1, f, g, h⟩ | ⟨hp1, f, g, h⟩
  · skip
    replace hp1 : (t1).toInt ≠ (t0).toInt := (ab_lc .ne _ _).mp hp1
    refine Or.inl ⟨hp1, ?_⟩
    clear g
    replace h : EV F f 184 z184 227 [y0, y1, y2, y3, y4, y5, y6, y7, y8, y9, y10, y11, y12, y13, y14, y15, y16, y17, y18] [] τ (w, σ') := h
    replace h := ei_p h rfl rfl rfl rfl
    obtain ⟨f, g, h⟩ := h
    clear g
    replace h : EV F f 184 z184 228 [y0, y1, y2, y3, y4, y5, y6, y7, y8, y9, y10, y11, y12, y13, y14, y15, y16, y17, y18] [.inl (Int32.ofInt 0)] τ (w, σ') := h
    have e := ei_iret h rfl
    cases e
    exact ⟨rfl, rfl⟩
  · skip
    replace hp1 : ¬ ((t1).toInt ≠ (t0).toInt) := (not_congr (ab_lc .ne _ _)).mp hp1
    refine Or.inr ⟨hp1, ?_⟩
    clear g
    replace h : EV F f 184 z184 223 [y0, y1, y2, y3, y4, y5, y6, y7, y8, y9, y10, y11, y12, y13, y14, y15, y16, y17, y18] [] τ (w, σ') := h
    replace h := ei_p h rfl rfl rfl rfl
    obtain ⟨f, g, h⟩ := h
    clear g
    replace h : EV F f 184 z184 224 [y0, y1, y2, y3, y4, y5, y6, y7, y8, y9, y10, y11, y12, y13, y14, y15, y16, y17, y18] [.inl (Int32.ofInt 1)] τ (w, σ') := h
    replace h := ei_p h rfl rfl rfl rfl
    obtain ⟨f, g, h⟩ := h
    clear g
    replace h : EV F f 184 z184 228 [y0, y1, y2, y3, y4, y5, y6, y7, y8, y9, y10, y11, y12, y13, y14, y15, y16, y17, y18] [.inl (Int32.ofInt 1)] τ (w, σ') := h
    have e := ei_iret h rfl
    cases e
    exact ⟨rfl, rfl⟩
def J184_202 (u7 : Int32) (u16 : Int64) (τ : mS) (w : mX) (σ' : mS) : Prop := (((u7).toInt ≠ (3 : Int) ∧ J184_219 (Int64.ofInt (-2000000000)) (u16) τ w σ') ∨ (¬ ((u7).toInt ≠ (3 : Int)) ∧ J184_219 (Int64.ofInt (-3000000000)) (u16) τ w σ'))
set_option maxRecDepth 100000 in
theorem j184_202 {F f : Nat} {σ' τ : mS} {u7 : Int32} {u16 : Int64} {y0 : Option mV} {y1 : Option mV} {y2 : Option mV} {y3 : Option mV} {y4 : Option mV} {y5 : Option mV} {y6 : Option mV} {y8 : Option mV} {y9 : Option mV} {y10 : Option mV} {y11 : Option mV} {y12 : Option mV} {y13 : Option mV} {y14 : Option mV} {y15 : Option mV} {y18 : Option mV} {w : mX} (hsτ : HL τ) (h : EV F f 184 z184 202 [y0, y1, y2, y3, y4, y5, y6, some (.inl (u7)), y8, y9, y10, y11, y12, y13, y14, y15, some (.inr (.inl (u16))), none, y18] [] τ (w, σ')) : J184_202 u7 u16 τ w σ' := by
  unfold J184_202
  replace h := ei_p h rfl rfl rfl rfl
  obtain ⟨f, g, h⟩ := h
  clear g
  replace h : EV F f 184 z184 204 [y0, y1, y2, y3, y4, y5, y6, some (.inl (u7)), y8, y9, y10, y11, y12, y13, y14, y15, some (.inr (.inl (u16))), none, y18] [.inr (.inl (u16))] τ (w, σ') := h
  replace h := ei_p h rfl rfl rfl rfl
  obtain ⟨f, g, h⟩ := h
  clear g
  replace h : EV F f 184 z184 206 [y0, y1, y2, y3, y4, y5, y6, some (.inl (u7)), y8, y9, y10, y11, y12, y13, y14, y15, some (.inr (.inl (u16))), none, y18] [.inl (u7), .inr (.inl (u16))] τ (w, σ') := h
  replace h := ei_p h rfl rfl rfl rfl
  obtain ⟨f, g, h⟩ := h
  clear g
  replace h : EV F f 184 z184 207 [y0, y1, y2, y3, y4, y5, y6, some (.inl (u7)), y8, y9, y10, y11, y12, y13, y14, y15, some (.inr (.inl (u16))), none, y18] [.inl (Int32.ofInt 3), .inl (u7), .inr (.inl (u16))] τ (w, σ') := h
  replace h := ei_c h rfl rfl rfl
  rcases h with ⟨hp1, f, g, h⟩ | ⟨hp1, f, g, h⟩
  · skip
    replace hp1 : (u7).toInt ≠ (3 : Int) := ic_ne.mp hp1
    refine Or.inl ⟨hp1, ?_⟩
    clear g
    replace h : EV F f 184 z184 216 [y0, y1, y2, y3, y4, y5, y6, some (.inl (u7)), y8, y9, y10, y11, y12, y13, y14, y15, some (.inr (.inl (u16))), none, y18] [.inr (.inl (u16))] τ (w, σ') := h
    replace h := ei_p h rfl rfl rfl rfl
    obtain ⟨f, g, h⟩ := h
    clear g
    replace h : EV F f 184 z184 219 [y0, y1, y2, y3, y4, y5, y6, some (.inl (u7)), y8, y9, y10, y11, y12, y13, y14, y15, some (.inr (.inl (u16))), none, y18] [.inr (.inl (Int64.ofInt (-2000000000))), .inr (.inl (u16))] τ (w, σ') := h
    exact j184_219 hsτ h
  · skip
    replace hp1 : ¬ ((u7).toInt ≠ (3 : Int)) := (not_congr ic_ne).mp hp1
    refine Or.inr ⟨hp1, ?_⟩
    clear g
    replace h : EV F f 184 z184 210 [y0, y1, y2, y3, y4, y5, y6, some (.inl (u7)), y8, y9, y10, y11, y12, y13, y14, y15, some (.inr (.inl (u16))), none, y18] [.inr (.inl (u16))] τ (w, σ') := h
    replace h := ei_p h rfl rfl rfl rfl
    obtain ⟨f, g, h⟩ := h
    clear g
    replace h : EV F f 184 z184 213 [y0, y1, y2, y3, y4, y5, y6, some (.inl (u7)), y8, y9, y10, y11, y12, y13, y14, y15, some (.inr (.inl (u16))), none, y18] [.inr (.inl (Int64.ofInt (-3000000000))), .inr (.inl (u16))] τ (w, σ') := h
    replace h := ei_p h rfl rfl rfl rfl
    obtain ⟨f, g, h⟩ := h
    clear g
    replace h : EV F f 184 z184 219 [y0, y1, y2, y3, y4, y5, y6, some (.inl (u7)), y8, y9, y10, y11, y12, y13, y14, y15, some (.inr (.inl (u16))), none, y18] [.inr (.inl (Int64.ofInt (-3000000000))), .inr (.inl (u16))] τ (w, σ') := h
    exact j184_219 hsτ h
def J184_251 (u16 : Int64) (τ : mS) (w : mX) (σ' : mS) : Prop := (((u16).toInt ≠ (Int64.ofInt (-1000000000)).toInt ∧ w = .inl (some (.inl (Int32.ofInt 0))) ∧ σ' = τ) ∨ (¬ ((u16).toInt ≠ (Int64.ofInt (-1000000000)).toInt) ∧ w = .inl (some (.inl (Int32.ofInt 1))) ∧ σ' = τ))
set_option maxRecDepth 100000 in
theorem j184_251 {F f : Nat} {σ' τ : mS} {u16 : Int64} {y0 : Option mV} {y1 : Option mV} {y2 : Option mV} {y3 : Option mV} {y4 : Option mV} {y5 : Option mV} {y6 : Option mV} {y7 : Option mV} {y8 : Option mV} {y9 : Option mV} {y10 : Option mV} {y11 : Option mV} {y12 : Option mV} {y13 : Option mV} {y14 : Option mV} {y15 : Option mV} {y18 : Option mV} {w : mX} (hsτ : HL τ) (h : EV F f 184 z184 251 [y0, y1, y2, y3, y4, y5, y6, y7, y8, y9, y10, y11, y12, y13, y14, y15, some (.inr (.inl (u16))), none, y18] [] τ (w, σ')) : J184_251 u16 τ w σ' := by
  unfold J184_251
  replace h := ei_p h rfl rfl rfl rfl
  obtain ⟨f, g, h⟩ := h
  clear g
  replace h : EV F f 184 z184 253 [y0, y1, y2, y3, y4, y5, y6, y7, y8, y9, y10, y11, y12, y13, y14, y15, some (.inr (.inl (u16))), none, y18] [.inr (.inl (u16))] τ (w, σ') := h
  replace h := ei_p h rfl rfl rfl rfl
  obtain ⟨f, g, h⟩ := h
  clear g
  replace h : EV F f 184 z184 256 [y0, y1, y2, y3, y4, y5, y6, y7, y8, y9, y10, y11, y12, y13, y14, y15, some (.inr (.inl (u16))), none, y18] [.inr (.inl (Int64.ofInt (-1000000000))), .inr (.inl (u16))] τ (w, σ') := h
  replace h := ei_p h rfl rfl rfl rfl
  obtain ⟨f, g, h⟩ := h
  clear g
  replace h : EV F f 184 z184 257 [y0, y1, y2, y3, y4, y5, y6, y7, y8, y9, y10, y11, y12, y13, y14, y15, some (.inr (.inl (u16))), none, y18] [.inl (lg_cmp (u16) (Int64.ofInt (-1000000000)))] τ (w, σ') := h
  replace h := ei_c h rfl rfl rfl
  rcases h with ⟨hp1, f, g, h⟩ | ⟨hp1, f, g, h⟩
  · skip
    replace hp1 : (u16).toInt ≠ (Int64.ofInt (-1000000000)).toInt := (ab_lc .ne _ _).mp hp1
    refine Or.inl ⟨hp1, ?_⟩
    clear g
    replace h : EV F f 184 z184 264 [y0, y1, y2, y3, y4, y5, y6, y7, y8, y9, y10, y11, y12, y13, y14, y15, some (.inr (.inl (u16))), none, y18] [] τ (w, σ') := h
    replace h := ei_p h rfl rfl rfl rfl
    obtain ⟨f, g, h⟩ := h
    clear g
    replace h : EV F f 184 z184 265 [y0, y1, y2, y3, y4, y5, y6, y7, y8, y9, y10, y11, y12, y13, y14, y15, some (.inr (.inl (u16))), none, y18] [.inl (Int32.ofInt 0)] τ (w, σ') := h
    have e := ei_iret h rfl
    cases e
    exact ⟨rfl, rfl⟩
  · skip
    replace hp1 : ¬ ((u16).toInt ≠ (Int64.ofInt (-1000000000)).toInt) := (not_congr (ab_lc .ne _ _)).mp hp1
    refine Or.inr ⟨hp1, ?_⟩
    clear g
    replace h : EV F f 184 z184 260 [y0, y1, y2, y3, y4, y5, y6, y7, y8, y9, y10, y11, y12, y13, y14, y15, some (.inr (.inl (u16))), none, y18] [] τ (w, σ') := h
    replace h := ei_p h rfl rfl rfl rfl
    obtain ⟨f, g, h⟩ := h
    clear g
    replace h : EV F f 184 z184 261 [y0, y1, y2, y3, y4, y5, y6, y7, y8, y9, y10, y11, y12, y13, y14, y15, some (.inr (.inl (u16))), none, y18] [.inl (Int32.ofInt 1)] τ (w, σ') := h
    replace h := ei_p h rfl rfl rfl rfl
    obtain ⟨f, g, h⟩ := h
    clear g
    replace h : EV F f 184 z184 265 [y0, y1, y2, y3, y4, y5, y6, y7, y8, y9, y10, y11, y12, y13, y14, y15, some (.inr (.inl (u16))), none, y18] [.inl (Int32.ofInt 1)] τ (w, σ') := h
    have e := ei_iret h rfl
    cases e
    exact ⟨rfl, rfl⟩
def J184_431 (τ : mS) (w : mX) (σ' : mS) : Prop := w = .inl (some (.inl (Int32.ofInt 0))) ∧ σ' = τ
set_option maxRecDepth 100000 in
theorem j184_431 {F f : Nat} {σ' τ : mS} {y0 : Option mV} {y1 : Option mV} {y2 : Option mV} {y3 : Option mV} {y4 : Option mV} {y5 : Option mV} {y6 : Option mV} {y7 : Option mV} {y8 : Option mV} {y9 : Option mV} {y10 : Option mV} {y11 : Option mV} {y12 : Option mV} {y13 : Option mV} {y14 : Option mV} {y15 : Option mV} {y16 : Option mV} {y17 : Option mV} {y18 : Option mV} {w : mX} (hsτ : HL τ) (h : EV F f 184 z184 431 [y0, y1, y2, y3, y4, y5, y6, y7, y8, y9, y10, y11, y12, y13, y14, y15, y16, y17, y18] [] τ (w, σ')) : J184_431 τ w σ' := by
  unfold J184_431
  replace h := ei_p h rfl rfl rfl rfl
  obtain ⟨f, g, h⟩ := h
  clear g
  replace h : EV F f 184 z184 432 [y0, y1, y2, y3, y4, y5, y6, y7, y8, y9, y10, y11, y12, y13, y14, y15, y16, y17, y18] [.inl (Int32.ofInt 0)] τ (w, σ') := h
  have e := ei_iret h rfl
  cases e
  exact ⟨rfl, rfl⟩
def J184_419 (τ : mS) (w : mX) (σ' : mS) : Prop := ((∃ v1 σ2, HL σ2 ∧ P181 τ (.inl (some (.inl v1))) σ2 ∧ (((v1).toInt = (0 : Int) ∧ J184_431 σ2 w σ') ∨ (¬ ((v1).toInt = (0 : Int)) ∧ w = .inl (some (.inl (Int32.ofInt 1))) ∧ σ' = σ2))) ∨ (∃ b, HL σ' ∧ P181 τ (.inr b) σ' ∧ w = .inr b))
set_option maxRecDepth 100000 in
theorem j184_419 {F f : Nat} {σ' τ : mS} {y1 : Option mV} {y2 : Option mV} {y4 : Option mV} {y5 : Option mV} {y6 : Option mV} {y7 : Option mV} {y8 : Option mV} {y9 : Option mV} {y10 : Option mV} {y11 : Option mV} {y12 : Option mV} {y13 : Option mV} {y14 : Option mV} {y15 : Option mV} {y16 : Option mV} {y17 : Option mV} {y18 : Option mV} {w : mX} (hsτ : HL τ) (h : EV F f 184 z184 419 [some (rf 11 (0)), y1, y2, some (rf 13 (17)), y4, y5, y6, y7, y8, y9, y10, y11, y12, y13, y14, y15, y16, y17, y18] [] τ (w, σ')) : J184_419 τ w σ' := by
  unfold J184_419
  replace h := ei_p h rfl rfl rfl rfl
  obtain ⟨f, g, h⟩ := h
  clear g
  replace h : EV F f 184 z184 420 [some (rf 11 (0)), y1, y2, some (rf 13 (17)), y4, y5, y6, y7, y8, y9, y10, y11, y12, y13, y14, y15, y16, y17, y18] [rf 11 (0)] τ (w, σ') := h
  replace h := ei_p h rfl rfl rfl rfl
  obtain ⟨f, g, h⟩ := h
  clear g
  replace h : EV F f 184 z184 421 [some (rf 11 (0)), y1, y2, some (rf 13 (17)), y4, y5, y6, y7, y8, y9, y10, y11, y12, y13, y14, y15, y16, y17, y18] [rf 13 (17), rf 11 (0)] τ (w, σ') := h
  replace h := bx_I (ei_s (as := [rf 13 (17), rf 11 (0)]) h rfl (Nat.le_of_ble_eq_true rfl) rfl rfl) z181_at (Or.inr rfl)
  rcases h with ⟨v1, σ2, r3, f, g, h⟩ | ⟨b, σ2, r3, e⟩
  · skip
    clear g
    have p4 := x181 hsτ r3
    have hsσ2 : HL σ2 := hl181 hsτ p4
    refine Or.inl ⟨v1, σ2, hl181 hsτ p4, p4, ?_⟩
    replace h : EV F f 184 z184 424 [some (rf 11 (0)), y1, y2, some (rf 13 (17)), y4, y5, y6, y7, y8, y9, y10, y11, y12, y13, y14, y15, y16, y17, y18] [.inl (v1)] σ2 (w, σ') := h
    replace h := ei_c h rfl rfl rfl
    rcases h with ⟨hp5, f, g, h⟩ | ⟨hp5, f, g, h⟩
    · skip
      replace hp5 : (v1).toInt = (0 : Int) := ic_eq.mp hp5
      refine Or.inl ⟨hp5, ?_⟩
      clear g
      replace h : EV F f 184 z184 431 [some (rf 11 (0)), y1, y2, some (rf 13 (17)), y4, y5, y6, y7, y8, y9, y10, y11, y12, y13, y14, y15, y16, y17, y18] [] σ2 (w, σ') := h
      exact j184_431 hsσ2 h
    · skip
      replace hp5 : ¬ ((v1).toInt = (0 : Int)) := (not_congr ic_eq).mp hp5
      refine Or.inr ⟨hp5, ?_⟩
      clear g
      replace h : EV F f 184 z184 427 [some (rf 11 (0)), y1, y2, some (rf 13 (17)), y4, y5, y6, y7, y8, y9, y10, y11, y12, y13, y14, y15, y16, y17, y18] [] σ2 (w, σ') := h
      replace h := ei_p h rfl rfl rfl rfl
      obtain ⟨f, g, h⟩ := h
      clear g
      replace h : EV F f 184 z184 428 [some (rf 11 (0)), y1, y2, some (rf 13 (17)), y4, y5, y6, y7, y8, y9, y10, y11, y12, y13, y14, y15, y16, y17, y18] [.inl (Int32.ofInt 1)] σ2 (w, σ') := h
      replace h := ei_p h rfl rfl rfl rfl
      obtain ⟨f, g, h⟩ := h
      clear g
      replace h : EV F f 184 z184 432 [some (rf 11 (0)), y1, y2, some (rf 13 (17)), y4, y5, y6, y7, y8, y9, y10, y11, y12, y13, y14, y15, y16, y17, y18] [.inl (Int32.ofInt 1)] σ2 (w, σ') := h
      have e := ei_iret h rfl
      cases e
      exact ⟨rfl, rfl⟩
  · skip
    have p4 := x181 hsτ r3
    cases e
    exact Or.inr ⟨b, hl181 hsτ p4, p4, rfl⟩
def J184_398 (u10 : Int32) (u12 : Int32) (u13 : Int32) (u18 : Int32) (τ : mS) (w : mX) (σ' : mS) : Prop := (((u12).toInt ≠ (3 : Int) ∧ J184_419 τ w σ') ∨ (¬ ((u12).toInt ≠ (3 : Int)) ∧ (((u13).toInt ≠ (0 : Int) ∧ J184_419 τ w σ') ∨ (¬ ((u13).toInt ≠ (0 : Int)) ∧ ((((u18) / (Int32.ofInt 10)).toInt ≠ (u10).toInt ∧ J184_431 τ w σ') ∨ (¬ (((u18) / (Int32.ofInt 10)).toInt ≠ (u10).toInt) ∧ J184_419 τ w σ'))))))
set_option maxRecDepth 100000 in
theorem j184_398 {F f : Nat} {σ' τ : mS} {u10 : Int32} {u12 : Int32} {u13 : Int32} {u18 : Int32} {y1 : Option mV} {y2 : Option mV} {y4 : Option mV} {y5 : Option mV} {y6 : Option mV} {y7 : Option mV} {y8 : Option mV} {y9 : Option mV} {y11 : Option mV} {y14 : Option mV} {y15 : Option mV} {y16 : Option mV} {y17 : Option mV} {w : mX} (hsτ : HL τ) (h : EV F f 184 z184 398 [some (rf 11 (0)), y1, y2, some (rf 13 (17)), y4, y5, y6, y7, y8, y9, some (.inl (u10)), y11, some (.inl (u12)), some (.inl (u13)), y14, y15, y16, y17, some (.inl (u18))] [] τ (w, σ')) : J184_398 u10 u12 u13 u18 τ w σ' := by
  unfold J184_398
  replace h := ei_p h rfl rfl rfl rfl
  obtain ⟨f, g, h⟩ := h
  clear g
  replace h : EV F f 184 z184 400 [some (rf 11 (0)), y1, y2, some (rf 13 (17)), y4, y5, y6, y7, y8, y9, some (.inl (u10)), y11, some (.inl (u12)), some (.inl (u13)), y14, y15, y16, y17, some (.inl (u18))] [.inl (u12)] τ (w, σ') := h
  replace h := ei_p h rfl rfl rfl rfl
  obtain ⟨f, g, h⟩ := h
  clear g
  replace h : EV F f 184 z184 401 [some (rf 11 (0)), y1, y2, some (rf 13 (17)), y4, y5, y6, y7, y8, y9, some (.inl (u10)), y11, some (.inl (u12)), some (.inl (u13)), y14, y15, y16, y17, some (.inl (u18))] [.inl (Int32.ofInt 3), .inl (u12)] τ (w, σ') := h
  replace h := ei_c h rfl rfl rfl
  rcases h with ⟨hp1, f, g, h⟩ | ⟨hp1, f, g, h⟩
  · skip
    replace hp1 : (u12).toInt ≠ (3 : Int) := ic_ne.mp hp1
    refine Or.inl ⟨hp1, ?_⟩
    clear g
    replace h : EV F f 184 z184 419 [some (rf 11 (0)), y1, y2, some (rf 13 (17)), y4, y5, y6, y7, y8, y9, some (.inl (u10)), y11, some (.inl (u12)), some (.inl (u13)), y14, y15, y16, y17, some (.inl (u18))] [] τ (w, σ') := h
    exact j184_419 hsτ h
  · skip
    replace hp1 : ¬ ((u12).toInt ≠ (3 : Int)) := (not_congr ic_ne).mp hp1
    refine Or.inr ⟨hp1, ?_⟩
    clear g
    replace h : EV F f 184 z184 404 [some (rf 11 (0)), y1, y2, some (rf 13 (17)), y4, y5, y6, y7, y8, y9, some (.inl (u10)), y11, some (.inl (u12)), some (.inl (u13)), y14, y15, y16, y17, some (.inl (u18))] [] τ (w, σ') := h
    replace h := ei_p h rfl rfl rfl rfl
    obtain ⟨f, g, h⟩ := h
    clear g
    replace h : EV F f 184 z184 406 [some (rf 11 (0)), y1, y2, some (rf 13 (17)), y4, y5, y6, y7, y8, y9, some (.inl (u10)), y11, some (.inl (u12)), some (.inl (u13)), y14, y15, y16, y17, some (.inl (u18))] [.inl (u13)] τ (w, σ') := h
    replace h := ei_c h rfl rfl rfl
    rcases h with ⟨hp2, f, g, h⟩ | ⟨hp2, f, g, h⟩
    · skip
      replace hp2 : (u13).toInt ≠ (0 : Int) := ic_ne.mp hp2
      refine Or.inl ⟨hp2, ?_⟩
      clear g
      replace h : EV F f 184 z184 419 [some (rf 11 (0)), y1, y2, some (rf 13 (17)), y4, y5, y6, y7, y8, y9, some (.inl (u10)), y11, some (.inl (u12)), some (.inl (u13)), y14, y15, y16, y17, some (.inl (u18))] [] τ (w, σ') := h
      exact j184_419 hsτ h
    · skip
      replace hp2 : ¬ ((u13).toInt ≠ (0 : Int)) := (not_congr ic_ne).mp hp2
      refine Or.inr ⟨hp2, ?_⟩
      clear g
      replace h : EV F f 184 z184 409 [some (rf 11 (0)), y1, y2, some (rf 13 (17)), y4, y5, y6, y7, y8, y9, some (.inl (u10)), y11, some (.inl (u12)), some (.inl (u13)), y14, y15, y16, y17, some (.inl (u18))] [] τ (w, σ') := h
      replace h := ei_p h rfl rfl rfl rfl
      obtain ⟨f, g, h⟩ := h
      clear g
      replace h : EV F f 184 z184 411 [some (rf 11 (0)), y1, y2, some (rf 13 (17)), y4, y5, y6, y7, y8, y9, some (.inl (u10)), y11, some (.inl (u12)), some (.inl (u13)), y14, y15, y16, y17, some (.inl (u18))] [.inl (u18)] τ (w, σ') := h
      replace h := ei_p h rfl rfl rfl rfl
      obtain ⟨f, g, h⟩ := h
      clear g
      replace h : EV F f 184 z184 413 [some (rf 11 (0)), y1, y2, some (rf 13 (17)), y4, y5, y6, y7, y8, y9, some (.inl (u10)), y11, some (.inl (u12)), some (.inl (u13)), y14, y15, y16, y17, some (.inl (u18))] [.inl (Int32.ofInt 10), .inl (u18)] τ (w, σ') := h
      replace h := ei_idiv h rfl
      obtain ⟨hd3, f, g, h⟩ := h
      clear g
      replace h : EV F f 184 z184 414 [some (rf 11 (0)), y1, y2, some (rf 13 (17)), y4, y5, y6, y7, y8, y9, some (.inl (u10)), y11, some (.inl (u12)), some (.inl (u13)), y14, y15, y16, y17, some (.inl (u18))] [.inl ((u18) / (Int32.ofInt 10))] τ (w, σ') := h
      replace h := ei_p h rfl rfl rfl rfl
      obtain ⟨f, g, h⟩ := h
      clear g
      replace h : EV F f 184 z184 416 [some (rf 11 (0)), y1, y2, some (rf 13 (17)), y4, y5, y6, y7, y8, y9, some (.inl (u10)), y11, some (.inl (u12)), some (.inl (u13)), y14, y15, y16, y17, some (.inl (u18))] [.inl (u10), .inl ((u18) / (Int32.ofInt 10))] τ (w, σ') := h
      replace h := ei_c h rfl rfl rfl
      rcases h with ⟨hp4, f, g, h⟩ | ⟨hp4, f, g, h⟩
      · skip
        replace hp4 : ((u18) / (Int32.ofInt 10)).toInt ≠ (u10).toInt := ic_ne.mp hp4
        refine Or.inl ⟨hp4, ?_⟩
        clear g
        replace h : EV F f 184 z184 431 [some (rf 11 (0)), y1, y2, some (rf 13 (17)), y4, y5, y6, y7, y8, y9, some (.inl (u10)), y11, some (.inl (u12)), some (.inl (u13)), y14, y15, y16, y17, some (.inl (u18))] [] τ (w, σ') := h
        exact j184_431 hsτ h
      · skip
        replace hp4 : ¬ (((u18) / (Int32.ofInt 10)).toInt ≠ (u10).toInt) := (not_congr ic_ne).mp hp4
        refine Or.inr ⟨hp4, ?_⟩
        clear g
        replace h : EV F f 184 z184 419 [some (rf 11 (0)), y1, y2, some (rf 13 (17)), y4, y5, y6, y7, y8, y9, some (.inl (u10)), y11, some (.inl (u12)), some (.inl (u13)), y14, y15, y16, y17, some (.inl (u18))] [] τ (w, σ') := h
        exact j184_419 hsτ h
def J184_356 (u10 : Int32) (u12 : Int32) (u13 : Int32) (t0 : Int32) (τ : mS) (w : mX) (σ' : mS) : Prop := (((t0).toInt < (0 : Int) ∧ J184_431 τ w σ') ∨ (¬ ((t0).toInt < (0 : Int)) ∧ (((2 : Int) ≤ ((t0) - (t0) / (Int32.ofInt 10) * (Int32.ofInt 10)).toInt ∧ J184_431 τ w σ') ∨ (¬ ((2 : Int) ≤ ((t0) - (t0) / (Int32.ofInt 10) * (Int32.ofInt 10)).toInt) ∧ (((u10).toInt < ((t0) / (Int32.ofInt 10)).toInt ∧ J184_431 τ w σ') ∨ (¬ ((u10).toInt < ((t0) / (Int32.ofInt 10)).toInt) ∧ (((u12).toInt = (0 : Int) ∧ J184_398 (u10) (u12) (u13) (t0) τ w σ') ∨ (¬ ((u12).toInt = (0 : Int)) ∧ (((u12).toInt = (3 : Int) ∧ J184_398 (u10) (u12) (u13) (t0) τ w σ') ∨ (¬ ((u12).toInt = (3 : Int)) ∧ (((t0).toInt ≠ (0 : Int) ∧ J184_431 τ w σ') ∨ (¬ ((t0).toInt ≠ (0 : Int)) ∧ J184_398 (u10) (u12) (u13) (t0) τ w σ'))))))))))))
set_option maxRecDepth 100000 in
theorem j184_356 {F f : Nat} {σ' τ : mS} {u10 : Int32} {u12 : Int32} {u13 : Int32} {t0 : Int32} {y1 : Option mV} {y2 : Option mV} {y4 : Option mV} {y5 : Option mV} {y6 : Option mV} {y7 : Option mV} {y8 : Option mV} {y9 : Option mV} {y11 : Option mV} {y14 : Option mV} {y15 : Option mV} {y16 : Option mV} {y17 : Option mV} {y18 : Option mV} {w : mX} (hsτ : HL τ) (h : EV F f 184 z184 356 [some (rf 11 (0)), y1, y2, some (rf 13 (17)), y4, y5, y6, y7, y8, y9, some (.inl (u10)), y11, some (.inl (u12)), some (.inl (u13)), y14, y15, y16, y17, y18] [.inl (t0)] τ (w, σ')) : J184_356 u10 u12 u13 t0 τ w σ' := by
  unfold J184_356
  replace h := ei_p h rfl rfl rfl rfl
  obtain ⟨f, g, h⟩ := h
  clear g
  replace h : EV F f 184 z184 358 (m_sto [some (rf 11 (0)), y1, y2, some (rf 13 (17)), y4, y5, y6, y7, y8, y9, some (.inl (u10)), y11, some (.inl (u12)), some (.inl (u13)), y14, y15, y16, y17, y18] 18 (.inl (t0))) [] τ (w, σ') := h
  obtain ⟨y_1, e2⟩ := sto_ex [some (rf 11 (0)), y1, y2, some (rf 13 (17)), y4, y5, y6, y7, y8, y9, some (.inl (u10)), y11, some (.inl (u12)), some (.inl (u13)), y14, y15, y16, y17, y18] 18 (.inl (t0)) (by decide)
  rw [e2] at h
  replace h : EV F f 184 z184 358 [some (rf 11 (0)), y1, y2, some (rf 13 (17)), y4, y5, y6, y7, y8, y9, some (.inl (u10)), y11, some (.inl (u12)), some (.inl (u13)), y14, y15, y16, y_1, some (.inl (t0))] [] τ (w, σ') := h
  replace h := ei_p h rfl rfl rfl rfl
  obtain ⟨f, g, h⟩ := h
  clear g
  replace h : EV F f 184 z184 360 [some (rf 11 (0)), y1, y2, some (rf 13 (17)), y4, y5, y6, y7, y8, y9, some (.inl (u10)), y11, some (.inl (u12)), some (.inl (u13)), y14, y15, y16, y_1, some (.inl (t0))] [.inl (t0)] τ (w, σ') := h
  replace h := ei_c h rfl rfl rfl
  rcases h with ⟨hp3, f, g, h⟩ | ⟨hp3, f, g, h⟩
  · skip
    replace hp3 : (t0).toInt < (0 : Int) := ic_lt.mp hp3
    refine Or.inl ⟨hp3, ?_⟩
    clear g
    replace h : EV F f 184 z184 431 [some (rf 11 (0)), y1, y2, some (rf 13 (17)), y4, y5, y6, y7, y8, y9, some (.inl (u10)), y11, some (.inl (u12)), some (.inl (u13)), y14, y15, y16, y_1, some (.inl (t0))] [] τ (w, σ') := h
    exact j184_431 hsτ h
  · skip
    replace hp3 : ¬ ((t0).toInt < (0 : Int)) := (not_congr ic_lt).mp hp3
    refine Or.inr ⟨hp3, ?_⟩
    clear g
    replace h : EV F f 184 z184 363 [some (rf 11 (0)), y1, y2, some (rf 13 (17)), y4, y5, y6, y7, y8, y9, some (.inl (u10)), y11, some (.inl (u12)), some (.inl (u13)), y14, y15, y16, y_1, some (.inl (t0))] [] τ (w, σ') := h
    replace h := ei_p h rfl rfl rfl rfl
    obtain ⟨f, g, h⟩ := h
    clear g
    replace h : EV F f 184 z184 365 [some (rf 11 (0)), y1, y2, some (rf 13 (17)), y4, y5, y6, y7, y8, y9, some (.inl (u10)), y11, some (.inl (u12)), some (.inl (u13)), y14, y15, y16, y_1, some (.inl (t0))] [.inl (t0)] τ (w, σ') := h
    replace h := ei_p h rfl rfl rfl rfl
    obtain ⟨f, g, h⟩ := h
    clear g
    replace h : EV F f 184 z184 367 [some (rf 11 (0)), y1, y2, some (rf 13 (17)), y4, y5, y6, y7, y8, y9, some (.inl (u10)), y11, some (.inl (u12)), some (.inl (u13)), y14, y15, y16, y_1, some (.inl (t0))] [.inl (Int32.ofInt 10), .inl (t0)] τ (w, σ') := h
    replace h := ei_irem h rfl
    obtain ⟨hd4, f, g, h⟩ := h
    clear g
    replace h : EV F f 184 z184 368 [some (rf 11 (0)), y1, y2, some (rf 13 (17)), y4, y5, y6, y7, y8, y9, some (.inl (u10)), y11, some (.inl (u12)), some (.inl (u13)), y14, y15, y16, y_1, some (.inl (t0))] [.inl ((t0) - (t0) / (Int32.ofInt 10) * (Int32.ofInt 10))] τ (w, σ') := h
    replace h := ei_p h rfl rfl rfl rfl
    obtain ⟨f, g, h⟩ := h
    clear g
    replace h : EV F f 184 z184 369 [some (rf 11 (0)), y1, y2, some (rf 13 (17)), y4, y5, y6, y7, y8, y9, some (.inl (u10)), y11, some (.inl (u12)), some (.inl (u13)), y14, y15, y16, y_1, some (.inl (t0))] [.inl (Int32.ofInt 2), .inl ((t0) - (t0) / (Int32.ofInt 10) * (Int32.ofInt 10))] τ (w, σ') := h
    replace h := ei_c h rfl rfl rfl
    rcases h with ⟨hp5, f, g, h⟩ | ⟨hp5, f, g, h⟩
    · skip
      replace hp5 : (2 : Int) ≤ ((t0) - (t0) / (Int32.ofInt 10) * (Int32.ofInt 10)).toInt := ic_ge.mp hp5
      refine Or.inl ⟨hp5, ?_⟩
      clear g
      replace h : EV F f 184 z184 431 [some (rf 11 (0)), y1, y2, some (rf 13 (17)), y4, y5, y6, y7, y8, y9, some (.inl (u10)), y11, some (.inl (u12)), some (.inl (u13)), y14, y15, y16, y_1, some (.inl (t0))] [] τ (w, σ') := h
      exact j184_431 hsτ h
    · skip
      replace hp5 : ¬ ((2 : Int) ≤ ((t0) - (t0) / (Int32.ofInt 10) * (Int32.ofInt 10)).toInt) := (not_congr ic_ge).mp hp5
      refine Or.inr ⟨hp5, ?_⟩
      clear g
      replace h : EV F f 184 z184 372 [some (rf 11 (0)), y1, y2, some (rf 13 (17)), y4, y5, y6, y7, y8, y9, some (.inl (u10)), y11, some (.inl (u12)), some (.inl (u13)), y14, y15, y16, y_1, some (.inl (t0))] [] τ (w, σ') := h
      replace h := ei_p h rfl rfl rfl rfl
      obtain ⟨f, g, h⟩ := h
      clear g
      replace h : EV F f 184 z184 374 [some (rf 11 (0)), y1, y2, some (rf 13 (17)), y4, y5, y6, y7, y8, y9, some (.inl (u10)), y11, some (.inl (u12)), some (.inl (u13)), y14, y15, y16, y_1, some (.inl (t0))] [.inl (t0)] τ (w, σ') := h
      replace h := ei_p h rfl rfl rfl rfl
      obtain ⟨f, g, h⟩ := h
      clear g
      replace h : EV F f 184 z184 376 [some (rf 11 (0)), y1, y2, some (rf 13 (17)), y4, y5, y6, y7, y8, y9, some (.inl (u10)), y11, some (.inl (u12)), some (.inl (u13)), y14, y15, y16, y_1, some (.inl (t0))] [.inl (Int32.ofInt 10), .inl (t0)] τ (w, σ') := h
      replace h := ei_idiv h rfl
      obtain ⟨hd6, f, g, h⟩ := h
      clear g
      replace h : EV F f 184 z184 377 [some (rf 11 (0)), y1, y2, some (rf 13 (17)), y4, y5, y6, y7, y8, y9, some (.inl (u10)), y11, some (.inl (u12)), some (.inl (u13)), y14, y15, y16, y_1, some (.inl (t0))] [.inl ((t0) / (Int32.ofInt 10))] τ (w, σ') := h
      replace h := ei_p h rfl rfl rfl rfl
      obtain ⟨f, g, h⟩ := h
      clear g
      replace h : EV F f 184 z184 379 [some (rf 11 (0)), y1, y2, some (rf 13 (17)), y4, y5, y6, y7, y8, y9, some (.inl (u10)), y11, some (.inl (u12)), some (.inl (u13)), y14, y15, y16, y_1, some (.inl (t0))] [.inl (u10), .inl ((t0) / (Int32.ofInt 10))] τ (w, σ') := h
      replace h := ei_c h rfl rfl rfl
      rcases h with ⟨hp7, f, g, h⟩ | ⟨hp7, f, g, h⟩
      · skip
        replace hp7 : (u10).toInt < ((t0) / (Int32.ofInt 10)).toInt := ic_gt.mp hp7
        refine Or.inl ⟨hp7, ?_⟩
        clear g
        replace h : EV F f 184 z184 431 [some (rf 11 (0)), y1, y2, some (rf 13 (17)), y4, y5, y6, y7, y8, y9, some (.inl (u10)), y11, some (.inl (u12)), some (.inl (u13)), y14, y15, y16, y_1, some (.inl (t0))] [] τ (w, σ') := h
        exact j184_431 hsτ h
      · skip
        replace hp7 : ¬ ((u10).toInt < ((t0) / (Int32.ofInt 10)).toInt) := (not_congr ic_gt).mp hp7
        refine Or.inr ⟨hp7, ?_⟩
        clear g
        replace h : EV F f 184 z184 382 [some (rf 11 (0)), y1, y2, some (rf 13 (17)), y4, y5, y6, y7, y8, y9, some (.inl (u10)), y11, some (.inl (u12)), some (.inl (u13)), y14, y15, y16, y_1, some (.inl (t0))] [] τ (w, σ') := h
        replace h := ei_p h rfl rfl rfl rfl
        obtain ⟨f, g, h⟩ := h
        clear g
        replace h : EV F f 184 z184 384 [some (rf 11 (0)), y1, y2, some (rf 13 (17)), y4, y5, y6, y7, y8, y9, some (.inl (u10)), y11, some (.inl (u12)), some (.inl (u13)), y14, y15, y16, y_1, some (.inl (t0))] [.inl (u12)] τ (w, σ') := h
        replace h := ei_c h rfl rfl rfl
        rcases h with ⟨hp8, f, g, h⟩ | ⟨hp8, f, g, h⟩
        · skip
          replace hp8 : (u12).toInt = (0 : Int) := ic_eq.mp hp8
          refine Or.inl ⟨hp8, ?_⟩
          clear g
          replace h : EV F f 184 z184 398 [some (rf 11 (0)), y1, y2, some (rf 13 (17)), y4, y5, y6, y7, y8, y9, some (.inl (u10)), y11, some (.inl (u12)), some (.inl (u13)), y14, y15, y16, y_1, some (.inl (t0))] [] τ (w, σ') := h
          exact j184_398 hsτ h
        · skip
          replace hp8 : ¬ ((u12).toInt = (0 : Int)) := (not_congr ic_eq).mp hp8
          refine Or.inr ⟨hp8, ?_⟩
          clear g
          replace h : EV F f 184 z184 387 [some (rf 11 (0)), y1, y2, some (rf 13 (17)), y4, y5, y6, y7, y8, y9, some (.inl (u10)), y11, some (.inl (u12)), some (.inl (u13)), y14, y15, y16, y_1, some (.inl (t0))] [] τ (w, σ') := h
          replace h := ei_p h rfl rfl rfl rfl
          obtain ⟨f, g, h⟩ := h
          clear g
          replace h : EV F f 184 z184 389 [some (rf 11 (0)), y1, y2, some (rf 13 (17)), y4, y5, y6, y7, y8, y9, some (.inl (u10)), y11, some (.inl (u12)), some (.inl (u13)), y14, y15, y16, y_1, some (.inl (t0))] [.inl (u12)] τ (w, σ') := h
          replace h := ei_p h rfl rfl rfl rfl
          obtain ⟨f, g, h⟩ := h
          clear g
          replace h : EV F f 184 z184 390 [some (rf 11 (0)), y1, y2, some (rf 13 (17)), y4, y5, y6, y7, y8, y9, some (.inl (u10)), y11, some (.inl (u12)), some (.inl (u13)), y14, y15, y16, y_1, some (.inl (t0))] [.inl (Int32.ofInt 3), .inl (u12)] τ (w, σ') := h
          replace h := ei_c h rfl rfl rfl
          rcases h with ⟨hp9, f, g, h⟩ | ⟨hp9, f, g, h⟩
          · skip
            replace hp9 : (u12).toInt = (3 : Int) := ic_eq.mp hp9
            refine Or.inl ⟨hp9, ?_⟩
            clear g
            replace h : EV F f 184 z184 398 [some (rf 11 (0)), y1, y2, some (rf 13 (17)), y4, y5, y6, y7, y8, y9, some (.inl (u10)), y11, some (.inl (u12)), some (.inl (u13)), y14, y15, y16, y_1, some (.inl (t0))] [] τ (w, σ') := h
            exact j184_398 hsτ h
          · skip
            replace hp9 : ¬ ((u12).toInt = (3 : Int)) := (not_congr ic_eq).mp hp9
            refine Or.inr ⟨hp9, ?_⟩
            clear g
            replace h : EV F f 184 z184 393 [some (rf 11 (0)), y1, y2, some (rf 13 (17)), y4, y5, y6, y7, y8, y9, some (.inl (u10)), y11, some (.inl (u12)), some (.inl (u13)), y14, y15, y16, y_1, some (.inl (t0))] [] τ (w, σ') := h
            replace h := ei_p h rfl rfl rfl rfl
            obtain ⟨f, g, h⟩ := h
            clear g
            replace h : EV F f 184 z184 395 [some (rf 11 (0)), y1, y2, some (rf 13 (17)), y4, y5, y6, y7, y8, y9, some (.inl (u10)), y11, some (.inl (u12)), some (.inl (u13)), y14, y15, y16, y_1, some (.inl (t0))] [.inl (t0)] τ (w, σ') := h
            replace h := ei_c h rfl rfl rfl
            rcases h with ⟨hp10, f, g, h⟩ | ⟨hp10, f, g, h⟩
            · skip
              replace hp10 : (t0).toInt ≠ (0 : Int) := ic_ne.mp hp10
              refine Or.inl ⟨hp10, ?_⟩
              clear g
              replace h : EV F f 184 z184 431 [some (rf 11 (0)), y1, y2, some (rf 13 (17)), y4, y5, y6, y7, y8, y9, some (.inl (u10)), y11, some (.inl (u12)), some (.inl (u13)), y14, y15, y16, y_1, some (.inl (t0))] [] τ (w, σ') := h
              exact j184_431 hsτ h
            · skip
              replace hp10 : ¬ ((t0).toInt ≠ (0 : Int)) := (not_congr ic_ne).mp hp10
              refine Or.inr ⟨hp10, ?_⟩
              clear g
              replace h : EV F f 184 z184 398 [some (rf 11 (0)), y1, y2, some (rf 13 (17)), y4, y5, y6, y7, y8, y9, some (.inl (u10)), y11, some (.inl (u12)), some (.inl (u13)), y14, y15, y16, y_1, some (.inl (t0))] [] τ (w, σ') := h
              exact j184_398 hsτ h
def J184_298 (τ : mS) (w : mX) (σ' : mS) : Prop := w = .inl (some (.inl (Int32.ofInt 0))) ∧ σ' = τ
set_option maxRecDepth 100000 in
theorem j184_298 {F f : Nat} {σ' τ : mS} {y0 : Option mV} {y1 : Option mV} {y2 : Option mV} {y3 : Option mV} {y4 : Option mV} {y5 : Option mV} {y6 : Option mV} {y7 : Option mV} {y8 : Option mV} {y9 : Option mV} {y10 : Option mV} {y11 : Option mV} {y12 : Option mV} {y13 : Option mV} {y14 : Option mV} {y15 : Option mV} {y16 : Option mV} {y17 : Option mV} {y18 : Option mV} {w : mX} (hsτ : HL τ) (h : EV F f 184 z184 298 [y0, y1, y2, y3, y4, y5, y6, y7, y8, y9, y10, y11, y12, y13, y14, y15, y16, y17, y18] [] τ (w, σ')) : J184_298 τ w σ' := by
  unfold J184_298
  replace h := ei_p h rfl rfl rfl rfl
  obtain ⟨f, g, h⟩ := h
  clear g
  replace h : EV F f 184 z184 299 [y0, y1, y2, y3, y4, y5, y6, y7, y8, y9, y10, y11, y12, y13, y14, y15, y16, y17, y18] [.inl (Int32.ofInt 0)] τ (w, σ') := h
  have e := ei_iret h rfl
  cases e
  exact ⟨rfl, rfl⟩
def J184_266 (u6 : Int32) (u7 : Int32) (u8 : Int32) (u9 : Int32) (u10 : Int32) (u12 : Int32) (u13 : Int32) (u16 : Int64) (τ : mS) (w : mX) (σ' : mS) : Prop := (((u16).toInt ≠ (Int64.ofInt (-1)).toInt ∧ (0 ≤ (0 : Int) ∧ (0 : Int) < (τ.2.1 13 (17) : Int)) ∧ ∃ σ4, σ4 = m_set τ 13 (14) ((m_i τ 13 (17) (Int32.ofInt 0).toNatClampNeg).toNatClampNeg) (.inl (u9)) ∧ (0 ≤ (m_i τ 13 (17) (Int32.ofInt 0).toNatClampNeg).toInt ∧ (m_i τ 13 (17) (Int32.ofInt 0).toNatClampNeg).toInt < (τ.2.1 13 (14) : Int)) ∧ (0 ≤ (0 : Int) ∧ (0 : Int) < (σ4.2.1 13 (17) : Int)) ∧ ∃ σ8, σ8 = m_set σ4 13 (15) ((m_i σ4 13 (17) (Int32.ofInt 0).toNatClampNeg).toNatClampNeg) (.inl (((u6) + ((Int32.ofInt 10) * (u7))) + ((Int32.ofInt 100) * (u8)))) ∧ (0 ≤ (m_i σ4 13 (17) (Int32.ofInt 0).toNatClampNeg).toInt ∧ (m_i σ4 13 (17) (Int32.ofInt 0).toNatClampNeg).toInt < (σ4.2.1 13 (15) : Int)) ∧ (0 ≤ (0 : Int) ∧ (0 : Int) < (σ8.2.1 13 (17) : Int)) ∧ ∃ σ12, σ12 = m_set σ8 13 (17) ((Int32.ofInt 0).toNatClampNeg) (.inl ((m_i σ8 13 (17) (Int32.ofInt 0).toNatClampNeg) + (Int32.ofInt 1))) ∧ (0 ≤ (0 : Int) ∧ (0 : Int) < (σ8.2.1 13 (17) : Int)) ∧ (0 ≤ (0 : Int) ∧ (0 : Int) < (σ12.2.1 13 (17) : Int)) ∧ (((u16).toInt ≠ (((m_i σ12 13 (17) (Int32.ofInt 0).toNatClampNeg) - (Int32.ofInt 1)).toInt64).toInt ∧ J184_356 (u10) (u12) (u13) (Int32.ofInt (-1)) σ12 w σ') ∨ (¬ ((u16).toInt ≠ (((m_i σ12 13 (17) (Int32.ofInt 0).toNatClampNeg) - (Int32.ofInt 1)).toInt64).toInt) ∧ ((∃ v16, P131 σ12 ((u16).toInt32) (.inl (some (.inl v16))) σ12 ∧ J184_356 (u10) (u12) (u13) (v16) σ12 w σ') ∨ (∃ b, P131 σ12 ((u16).toInt32) (.inr b) σ12 ∧ w = .inr b ∧ σ' = σ12))))) ∨ (¬ ((u16).toInt ≠ (Int64.ofInt (-1)).toInt) ∧ (((u12).toInt ≤ (1 : Int) ∧ J184_298 τ w σ') ∨ (¬ ((u12).toInt ≤ (1 : Int)) ∧ (((u13).toInt ≠ (0 : Int) ∧ J184_298 τ w σ') ∨ (¬ ((u13).toInt ≠ (0 : Int)) ∧ ((∃ v22 σ23, HL σ23 ∧ P181 τ (.inl (some (.inl v22))) σ23 ∧ (((v22).toInt = (0 : Int) ∧ J184_298 σ23 w σ') ∨ (¬ ((v22).toInt = (0 : Int)) ∧ w = .inl (some (.inl (Int32.ofInt 1))) ∧ σ' = σ23))) ∨ (∃ b, HL σ' ∧ P181 τ (.inr b) σ' ∧ w = .inr b))))))))
set_option maxRecDepth 100000 in
theorem j184_266 {F f : Nat} {σ' τ : mS} {u6 : Int32} {u7 : Int32} {u8 : Int32} {u9 : Int32} {u10 : Int32} {u12 : Int32} {u13 : Int32} {u16 : Int64} {y4 : Option mV} {y5 : Option mV} {y11 : Option mV} {y14 : Option mV} {y15 : Option mV} {y18 : Option mV} {w : mX} (hsτ : HL τ) (h : EV F f 184 z184 266 [some (rf 11 (0)), some (rf 13 (14)), some (rf 13 (15)), some (rf 13 (17)), y4, y5, some (.inl (u6)), some (.inl (u7)), some (.inl (u8)), some (.inl (u9)), some (.inl (u10)), y11, some (.inl (u12)), some (.inl (u13)), y14, y15, some (.inr (.inl (u16))), none, y18] [] τ (w, σ')) : J184_266 u6 u7 u8 u9 u10 u12 u13 u16 τ w σ' := by
  unfold J184_266
  replace h := ei_p h rfl rfl rfl rfl
  obtain ⟨f, g, h⟩ := h
  clear g
  replace h : EV F f 184 z184 268 [some (rf 11 (0)), some (rf 13 (14)), some (rf 13 (15)), some (rf 13 (17)), y4, y5, some (.inl (u6)), some (.inl (u7)), some (.inl (u8)), some (.inl (u9)), some (.inl (u10)), y11, some (.inl (u12)), some (.inl (u13)), y14, y15, some (.inr (.inl (u16))), none, y18] [.inr (.inl (u16))] τ (w, σ') := h
  replace h := ei_p h rfl rfl rfl rfl
  obtain ⟨f, g, h⟩ := h
  clear g
  replace h : EV F f 184 z184 271 [some (rf 11 (0)), some (rf 13 (14)), some (rf 13 (15)), some (rf 13 (17)), y4, y5, some (.inl (u6)), some (.inl (u7)), some (.inl (u8)), some (.inl (u9)), some (.inl (u10)), y11, some (.inl (u12)), some (.inl (u13)), y14, y15, some (.inr (.inl (u16))), none, y18] [.inr (.inl (Int64.ofInt (-1))), .inr (.inl (u16))] τ (w, σ') := h
  replace h := ei_p h rfl rfl rfl rfl
  obtain ⟨f, g, h⟩ := h
  clear g
  replace h : EV F f 184 z184 272 [some (rf 11 (0)), some (rf 13 (14)), some (rf 13 (15)), some (rf 13 (17)), y4, y5, some (.inl (u6)), some (.inl (u7)), some (.inl (u8)), some (.inl (u9)), some (.inl (u10)), y11, some (.inl (u12)), some (.inl (u13)), y14, y15, some (.inr (.inl (u16))), none, y18] [.inl (lg_cmp (u16) (Int64.ofInt (-1)))] τ (w, σ') := h
  replace h := ei_c h rfl rfl rfl
  rcases h with ⟨hp1, f, g, h⟩ | ⟨hp1, f, g, h⟩
  · skip
    replace hp1 : (u16).toInt ≠ (Int64.ofInt (-1)).toInt := (ab_lc .ne _ _).mp hp1
    refine Or.inl ⟨hp1, ?_⟩
    clear g
    replace h : EV F f 184 z184 300 [some (rf 11 (0)), some (rf 13 (14)), some (rf 13 (15)), some (rf 13 (17)), y4, y5, some (.inl (u6)), some (.inl (u7)), some (.inl (u8)), some (.inl (u9)), some (.inl (u10)), y11, some (.inl (u12)), some (.inl (u13)), y14, y15, some (.inr (.inl (u16))), none, y18] [] τ (w, σ') := h
    replace h := ei_p h rfl rfl rfl rfl
    obtain ⟨f, g, h⟩ := h
    clear g
    replace h : EV F f 184 z184 301 [some (rf 11 (0)), some (rf 13 (14)), some (rf 13 (15)), some (rf 13 (17)), y4, y5, some (.inl (u6)), some (.inl (u7)), some (.inl (u8)), some (.inl (u9)), some (.inl (u10)), y11, some (.inl (u12)), some (.inl (u13)), y14, y15, some (.inr (.inl (u16))), none, y18] [rf 13 (14)] τ (w, σ') := h
    replace h := ei_p h rfl rfl rfl rfl
    obtain ⟨f, g, h⟩ := h
    clear g
    replace h : EV F f 184 z184 302 [some (rf 11 (0)), some (rf 13 (14)), some (rf 13 (15)), some (rf 13 (17)), y4, y5, some (.inl (u6)), some (.inl (u7)), some (.inl (u8)), some (.inl (u9)), some (.inl (u10)), y11, some (.inl (u12)), some (.inl (u13)), y14, y15, some (.inr (.inl (u16))), none, y18] [rf 13 (17), rf 13 (14)] τ (w, σ') := h
    replace h := ei_p h rfl rfl rfl rfl
    obtain ⟨f, g, h⟩ := h
    clear g
    replace h : EV F f 184 z184 303 [some (rf 11 (0)), some (rf 13 (14)), some (rf 13 (15)), some (rf 13 (17)), y4, y5, some (.inl (u6)), some (.inl (u7)), some (.inl (u8)), some (.inl (u9)), some (.inl (u10)), y11, some (.inl (u12)), some (.inl (u13)), y14, y15, some (.inr (.inl (u16))), none, y18] [.inl (Int32.ofInt 0), rf 13 (17), rf 13 (14)] τ (w, σ') := h
    replace h := ei_iald h rfl (fun _ => rfl)
    obtain ⟨vp2, f, g, h⟩ := h
    clear g
    replace h : EV F f 184 z184 304 [some (rf 11 (0)), some (rf 13 (14)), some (rf 13 (15)), some (rf 13 (17)), y4, y5, some (.inl (u6)), some (.inl (u7)), some (.inl (u8)), some (.inl (u9)), some (.inl (u10)), y11, some (.inl (u12)), some (.inl (u13)), y14, y15, some (.inr (.inl (u16))), none, y18] [.inl (m_i τ 13 (17) (Int32.ofInt 0).toNatClampNeg), rf 13 (14)] τ (w, σ') := h
    refine ⟨vp_2 vp2, ?_⟩
    replace h := ei_p h rfl rfl rfl rfl
    obtain ⟨f, g, h⟩ := h
    clear g
    replace h : EV F f 184 z184 306 [some (rf 11 (0)), some (rf 13 (14)), some (rf 13 (15)), some (rf 13 (17)), y4, y5, some (.inl (u6)), some (.inl (u7)), some (.inl (u8)), some (.inl (u9)), some (.inl (u10)), y11, some (.inl (u12)), some (.inl (u13)), y14, y15, some (.inr (.inl (u16))), none, y18] [.inl (u9), .inl (m_i τ 13 (17) (Int32.ofInt 0).toNatClampNeg), rf 13 (14)] τ (w, σ') := h
    replace h := ei_iast h rfl
    obtain ⟨ht3, f, g, h⟩ := h
    clear g
    obtain ⟨σ4, e5⟩ : ∃ s, s = m_set τ 13 (14) ((m_i τ 13 (17) (Int32.ofInt 0).toNatClampNeg).toNatClampNeg) (.inl (u9)) := ⟨_, rfl⟩
    rw [← e5] at h
    have hsσ4 : HL σ4 := by rw [e5]; exact HL_set hsτ rfl
    refine ⟨σ4, e5, ?_⟩
    replace h : EV F f 184 z184 307 [some (rf 11 (0)), some (rf 13 (14)), some (rf 13 (15)), some (rf 13 (17)), y4, y5, some (.inl (u6)), some (.inl (u7)), some (.inl (u8)), some (.inl (u9)), some (.inl (u10)), y11, some (.inl (u12)), some (.inl (u13)), y14, y15, some (.inr (.inl (u16))), none, y18] [] σ4 (w, σ') := h
    refine ⟨vp_2 ht3, ?_⟩
    replace h := ei_p h rfl rfl rfl rfl
    obtain ⟨f, g, h⟩ := h
    clear g
    replace h : EV F f 184 z184 308 [some (rf 11 (0)), some (rf 13 (14)), some (rf 13 (15)), some (rf 13 (17)), y4, y5, some (.inl (u6)), some (.inl (u7)), some (.inl (u8)), some (.inl (u9)), some (.inl (u10)), y11, some (.inl (u12)), some (.inl (u13)), y14, y15, some (.inr (.inl (u16))), none, y18] [rf 13 (15)] σ4 (w, σ') := h
    replace h := ei_p h rfl rfl rfl rfl
    obtain ⟨f, g, h⟩ := h
    clear g
    replace h : EV F f 184 z184 309 [some (rf 11 (0)), some (rf 13 (14)), some (rf 13 (15)), some (rf 13 (17)), y4, y5, some (.inl (u6)), some (.inl (u7)), some (.inl (u8)), some (.inl (u9)), some (.inl (u10)), y11, some (.inl (u12)), some (.inl (u13)), y14, y15, some (.inr (.inl (u16))), none, y18] [rf 13 (17), rf 13 (15)] σ4 (w, σ') := h
    replace h := ei_p h rfl rfl rfl rfl
    obtain ⟨f, g, h⟩ := h
    clear g
    replace h : EV F f 184 z184 310 [some (rf 11 (0)), some (rf 13 (14)), some (rf 13 (15)), some (rf 13 (17)), y4, y5, some (.inl (u6)), some (.inl (u7)), some (.inl (u8)), some (.inl (u9)), some (.inl (u10)), y11, some (.inl (u12)), some (.inl (u13)), y14, y15, some (.inr (.inl (u16))), none, y18] [.inl (Int32.ofInt 0), rf 13 (17), rf 13 (15)] σ4 (w, σ') := h
    replace h := ei_iald h rfl (fun _ => rfl)
    obtain ⟨vp6, f, g, h⟩ := h
    clear g
    replace h : EV F f 184 z184 311 [some (rf 11 (0)), some (rf 13 (14)), some (rf 13 (15)), some (rf 13 (17)), y4, y5, some (.inl (u6)), some (.inl (u7)), some (.inl (u8)), some (.inl (u9)), some (.inl (u10)), y11, some (.inl (u12)), some (.inl (u13)), y14, y15, some (.inr (.inl (u16))), none, y18] [.inl (m_i σ4 13 (17) (Int32.ofInt 0).toNatClampNeg), rf 13 (15)] σ4 (w, σ') := h
    refine ⟨vp_2 vp6, ?_⟩
    replace h := ei_p h rfl rfl rfl rfl
    obtain ⟨f, g, h⟩ := h
    clear g
    replace h : EV F f 184 z184 313 [some (rf 11 (0)), some (rf 13 (14)), some (rf 13 (15)), some (rf 13 (17)), y4, y5, some (.inl (u6)), some (.inl (u7)), some (.inl (u8)), some (.inl (u9)), some (.inl (u10)), y11, some (.inl (u12)), some (.inl (u13)), y14, y15, some (.inr (.inl (u16))), none, y18] [.inl (u6), .inl (m_i σ4 13 (17) (Int32.ofInt 0).toNatClampNeg), rf 13 (15)] σ4 (w, σ') := h
    replace h := ei_p h rfl rfl rfl rfl
    obtain ⟨f, g, h⟩ := h
    clear g
    replace h : EV F f 184 z184 315 [some (rf 11 (0)), some (rf 13 (14)), some (rf 13 (15)), some (rf 13 (17)), y4, y5, some (.inl (u6)), some (.inl (u7)), some (.inl (u8)), some (.inl (u9)), some (.inl (u10)), y11, some (.inl (u12)), some (.inl (u13)), y14, y15, some (.inr (.inl (u16))), none, y18] [.inl (Int32.ofInt 10), .inl (u6), .inl (m_i σ4 13 (17) (Int32.ofInt 0).toNatClampNeg), rf 13 (15)] σ4 (w, σ') := h
    replace h := ei_p h rfl rfl rfl rfl
    obtain ⟨f, g, h⟩ := h
    clear g
    replace h : EV F f 184 z184 317 [some (rf 11 (0)), some (rf 13 (14)), some (rf 13 (15)), some (rf 13 (17)), y4, y5, some (.inl (u6)), some (.inl (u7)), some (.inl (u8)), some (.inl (u9)), some (.inl (u10)), y11, some (.inl (u12)), some (.inl (u13)), y14, y15, some (.inr (.inl (u16))), none, y18] [.inl (u7), .inl (Int32.ofInt 10), .inl (u6), .inl (m_i σ4 13 (17) (Int32.ofInt 0).toNatClampNeg), rf 13 (15)] σ4 (w, σ') := h
    replace h := ei_p h rfl rfl rfl rfl
    obtain ⟨f, g, h⟩ := h
    clear g
    replace h : EV F f 184 z184 318 [some (rf 11 (0)), some (rf 13 (14)), some (rf 13 (15)), some (rf 13 (17)), y4, y5, some (.inl (u6)), some (.inl (u7)), some (.inl (u8)), some (.inl (u9)), some (.inl (u10)), y11, some (.inl (u12)), some (.inl (u13)), y14, y15, some (.inr (.inl (u16))), none, y18] [.inl ((Int32.ofInt 10) * (u7)), .inl (u6), .inl (m_i σ4 13 (17) (Int32.ofInt 0).toNatClampNeg), rf 13 (15)] σ4 (w, σ') := h
    replace h := ei_p h rfl rfl rfl rfl
    obtain ⟨f, g, h⟩ := h
    clear g
    replace h : EV F f 184 z184 319 [some (rf 11 (0)), some (rf 13 (14)), some (rf 13 (15)), some (rf 13 (17)), y4, y5, some (.inl (u6)), some (.inl (u7)), some (.inl (u8)), some (.inl (u9)), some (.inl (u10)), y11, some (.inl (u12)), some (.inl (u13)), y14, y15, some (.inr (.inl (u16))), none, y18] [.inl ((u6) + ((Int32.ofInt 10) * (u7))), .inl (m_i σ4 13 (17) (Int32.ofInt 0).toNatClampNeg), rf 13 (15)] σ4 (w, σ') := h
    replace h := ei_p h rfl rfl rfl rfl
    obtain ⟨f, g, h⟩ := h
    clear g
    replace h : EV F f 184 z184 321 [some (rf 11 (0)), some (rf 13 (14)), some (rf 13 (15)), some (rf 13 (17)), y4, y5, some (.inl (u6)), some (.inl (u7)), some (.inl (u8)), some (.inl (u9)), some (.inl (u10)), y11, some (.inl (u12)), some (.inl (u13)), y14, y15, some (.inr (.inl (u16))), none, y18] [.inl (Int32.ofInt 100), .inl ((u6) + ((Int32.ofInt 10) * (u7))), .inl (m_i σ4 13 (17) (Int32.ofInt 0).toNatClampNeg), rf 13 (15)] σ4 (w, σ') := h
    replace h := ei_p h rfl rfl rfl rfl
    obtain ⟨f, g, h⟩ := h
    clear g
    replace h : EV F f 184 z184 323 [some (rf 11 (0)), some (rf 13 (14)), some (rf 13 (15)), some (rf 13 (17)), y4, y5, some (.inl (u6)), some (.inl (u7)), some (.inl (u8)), some (.inl (u9)), some (.inl (u10)), y11, some (.inl (u12)), some (.inl (u13)), y14, y15, some (.inr (.inl (u16))), none, y18] [.inl (u8), .inl (Int32.ofInt 100), .inl ((u6) + ((Int32.ofInt 10) * (u7))), .inl (m_i σ4 13 (17) (Int32.ofInt 0).toNatClampNeg), rf 13 (15)] σ4 (w, σ') := h
    replace h := ei_p h rfl rfl rfl rfl
    obtain ⟨f, g, h⟩ := h
    clear g
    replace h : EV F f 184 z184 324 [some (rf 11 (0)), some (rf 13 (14)), some (rf 13 (15)), some (rf 13 (17)), y4, y5, some (.inl (u6)), some (.inl (u7)), some (.inl (u8)), some (.inl (u9)), some (.inl (u10)), y11, some (.inl (u12)), some (.inl (u13)), y14, y15, some (.inr (.inl (u16))), none, y18] [.inl ((Int32.ofInt 100) * (u8)), .inl ((u6) + ((Int32.ofInt 10) * (u7))), .inl (m_i σ4 13 (17) (Int32.ofInt 0).toNatClampNeg), rf 13 (15)] σ4 (w, σ') := h
    replace h := ei_p h rfl rfl rfl rfl
    obtain ⟨f, g, h⟩ := h
    clear g
    replace h : EV F f 184 z184 325 [some (rf 11 (0)), some (rf 13 (14)), some (rf 13 (15)), some (rf 13 (17)), y4, y5, some (.inl (u6)), some (.inl (u7)), some (.inl (u8)), some (.inl (u9)), some (.inl (u10)), y11, some (.inl (u12)), some (.inl (u13)), y14, y15, some (.inr (.inl (u16))), none, y18] [.inl (((u6) + ((Int32.ofInt 10) * (u7))) + ((Int32.ofInt 100) * (u8))), .inl (m_i σ4 13 (17) (Int32.ofInt 0).toNatClampNeg), rf 13 (15)] σ4 (w, σ') := h
    replace h := ei_iast h rfl
    obtain ⟨ht7, f, g, h⟩ := h
    clear g
    obtain ⟨σ8, e9⟩ : ∃ s, s = m_set σ4 13 (15) ((m_i σ4 13 (17) (Int32.ofInt 0).toNatClampNeg).toNatClampNeg) (.inl (((u6) + ((Int32.ofInt 10) * (u7))) + ((Int32.ofInt 100) * (u8)))) := ⟨_, rfl⟩
    rw [← e9] at h
    have hsσ8 : HL σ8 := by rw [e9]; exact HL_set hsσ4 rfl
    refine ⟨σ8, e9, ?_⟩
    replace h : EV F f 184 z184 326 [some (rf 11 (0)), some (rf 13 (14)), some (rf 13 (15)), some (rf 13 (17)), y4, y5, some (.inl (u6)), some (.inl (u7)), some (.inl (u8)), some (.inl (u9)), some (.inl (u10)), y11, some (.inl (u12)), some (.inl (u13)), y14, y15, some (.inr (.inl (u16))), none, y18] [] σ8 (w, σ') := h
    refine ⟨vp_2 ht7, ?_⟩
    replace h := ei_p h rfl rfl rfl rfl
    obtain ⟨f, g, h⟩ := h
    clear g
    replace h : EV F f 184 z184 327 [some (rf 11 (0)), some (rf 13 (14)), some (rf 13 (15)), some (rf 13 (17)), y4, y5, some (.inl (u6)), some (.inl (u7)), some (.inl (u8)), some (.inl (u9)), some (.inl (u10)), y11, some (.inl (u12)), some (.inl (u13)), y14, y15, some (.inr (.inl (u16))), none, y18] [rf 13 (17)] σ8 (w, σ') := h
    replace h := ei_p h rfl rfl rfl rfl
    obtain ⟨f, g, h⟩ := h
    clear g
    replace h : EV F f 184 z184 328 [some (rf 11 (0)), some (rf 13 (14)), some (rf 13 (15)), some (rf 13 (17)), y4, y5, some (.inl (u6)), some (.inl (u7)), some (.inl (u8)), some (.inl (u9)), some (.inl (u10)), y11, some (.inl (u12)), some (.inl (u13)), y14, y15, some (.inr (.inl (u16))), none, y18] [.inl (Int32.ofInt 0), rf 13 (17)] σ8 (w, σ') := h
    replace h := ei_p h rfl rfl rfl rfl
    obtain ⟨f, g, h⟩ := h
    clear g
    replace h : EV F f 184 z184 329 [some (rf 11 (0)), some (rf 13 (14)), some (rf 13 (15)), some (rf 13 (17)), y4, y5, some (.inl (u6)), some (.inl (u7)), some (.inl (u8)), some (.inl (u9)), some (.inl (u10)), y11, some (.inl (u12)), some (.inl (u13)), y14, y15, some (.inr (.inl (u16))), none, y18] [.inl (Int32.ofInt 0), rf 13 (17), .inl (Int32.ofInt 0), rf 13 (17)] σ8 (w, σ') := h
    replace h := ei_iald h rfl (fun _ => rfl)
    obtain ⟨vp10, f, g, h⟩ := h
    clear g
    replace h : EV F f 184 z184 330 [some (rf 11 (0)), some (rf 13 (14)), some (rf 13 (15)), some (rf 13 (17)), y4, y5, some (.inl (u6)), some (.inl (u7)), some (.inl (u8)), some (.inl (u9)), some (.inl (u10)), y11, some (.inl (u12)), some (.inl (u13)), y14, y15, some (.inr (.inl (u16))), none, y18] [.inl (m_i σ8 13 (17) (Int32.ofInt 0).toNatClampNeg), .inl (Int32.ofInt 0), rf 13 (17)] σ8 (w, σ') := h
    refine ⟨vp_2 vp10, ?_⟩
    replace h := ei_p h rfl rfl rfl rfl
    obtain ⟨f, g, h⟩ := h
    clear g
    replace h : EV F f 184 z184 331 [some (rf 11 (0)), some (rf 13 (14)), some (rf 13 (15)), some (rf 13 (17)), y4, y5, some (.inl (u6)), some (.inl (u7)), some (.inl (u8)), some (.inl (u9)), some (.inl (u10)), y11, some (.inl (u12)), some (.inl (u13)), y14, y15, some (.inr (.inl (u16))), none, y18] [.inl (Int32.ofInt 1), .inl (m_i σ8 13 (17) (Int32.ofInt 0).toNatClampNeg), .inl (Int32.ofInt 0), rf 13 (17)] σ8 (w, σ') := h
    replace h := ei_p h rfl rfl rfl rfl
    obtain ⟨f, g, h⟩ := h
    clear g
    replace h : EV F f 184 z184 332 [some (rf 11 (0)), some (rf 13 (14)), some (rf 13 (15)), some (rf 13 (17)), y4, y5, some (.inl (u6)), some (.inl (u7)), some (.inl (u8)), some (.inl (u9)), some (.inl (u10)), y11, some (.inl (u12)), some (.inl (u13)), y14, y15, some (.inr (.inl (u16))), none, y18] [.inl ((m_i σ8 13 (17) (Int32.ofInt 0).toNatClampNeg) + (Int32.ofInt 1)), .inl (Int32.ofInt 0), rf 13 (17)] σ8 (w, σ') := h
    replace h := ei_iast h rfl
    obtain ⟨ht11, f, g, h⟩ := h
    clear g
    obtain ⟨σ12, e13⟩ : ∃ s, s = m_set σ8 13 (17) ((Int32.ofInt 0).toNatClampNeg) (.inl ((m_i σ8 13 (17) (Int32.ofInt 0).toNatClampNeg) + (Int32.ofInt 1))) := ⟨_, rfl⟩
    rw [← e13] at h
    have hsσ12 : HL σ12 := by rw [e13]; exact HL_set hsσ8 rfl
    refine ⟨σ12, e13, ?_⟩
    replace h : EV F f 184 z184 333 [some (rf 11 (0)), some (rf 13 (14)), some (rf 13 (15)), some (rf 13 (17)), y4, y5, some (.inl (u6)), some (.inl (u7)), some (.inl (u8)), some (.inl (u9)), some (.inl (u10)), y11, some (.inl (u12)), some (.inl (u13)), y14, y15, some (.inr (.inl (u16))), none, y18] [] σ12 (w, σ') := h
    refine ⟨vp_2 ht11, ?_⟩
    replace h := ei_p h rfl rfl rfl rfl
    obtain ⟨f, g, h⟩ := h
    clear g
    replace h : EV F f 184 z184 335 [some (rf 11 (0)), some (rf 13 (14)), some (rf 13 (15)), some (rf 13 (17)), y4, y5, some (.inl (u6)), some (.inl (u7)), some (.inl (u8)), some (.inl (u9)), some (.inl (u10)), y11, some (.inl (u12)), some (.inl (u13)), y14, y15, some (.inr (.inl (u16))), none, y18] [.inr (.inl (u16))] σ12 (w, σ') := h
    replace h := ei_p h rfl rfl rfl rfl
    obtain ⟨f, g, h⟩ := h
    clear g
    replace h : EV F f 184 z184 336 [some (rf 11 (0)), some (rf 13 (14)), some (rf 13 (15)), some (rf 13 (17)), y4, y5, some (.inl (u6)), some (.inl (u7)), some (.inl (u8)), some (.inl (u9)), some (.inl (u10)), y11, some (.inl (u12)), some (.inl (u13)), y14, y15, some (.inr (.inl (u16))), none, y18] [rf 13 (17), .inr (.inl (u16))] σ12 (w, σ') := h
    replace h := ei_p h rfl rfl rfl rfl
    obtain ⟨f, g, h⟩ := h
    clear g
    replace h : EV F f 184 z184 337 [some (rf 11 (0)), some (rf 13 (14)), some (rf 13 (15)), some (rf 13 (17)), y4, y5, some (.inl (u6)), some (.inl (u7)), some (.inl (u8)), some (.inl (u9)), some (.inl (u10)), y11, some (.inl (u12)), some (.inl (u13)), y14, y15, some (.inr (.inl (u16))), none, y18] [.inl (Int32.ofInt 0), rf 13 (17), .inr (.inl (u16))] σ12 (w, σ') := h
    replace h := ei_iald h rfl (fun _ => rfl)
    obtain ⟨vp14, f, g, h⟩ := h
    clear g
    replace h : EV F f 184 z184 338 [some (rf 11 (0)), some (rf 13 (14)), some (rf 13 (15)), some (rf 13 (17)), y4, y5, some (.inl (u6)), some (.inl (u7)), some (.inl (u8)), some (.inl (u9)), some (.inl (u10)), y11, some (.inl (u12)), some (.inl (u13)), y14, y15, some (.inr (.inl (u16))), none, y18] [.inl (m_i σ12 13 (17) (Int32.ofInt 0).toNatClampNeg), .inr (.inl (u16))] σ12 (w, σ') := h
    refine ⟨vp_2 vp14, ?_⟩
    replace h := ei_p h rfl rfl rfl rfl
    obtain ⟨f, g, h⟩ := h
    clear g
    replace h : EV F f 184 z184 339 [some (rf 11 (0)), some (rf 13 (14)), some (rf 13 (15)), some (rf 13 (17)), y4, y5, some (.inl (u6)), some (.inl (u7)), some (.inl (u8)), some (.inl (u9)), some (.inl (u10)), y11, some (.inl (u12)), some (.inl (u13)), y14, y15, some (.inr (.inl (u16))), none, y18] [.inl (Int32.ofInt 1), .inl (m_i σ12 13 (17) (Int32.ofInt 0).toNatClampNeg), .inr (.inl (u16))] σ12 (w, σ') := h
    replace h := ei_p h rfl rfl rfl rfl
    obtain ⟨f, g, h⟩ := h
    clear g
    replace h : EV F f 184 z184 340 [some (rf 11 (0)), some (rf 13 (14)), some (rf 13 (15)), some (rf 13 (17)), y4, y5, some (.inl (u6)), some (.inl (u7)), some (.inl (u8)), some (.inl (u9)), some (.inl (u10)), y11, some (.inl (u12)), some (.inl (u13)), y14, y15, some (.inr (.inl (u16))), none, y18] [.inl ((m_i σ12 13 (17) (Int32.ofInt 0).toNatClampNeg) - (Int32.ofInt 1)), .inr (.inl (u16))] σ12 (w, σ') := h
    replace h := ei_p h rfl rfl rfl rfl
    obtain ⟨f, g, h⟩ := h
    clear g
    replace h : EV F f 184 z184 341 [some (rf 11 (0)), some (rf 13 (14)), some (rf 13 (15)), some (rf 13 (17)), y4, y5, some (.inl (u6)), some (.inl (u7)), some (.inl (u8)), some (.inl (u9)), some (.inl (u10)), y11, some (.inl (u12)), some (.inl (u13)), y14, y15, some (.inr (.inl (u16))), none, y18] [.inr (.inl (((m_i σ12 13 (17) (Int32.ofInt 0).toNatClampNeg) - (Int32.ofInt 1)).toInt64)), .inr (.inl (u16))] σ12 (w, σ') := h
    replace h := ei_p h rfl rfl rfl rfl
    obtain ⟨f, g, h⟩ := h
    clear g
    replace h : EV F f 184 z184 342 [some (rf 11 (0)), some (rf 13 (14)), some (rf 13 (15)), some (rf 13 (17)), y4, y5, some (.inl (u6)), some (.inl (u7)), some (.inl (u8)), some (.inl (u9)), some (.inl (u10)), y11, some (.inl (u12)), some (.inl (u13)), y14, y15, some (.inr (.inl (u16))), none, y18] [.inl (lg_cmp (u16) (((m_i σ12 13 (17) (Int32.ofInt 0).toNatClampNeg) - (Int32.ofInt 1)).toInt64))] σ12 (w, σ') := h
    replace h := ei_c h rfl rfl rfl
    rcases h with ⟨hp15, f, g, h⟩ | ⟨hp15, f, g, h⟩
    · skip
      replace hp15 : (u16).toInt ≠ (((m_i σ12 13 (17) (Int32.ofInt 0).toNatClampNeg) - (Int32.ofInt 1)).toInt64).toInt := (ab_lc .ne _ _).mp hp15
      refine Or.inl ⟨hp15, ?_⟩
      clear g
      replace h : EV F f 184 z184 355 [some (rf 11 (0)), some (rf 13 (14)), some (rf 13 (15)), some (rf 13 (17)), y4, y5, some (.inl (u6)), some (.inl (u7)), some (.inl (u8)), some (.inl (u9)), some (.inl (u10)), y11, some (.inl (u12)), some (.inl (u13)), y14, y15, some (.inr (.inl (u16))), none, y18] [] σ12 (w, σ') := h
      replace h := ei_p h rfl rfl rfl rfl
      obtain ⟨f, g, h⟩ := h
      clear g
      replace h : EV F f 184 z184 356 [some (rf 11 (0)), some (rf 13 (14)), some (rf 13 (15)), some (rf 13 (17)), y4, y5, some (.inl (u6)), some (.inl (u7)), some (.inl (u8)), some (.inl (u9)), some (.inl (u10)), y11, some (.inl (u12)), some (.inl (u13)), y14, y15, some (.inr (.inl (u16))), none, y18] [.inl (Int32.ofInt (-1))] σ12 (w, σ') := h
      exact j184_356 hsσ12 h
    · skip
      replace hp15 : ¬ ((u16).toInt ≠ (((m_i σ12 13 (17) (Int32.ofInt 0).toNatClampNeg) - (Int32.ofInt 1)).toInt64).toInt) := (not_congr (ab_lc .ne _ _)).mp hp15
      refine Or.inr ⟨hp15, ?_⟩
      clear g
      replace h : EV F f 184 z184 345 [some (rf 11 (0)), some (rf 13 (14)), some (rf 13 (15)), some (rf 13 (17)), y4, y5, some (.inl (u6)), some (.inl (u7)), some (.inl (u8)), some (.inl (u9)), some (.inl (u10)), y11, some (.inl (u12)), some (.inl (u13)), y14, y15, some (.inr (.inl (u16))), none, y18] [] σ12 (w, σ') := h
      replace h := ei_p h rfl rfl rfl rfl
      obtain ⟨f, g, h⟩ := h
      clear g
      replace h : EV F f 184 z184 346 [some (rf 11 (0)), some (rf 13 (14)), some (rf 13 (15)), some (rf 13 (17)), y4, y5, some (.inl (u6)), some (.inl (u7)), some (.inl (u8)), some (.inl (u9)), some (.inl (u10)), y11, some (.inl (u12)), some (.inl (u13)), y14, y15, some (.inr (.inl (u16))), none, y18] [rf 11 (0)] σ12 (w, σ') := h
      replace h := ei_p h rfl rfl rfl rfl
      obtain ⟨f, g, h⟩ := h
      clear g
      replace h : EV F f 184 z184 348 [some (rf 11 (0)), some (rf 13 (14)), some (rf 13 (15)), some (rf 13 (17)), y4, y5, some (.inl (u6)), some (.inl (u7)), some (.inl (u8)), some (.inl (u9)), some (.inl (u10)), y11, some (.inl (u12)), some (.inl (u13)), y14, y15, some (.inr (.inl (u16))), none, y18] [.inr (.inl (u16)), rf 11 (0)] σ12 (w, σ') := h
      replace h := ei_p h rfl rfl rfl rfl
      obtain ⟨f, g, h⟩ := h
      clear g
      replace h : EV F f 184 z184 349 [some (rf 11 (0)), some (rf 13 (14)), some (rf 13 (15)), some (rf 13 (17)), y4, y5, some (.inl (u6)), some (.inl (u7)), some (.inl (u8)), some (.inl (u9)), some (.inl (u10)), y11, some (.inl (u12)), some (.inl (u13)), y14, y15, some (.inr (.inl (u16))), none, y18] [.inl ((u16).toInt32), rf 11 (0)] σ12 (w, σ') := h
      replace h := bx_I (ei_v (as := [.inl ((u16).toInt32)]) h rfl rfl rfl) z131_at (Or.inl rfl)
      rcases h with ⟨v16, σ17, r18, f, g, h⟩ | ⟨b, σ17, r18, e⟩
      · skip
        have er18 := ro2_run rfl r18
        rw [er18] at h r18
        clear g
        have p19 := x131 hsσ12.1 r18
        refine Or.inl ⟨v16, p19, ?_⟩
        replace h : EV F f 184 z184 352 [some (rf 11 (0)), some (rf 13 (14)), some (rf 13 (15)), some (rf 13 (17)), y4, y5, some (.inl (u6)), some (.inl (u7)), some (.inl (u8)), some (.inl (u9)), some (.inl (u10)), y11, some (.inl (u12)), some (.inl (u13)), y14, y15, some (.inr (.inl (u16))), none, y18] [.inl (v16)] σ12 (w, σ') := h
        replace h := ei_p h rfl rfl rfl rfl
        obtain ⟨f, g, h⟩ := h
        clear g
        replace h : EV F f 184 z184 356 [some (rf 11 (0)), some (rf 13 (14)), some (rf 13 (15)), some (rf 13 (17)), y4, y5, some (.inl (u6)), some (.inl (u7)), some (.inl (u8)), some (.inl (u9)), some (.inl (u10)), y11, some (.inl (u12)), some (.inl (u13)), y14, y15, some (.inr (.inl (u16))), none, y18] [.inl (v16)] σ12 (w, σ') := h
        exact j184_356 hsσ12 h
      · skip
        have er18 := ro2_run rfl r18
        rw [er18] at e r18
        have p19 := x131 hsσ12.1 r18
        cases e
        exact Or.inr ⟨b, p19, rfl, rfl⟩
  · skip
    replace hp1 : ¬ ((u16).toInt ≠ (Int64.ofInt (-1)).toInt) := (not_congr (ab_lc .ne _ _)).mp hp1
    refine Or.inr ⟨hp1, ?_⟩
    clear g
    replace h : EV F f 184 z184 275 [some (rf 11 (0)), some (rf 13 (14)), some (rf 13 (15)), some (rf 13 (17)), y4, y5, some (.inl (u6)), some (.inl (u7)), some (.inl (u8)), some (.inl (u9)), some (.inl (u10)), y11, some (.inl (u12)), some (.inl (u13)), y14, y15, some (.inr (.inl (u16))), none, y18] [] τ (w, σ') := h
    replace h := ei_p h rfl rfl rfl rfl
    obtain ⟨f, g, h⟩ := h
    clear g
    replace h : EV F f 184 z184 277 [some (rf 11 (0)), some (rf 13 (14)), some (rf 13 (15)), some (rf 13 (17)), y4, y5, some (.inl (u6)), some (.inl (u7)), some (.inl (u8)), some (.inl (u9)), some (.inl (u10)), y11, some (.inl (u12)), some (.inl (u13)), y14, y15, some (.inr (.inl (u16))), none, y18] [.inl (u12)] τ (w, σ') := h
    replace h := ei_p h rfl rfl rfl rfl
    obtain ⟨f, g, h⟩ := h
    clear g
    replace h : EV F f 184 z184 278 [some (rf 11 (0)), some (rf 13 (14)), some (rf 13 (15)), some (rf 13 (17)), y4, y5, some (.inl (u6)), some (.inl (u7)), some (.inl (u8)), some (.inl (u9)), some (.inl (u10)), y11, some (.inl (u12)), some (.inl (u13)), y14, y15, some (.inr (.inl (u16))), none, y18] [.inl (Int32.ofInt 1), .inl (u12)] τ (w, σ') := h
    replace h := ei_c h rfl rfl rfl
    rcases h with ⟨hp20, f, g, h⟩ | ⟨hp20, f, g, h⟩
    · skip
      replace hp20 : (u12).toInt ≤ (1 : Int) := ic_le.mp hp20
      refine Or.inl ⟨hp20, ?_⟩
      clear g
      replace h : EV F f 184 z184 298 [some (rf 11 (0)), some (rf 13 (14)), some (rf 13 (15)), some (rf 13 (17)), y4, y5, some (.inl (u6)), some (.inl (u7)), some (.inl (u8)), some (.inl (u9)), some (.inl (u10)), y11, some (.inl (u12)), some (.inl (u13)), y14, y15, some (.inr (.inl (u16))), none, y18] [] τ (w, σ') := h
      exact j184_298 hsτ h
    · skip
      replace hp20 : ¬ ((u12).toInt ≤ (1 : Int)) := (not_congr ic_le).mp hp20
      refine Or.inr ⟨hp20, ?_⟩
      clear g
      replace h : EV F f 184 z184 281 [some (rf 11 (0)), some (rf 13 (14)), some (rf 13 (15)), some (rf 13 (17)), y4, y5, some (.inl (u6)), some (.inl (u7)), some (.inl (u8)), some (.inl (u9)), some (.inl (u10)), y11, some (.inl (u12)), some (.inl (u13)), y14, y15, some (.inr (.inl (u16))), none, y18] [] τ (w, σ') := h
      replace h := ei_p h rfl rfl rfl rfl
      obtain ⟨f, g, h⟩ := h
      clear g
      replace h : EV F f 184 z184 283 [some (rf 11 (0)), some (rf 13 (14)), some (rf 13 (15)), some (rf 13 (17)), y4, y5, some (.inl (u6)), some (.inl (u7)), some (.inl (u8)), some (.inl (u9)), some (.inl (u10)), y11, some (.inl (u12)), some (.inl (u13)), y14, y15, some (.inr (.inl (u16))), none, y18] [.inl (u13)] τ (w, σ') := h
      replace h := ei_c h rfl rfl rfl
      rcases h with ⟨hp21, f, g, h⟩ | ⟨hp21, f, g, h⟩
      · skip
        replace hp21 : (u13).toInt ≠ (0 : Int) := ic_ne.mp hp21
        refine Or.inl ⟨hp21, ?_⟩
        clear g
        replace h : EV F f 184 z184 298 [some (rf 11 (0)), some (rf 13 (14)), some (rf 13 (15)), some (rf 13 (17)), y4, y5, some (.inl (u6)), some (.inl (u7)), some (.inl (u8)), some (.inl (u9)), some (.inl (u10)), y11, some (.inl (u12)), some (.inl (u13)), y14, y15, some (.inr (.inl (u16))), none, y18] [] τ (w, σ') := h
        exact j184_298 hsτ h
      · skip
        replace hp21 : ¬ ((u13).toInt ≠ (0 : Int)) := (not_congr ic_ne).mp hp21
        refine Or.inr ⟨hp21, ?_⟩
        clear g
        replace h : EV F f 184 z184 286 [some (rf 11 (0)), some (rf 13 (14)), some (rf 13 (15)), some (rf 13 (17)), y4, y5, some (.inl (u6)), some (.inl (u7)), some (.inl (u8)), some (.inl (u9)), some (.inl (u10)), y11, some (.inl (u12)), some (.inl (u13)), y14, y15, some (.inr (.inl (u16))), none, y18] [] τ (w, σ') := h
        replace h := ei_p h rfl rfl rfl rfl
        obtain ⟨f, g, h⟩ := h
        clear g
        replace h : EV F f 184 z184 287 [some (rf 11 (0)), some (rf 13 (14)), some (rf 13 (15)), some (rf 13 (17)), y4, y5, some (.inl (u6)), some (.inl (u7)), some (.inl (u8)), some (.inl (u9)), some (.inl (u10)), y11, some (.inl (u12)), some (.inl (u13)), y14, y15, some (.inr (.inl (u16))), none, y18] [rf 11 (0)] τ (w, σ') := h
        replace h := ei_p h rfl rfl rfl rfl
        obtain ⟨f, g, h⟩ := h
        clear g
        replace h : EV F f 184 z184 288 [some (rf 11 (0)), some (rf 13 (14)), some (rf 13 (15)), some (rf 13 (17)), y4, y5, some (.inl (u6)), some (.inl (u7)), some (.inl (u8)), some (.inl (u9)), some (.inl (u10)), y11, some (.inl (u12)), some (.inl (u13)), y14, y15, some (.inr (.inl (u16))), none, y18] [rf 13 (17), rf 11 (0)] τ (w, σ') := h
        replace h := bx_I (ei_s (as := [rf 13 (17), rf 11 (0)]) h rfl (Nat.le_of_ble_eq_true rfl) rfl rfl) z181_at (Or.inr rfl)
        rcases h with ⟨v22, σ23, r24, f, g, h⟩ | ⟨b, σ23, r24, e⟩
        · skip
          clear g
          have p25 := x181 hsτ r24
          have hsσ23 : HL σ23 := hl181 hsτ p25
          refine Or.inl ⟨v22, σ23, hl181 hsτ p25, p25, ?_⟩
          replace h : EV F f 184 z184 291 [some (rf 11 (0)), some (rf 13 (14)), some (rf 13 (15)), some (rf 13 (17)), y4, y5, some (.inl (u6)), some (.inl (u7)), some (.inl (u8)), some (.inl (u9)), some (.inl (u10)), y11, some (.inl (u12)), some (.inl (u13)), y14, y15, some (.inr (.inl (u16))), none, y18] [.inl (v22)] σ23 (w, σ') := h
          replace h := ei_c h rfl rfl rfl
          rcases h with ⟨hp26, f, g, h⟩ | ⟨hp26, f, g, h⟩
          · skip
            replace hp26 : (v22).toInt = (0 : Int) := ic_eq.mp hp26
            refine Or.inl ⟨hp26, ?_⟩
            clear g
            replace h : EV F f 184 z184 298 [some (rf 11 (0)), some (rf 13 (14)), some (rf 13 (15)), some (rf 13 (17)), y4, y5, some (.inl (u6)), some (.inl (u7)), some (.inl (u8)), some (.inl (u9)), some (.inl (u10)), y11, some (.inl (u12)), some (.inl (u13)), y14, y15, some (.inr (.inl (u16))), none, y18] [] σ23 (w, σ') := h
            exact j184_298 hsσ23 h
          · skip
            replace hp26 : ¬ ((v22).toInt = (0 : Int)) := (not_congr ic_eq).mp hp26
            refine Or.inr ⟨hp26, ?_⟩
            clear g
            replace h : EV F f 184 z184 294 [some (rf 11 (0)), some (rf 13 (14)), some (rf 13 (15)), some (rf 13 (17)), y4, y5, some (.inl (u6)), some (.inl (u7)), some (.inl (u8)), some (.inl (u9)), some (.inl (u10)), y11, some (.inl (u12)), some (.inl (u13)), y14, y15, some (.inr (.inl (u16))), none, y18] [] σ23 (w, σ') := h
            replace h := ei_p h rfl rfl rfl rfl
            obtain ⟨f, g, h⟩ := h
            clear g
            replace h : EV F f 184 z184 295 [some (rf 11 (0)), some (rf 13 (14)), some (rf 13 (15)), some (rf 13 (17)), y4, y5, some (.inl (u6)), some (.inl (u7)), some (.inl (u8)), some (.inl (u9)), some (.inl (u10)), y11, some (.inl (u12)), some (.inl (u13)), y14, y15, some (.inr (.inl (u16))), none, y18] [.inl (Int32.ofInt 1)] σ23 (w, σ') := h
            replace h := ei_p h rfl rfl rfl rfl
            obtain ⟨f, g, h⟩ := h
            clear g
            replace h : EV F f 184 z184 299 [some (rf 11 (0)), some (rf 13 (14)), some (rf 13 (15)), some (rf 13 (17)), y4, y5, some (.inl (u6)), some (.inl (u7)), some (.inl (u8)), some (.inl (u9)), some (.inl (u10)), y11, some (.inl (u12)), some (.inl (u13)), y14, y15, some (.inr (.inl (u16))), none, y18] [.inl (Int32.ofInt 1)] σ23 (w, σ') := h
            have e := ei_iret h rfl
            cases e
            exact ⟨rfl, rfl⟩
        · skip
          have p25 := x181 hsτ r24
          cases e
          exact Or.inr ⟨b, hl181 hsτ p25, p25, rfl⟩
def J184_160 (u6 : Int32) (u7 : Int32) (u8 : Int32) (u9 : Int32) (u10 : Int32) (u11 : Int32) (u12 : Int32) (u13 : Int32) (t0 : Int32) (τ : mS) (w : mX) (σ' : mS) : Prop := ((∃ v1, P182 τ (u6) (.inl (some (.inl v1))) τ ∧ ∃ v5 σ6, gF τ σ6 ∧ HL σ6 ∧ P172 τ (Int32.ofInt 2) (u6) (u7) (u8) (u9) (u10) (u11) (u12) (.inl (some (.inr (.inl v5)))) σ6 ∧ (((u7).toInt = (3 : Int) ∧ J184_202 (u7) (v5) σ6 w σ') ∨ (¬ ((u7).toInt = (3 : Int)) ∧ (((t0).toInt ≠ (0 : Int) ∧ (((v1).toInt ≠ (0 : Int) ∧ J184_251 (v5) σ6 w σ') ∨ (¬ ((v1).toInt ≠ (0 : Int)) ∧ (((u13).toInt = (0 : Int) ∧ J184_266 (u6) (u7) (u8) (u9) (u10) (u12) (u13) (v5) σ6 w σ') ∨ (¬ ((u13).toInt = (0 : Int)) ∧ (((u12).toInt = (1 : Int) ∧ J184_251 (v5) σ6 w σ') ∨ (¬ ((u12).toInt = (1 : Int)) ∧ (((u12).toInt ≠ (2 : Int) ∧ J184_266 (u6) (u7) (u8) (u9) (u10) (u12) (u13) (v5) σ6 w σ') ∨ (¬ ((u12).toInt ≠ (2 : Int)) ∧ J184_251 (v5) σ6 w σ'))))))))) ∨ (¬ ((t0).toInt ≠ (0 : Int)) ∧ J184_202 (u7) (v5) σ6 w σ'))))) ∨ (∃ b, P182 τ (u6) (.inr b) τ ∧ w = .inr b ∧ σ' = τ))
set_option maxRecDepth 100000 in
theorem j184_160 {F f : Nat} {σ' τ : mS} {u6 : Int32} {u7 : Int32} {u8 : Int32} {u9 : Int32} {u10 : Int32} {u11 : Int32} {u12 : Int32} {u13 : Int32} {t0 : Int32} {y4 : Option mV} {y5 : Option mV} {y14 : Option mV} {y15 : Option mV} {y16 : Option mV} {y17 : Option mV} {y18 : Option mV} {w : mX} (hsτ : HL τ) (h : EV F f 184 z184 160 [some (rf 11 (0)), some (rf 13 (14)), some (rf 13 (15)), some (rf 13 (17)), y4, y5, some (.inl (u6)), some (.inl (u7)), some (.inl (u8)), some (.inl (u9)), some (.inl (u10)), some (.inl (u11)), some (.inl (u12)), some (.inl (u13)), y14, y15, y16, y17, y18] [.inl (t0)] τ (w, σ')) : J184_160 u6 u7 u8 u9 u10 u11 u12 u13 t0 τ w σ' := by
  unfold J184_160
  replace h := ei_p h rfl rfl rfl rfl
  obtain ⟨f, g, h⟩ := h
  clear g
  replace h : EV F f 184 z184 162 [some (rf 11 (0)), some (rf 13 (14)), some (rf 13 (15)), some (rf 13 (17)), y4, y5, some (.inl (u6)), some (.inl (u7)), some (.inl (u8)), some (.inl (u9)), some (.inl (u10)), some (.inl (u11)), some (.inl (u12)), some (.inl (u13)), some (.inl (t0)), y15, y16, y17, y18] [] τ (w, σ') := h
  replace h := ei_p h rfl rfl rfl rfl
  obtain ⟨f, g, h⟩ := h
  clear g
  replace h : EV F f 184 z184 163 [some (rf 11 (0)), some (rf 13 (14)), some (rf 13 (15)), some (rf 13 (17)), y4, y5, some (.inl (u6)), some (.inl (u7)), some (.inl (u8)), some (.inl (u9)), some (.inl (u10)), some (.inl (u11)), some (.inl (u12)), some (.inl (u13)), some (.inl (t0)), y15, y16, y17, y18] [rf 11 (0)] τ (w, σ') := h
  replace h := ei_p h rfl rfl rfl rfl
  obtain ⟨f, g, h⟩ := h
  clear g
  replace h : EV F f 184 z184 165 [some (rf 11 (0)), some (rf 13 (14)), some (rf 13 (15)), some (rf 13 (17)), y4, y5, some (.inl (u6)), some (.inl (u7)), some (.inl (u8)), some (.inl (u9)), some (.inl (u10)), some (.inl (u11)), some (.inl (u12)), some (.inl (u13)), some (.inl (t0)), y15, y16, y17, y18] [.inl (u6), rf 11 (0)] τ (w, σ') := h
  replace h := bx_I (ei_s (as := [.inl (u6), rf 11 (0)]) h rfl (Nat.le_of_ble_eq_true rfl) rfl rfl) z182_at (Or.inr rfl)
  rcases h with ⟨v1, σ2, r3, f, g, h⟩ | ⟨b, σ2, r3, e⟩
  · skip
    have er3 := ro2_run rfl r3
    rw [er3] at h r3
    clear g
    have p4 := x182 hsτ r3
    refine Or.inl ⟨v1, p4, ?_⟩
    replace h : EV F f 184 z184 168 [some (rf 11 (0)), some (rf 13 (14)), some (rf 13 (15)), some (rf 13 (17)), y4, y5, some (.inl (u6)), some (.inl (u7)), some (.inl (u8)), some (.inl (u9)), some (.inl (u10)), some (.inl (u11)), some (.inl (u12)), some (.inl (u13)), some (.inl (t0)), y15, y16, y17, y18] [.inl (v1)] τ (w, σ') := h
    replace h := ei_p h rfl rfl rfl rfl
    obtain ⟨f, g, h⟩ := h
    clear g
    replace h : EV F f 184 z184 170 [some (rf 11 (0)), some (rf 13 (14)), some (rf 13 (15)), some (rf 13 (17)), y4, y5, some (.inl (u6)), some (.inl (u7)), some (.inl (u8)), some (.inl (u9)), some (.inl (u10)), some (.inl (u11)), some (.inl (u12)), some (.inl (u13)), some (.inl (t0)), some (.inl (v1)), y16, y17, y18] [] τ (w, σ') := h
    replace h := ei_p h rfl rfl rfl rfl
    obtain ⟨f, g, h⟩ := h
    clear g
    replace h : EV F f 184 z184 171 [some (rf 11 (0)), some (rf 13 (14)), some (rf 13 (15)), some (rf 13 (17)), y4, y5, some (.inl (u6)), some (.inl (u7)), some (.inl (u8)), some (.inl (u9)), some (.inl (u10)), some (.inl (u11)), some (.inl (u12)), some (.inl (u13)), some (.inl (t0)), some (.inl (v1)), y16, y17, y18] [rf 11 (0)] τ (w, σ') := h
    replace h := ei_p h rfl rfl rfl rfl
    obtain ⟨f, g, h⟩ := h
    clear g
    replace h : EV F f 184 z184 172 [some (rf 11 (0)), some (rf 13 (14)), some (rf 13 (15)), some (rf 13 (17)), y4, y5, some (.inl (u6)), some (.inl (u7)), some (.inl (u8)), some (.inl (u9)), some (.inl (u10)), some (.inl (u11)), some (.inl (u12)), some (.inl (u13)), some (.inl (t0)), some (.inl (v1)), y16, y17, y18] [.inl (Int32.ofInt 2), rf 11 (0)] τ (w, σ') := h
    replace h := ei_p h rfl rfl rfl rfl
    obtain ⟨f, g, h⟩ := h
    clear g
    replace h : EV F f 184 z184 174 [some (rf 11 (0)), some (rf 13 (14)), some (rf 13 (15)), some (rf 13 (17)), y4, y5, some (.inl (u6)), some (.inl (u7)), some (.inl (u8)), some (.inl (u9)), some (.inl (u10)), some (.inl (u11)), some (.inl (u12)), some (.inl (u13)), some (.inl (t0)), some (.inl (v1)), y16, y17, y18] [.inl (u6), .inl (Int32.ofInt 2), rf 11 (0)] τ (w, σ') := h
    replace h := ei_p h rfl rfl rfl rfl
    obtain ⟨f, g, h⟩ := h
    clear g
    replace h : EV F f 184 z184 176 [some (rf 11 (0)), some (rf 13 (14)), some (rf 13 (15)), some (rf 13 (17)), y4, y5, some (.inl (u6)), some (.inl (u7)), some (.inl (u8)), some (.inl (u9)), some (.inl (u10)), some (.inl (u11)), some (.inl (u12)), some (.inl (u13)), some (.inl (t0)), some (.inl (v1)), y16, y17, y18] [.inl (u7), .inl (u6), .inl (Int32.ofInt 2), rf 11 (0)] τ (w, σ') := h
    replace h := ei_p h rfl rfl rfl rfl
    obtain ⟨f, g, h⟩ := h
    clear g
    replace h : EV F f 184 z184 178 [some (rf 11 (0)), some (rf 13 (14)), some (rf 13 (15)), some (rf 13 (17)), y4, y5, some (.inl (u6)), some (.inl (u7)), some (.inl (u8)), some (.inl (u9)), some (.inl (u10)), some (.inl (u11)), some (.inl (u12)), some (.inl (u13)), some (.inl (t0)), some (.inl (v1)), y16, y17, y18] [.inl (u8), .inl (u7), .inl (u6), .inl (Int32.ofInt 2), rf 11 (0)] τ (w, σ') := h
    replace h := ei_p h rfl rfl rfl rfl
    obtain ⟨f, g, h⟩ := h
    clear g
    replace h : EV F f 184 z184 180 [some (rf 11 (0)), some (rf 13 (14)), some (rf 13 (15)), some (rf 13 (17)), y4, y5, some (.inl (u6)), some (.inl (u7)), some (.inl (u8)), some (.inl (u9)), some (.inl (u10)), some (.inl (u11)), some (.inl (u12)), some (.inl (u13)), some (.inl (t0)), some (.inl (v1)), y16, y17, y18] [.inl (u9), .inl (u8), .inl (u7), .inl (u6), .inl (Int32.ofInt 2), rf 11 (0)] τ (w, σ') := h
    replace h := ei_p h rfl rfl rfl rfl
    obtain ⟨f, g, h⟩ := h
    clear g
    replace h : EV F f 184 z184 182 [some (rf 11 (0)), some (rf 13 (14)), some (rf 13 (15)), some (rf 13 (17)), y4, y5, some (.inl (u6)), some (.inl (u7)), some (.inl (u8)), some (.inl (u9)), some (.inl (u10)), some (.inl (u11)), some (.inl (u12)), some (.inl (u13)), some (.inl (t0)), some (.inl (v1)), y16, y17, y18] [.inl (u10), .inl (u9), .inl (u8), .inl (u7), .inl (u6), .inl (Int32.ofInt 2), rf 11 (0)] τ (w, σ') := h
    replace h := ei_p h rfl rfl rfl rfl
    obtain ⟨f, g, h⟩ := h
    clear g
    replace h : EV F f 184 z184 184 [some (rf 11 (0)), some (rf 13 (14)), some (rf 13 (15)), some (rf 13 (17)), y4, y5, some (.inl (u6)), some (.inl (u7)), some (.inl (u8)), some (.inl (u9)), some (.inl (u10)), some (.inl (u11)), some (.inl (u12)), some (.inl (u13)), some (.inl (t0)), some (.inl (v1)), y16, y17, y18] [.inl (u11), .inl (u10), .inl (u9), .inl (u8), .inl (u7), .inl (u6), .inl (Int32.ofInt 2), rf 11 (0)] τ (w, σ') := h
    replace h := ei_p h rfl rfl rfl rfl
    obtain ⟨f, g, h⟩ := h
    clear g
    replace h : EV F f 184 z184 186 [some (rf 11 (0)), some (rf 13 (14)), some (rf 13 (15)), some (rf 13 (17)), y4, y5, some (.inl (u6)), some (.inl (u7)), some (.inl (u8)), some (.inl (u9)), some (.inl (u10)), some (.inl (u11)), some (.inl (u12)), some (.inl (u13)), some (.inl (t0)), some (.inl (v1)), y16, y17, y18] [.inl (u12), .inl (u11), .inl (u10), .inl (u9), .inl (u8), .inl (u7), .inl (u6), .inl (Int32.ofInt 2), rf 11 (0)] τ (w, σ') := h
    replace h := bx_L (ei_s (as := [.inl (u12), .inl (u11), .inl (u10), .inl (u9), .inl (u8), .inl (u7), .inl (u6), .inl (Int32.ofInt 2), rf 11 (0)]) h rfl (Nat.le_of_ble_eq_true rfl) rfl rfl) z172_at rfl
    rcases h with ⟨v5, σ6, r7, f, g, h⟩ | ⟨b, σ6, r7, e⟩
    rotate_left
    · exact (nt172 (x172 hsτ r7)).elim
    clear g
    have p8 := x172 hsτ r7
    have hsσ6 : HL σ6 := hl172 p8
    refine ⟨v5, σ6, gF_r r7 rfl hsτ, hsσ6, p8, ?_⟩
    replace h : EV F f 184 z184 189 [some (rf 11 (0)), some (rf 13 (14)), some (rf 13 (15)), some (rf 13 (17)), y4, y5, some (.inl (u6)), some (.inl (u7)), some (.inl (u8)), some (.inl (u9)), some (.inl (u10)), some (.inl (u11)), some (.inl (u12)), some (.inl (u13)), some (.inl (t0)), some (.inl (v1)), y16, y17, y18] [.inr (.inl (v5))] σ6 (w, σ') := h
    replace h := ei_p h rfl rfl rfl rfl
    obtain ⟨f, g, h⟩ := h
    clear g
    replace h : EV F f 184 z184 191 [some (rf 11 (0)), some (rf 13 (14)), some (rf 13 (15)), some (rf 13 (17)), y4, y5, some (.inl (u6)), some (.inl (u7)), some (.inl (u8)), some (.inl (u9)), some (.inl (u10)), some (.inl (u11)), some (.inl (u12)), some (.inl (u13)), some (.inl (t0)), some (.inl (v1)), some (.inr (.inl (v5))), none, y18] [] σ6 (w, σ') := h
    replace h := ei_p h rfl rfl rfl rfl
    obtain ⟨f, g, h⟩ := h
    clear g
    replace h : EV F f 184 z184 193 [some (rf 11 (0)), some (rf 13 (14)), some (rf 13 (15)), some (rf 13 (17)), y4, y5, some (.inl (u6)), some (.inl (u7)), some (.inl (u8)), some (.inl (u9)), some (.inl (u10)), some (.inl (u11)), some (.inl (u12)), some (.inl (u13)), some (.inl (t0)), some (.inl (v1)), some (.inr (.inl (v5))), none, y18] [.inl (u7)] σ6 (w, σ') := h
    replace h := ei_p h rfl rfl rfl rfl
    obtain ⟨f, g, h⟩ := h
    clear g
    replace h : EV F f 184 z184 194 [some (rf 11 (0)), some (rf 13 (14)), some (rf 13 (15)), some (rf 13 (17)), y4, y5, some (.inl (u6)), some (.inl (u7)), some (.inl (u8)), some (.inl (u9)), some (.inl (u10)), some (.inl (u11)), some (.inl (u12)), some (.inl (u13)), some (.inl (t0)), some (.inl (v1)), some (.inr (.inl (v5))), none, y18] [.inl (Int32.ofInt 3), .inl (u7)] σ6 (w, σ') := h
    replace h := ei_c h rfl rfl rfl
    rcases h with ⟨hp9, f, g, h⟩ | ⟨hp9, f, g, h⟩
    · skip
      replace hp9 : (u7).toInt = (3 : Int) := ic_eq.mp hp9
      refine Or.inl ⟨hp9, ?_⟩
      clear g
      replace h : EV F f 184 z184 202 [some (rf 11 (0)), some (rf 13 (14)), some (rf 13 (15)), some (rf 13 (17)), y4, y5, some (.inl (u6)), some (.inl (u7)), some (.inl (u8)), some (.inl (u9)), some (.inl (u10)), some (.inl (u11)), some (.inl (u12)), some (.inl (u13)), some (.inl (t0)), some (.inl (v1)), some (.inr (.inl (v5))), none, y18] [] σ6 (w, σ') := h
      exact j184_202 hsσ6 h
    · skip
      replace hp9 : ¬ ((u7).toInt = (3 : Int)) := (not_congr ic_eq).mp hp9
      refine Or.inr ⟨hp9, ?_⟩
      clear g
      replace h : EV F f 184 z184 197 [some (rf 11 (0)), some (rf 13 (14)), some (rf 13 (15)), some (rf 13 (17)), y4, y5, some (.inl (u6)), some (.inl (u7)), some (.inl (u8)), some (.inl (u9)), some (.inl (u10)), some (.inl (u11)), some (.inl (u12)), some (.inl (u13)), some (.inl (t0)), some (.inl (v1)), some (.inr (.inl (v5))), none, y18] [] σ6 (w, σ') := h
      replace h := ei_p h rfl rfl rfl rfl
      obtain ⟨f, g, h⟩ := h
      clear g
      replace h : EV F f 184 z184 199 [some (rf 11 (0)), some (rf 13 (14)), some (rf 13 (15)), some (rf 13 (17)), y4, y5, some (.inl (u6)), some (.inl (u7)), some (.inl (u8)), some (.inl (u9)), some (.inl (u10)), some (.inl (u11)), some (.inl (u12)), some (.inl (u13)), some (.inl (t0)), some (.inl (v1)), some (.inr (.inl (v5))), none, y18] [.inl (t0)] σ6 (w, σ') := h
      replace h := ei_c h rfl rfl rfl
      rcases h with ⟨hp10, f, g, h⟩ | ⟨hp10, f, g, h⟩
      · skip
        replace hp10 : (t0).toInt ≠ (0 : Int) := ic_ne.mp hp10
        refine Or.inl ⟨hp10, ?_⟩
        clear g
        replace h : EV F f 184 z184 229 [some (rf 11 (0)), some (rf 13 (14)), some (rf 13 (15)), some (rf 13 (17)), y4, y5, some (.inl (u6)), some (.inl (u7)), some (.inl (u8)), some (.inl (u9)), some (.inl (u10)), some (.inl (u11)), some (.inl (u12)), some (.inl (u13)), some (.inl (t0)), some (.inl (v1)), some (.inr (.inl (v5))), none, y18] [] σ6 (w, σ') := h
        replace h := ei_p h rfl rfl rfl rfl
        obtain ⟨f, g, h⟩ := h
        clear g
        replace h : EV F f 184 z184 231 [some (rf 11 (0)), some (rf 13 (14)), some (rf 13 (15)), some (rf 13 (17)), y4, y5, some (.inl (u6)), some (.inl (u7)), some (.inl (u8)), some (.inl (u9)), some (.inl (u10)), some (.inl (u11)), some (.inl (u12)), some (.inl (u13)), some (.inl (t0)), some (.inl (v1)), some (.inr (.inl (v5))), none, y18] [.inl (v1)] σ6 (w, σ') := h
        replace h := ei_c h rfl rfl rfl
        rcases h with ⟨hp11, f, g, h⟩ | ⟨hp11, f, g, h⟩
        · skip
          replace hp11 : (v1).toInt ≠ (0 : Int) := ic_ne.mp hp11
          refine Or.inl ⟨hp11, ?_⟩
          clear g
          replace h : EV F f 184 z184 251 [some (rf 11 (0)), some (rf 13 (14)), some (rf 13 (15)), some (rf 13 (17)), y4, y5, some (.inl (u6)), some (.inl (u7)), some (.inl (u8)), some (.inl (u9)), some (.inl (u10)), some (.inl (u11)), some (.inl (u12)), some (.inl (u13)), some (.inl (t0)), some (.inl (v1)), some (.inr (.inl (v5))), none, y18] [] σ6 (w, σ') := h
          exact j184_251 hsσ6 h
        · skip
          replace hp11 : ¬ ((v1).toInt ≠ (0 : Int)) := (not_congr ic_ne).mp hp11
          refine Or.inr ⟨hp11, ?_⟩
          clear g
          replace h : EV F f 184 z184 234 [some (rf 11 (0)), some (rf 13 (14)), some (rf 13 (15)), some (rf 13 (17)), y4, y5, some (.inl (u6)), some (.inl (u7)), some (.inl (u8)), some (.inl (u9)), some (.inl (u10)), some (.inl (u11)), some (.inl (u12)), some (.inl (u13)), some (.inl (t0)), some (.inl (v1)), some (.inr (.inl (v5))), none, y18] [] σ6 (w, σ') := h
          replace h := ei_p h rfl rfl rfl rfl
          obtain ⟨f, g, h⟩ := h
          clear g
          replace h : EV F f 184 z184 236 [some (rf 11 (0)), some (rf 13 (14)), some (rf 13 (15)), some (rf 13 (17)), y4, y5, some (.inl (u6)), some (.inl (u7)), some (.inl (u8)), some (.inl (u9)), some (.inl (u10)), some (.inl (u11)), some (.inl (u12)), some (.inl (u13)), some (.inl (t0)), some (.inl (v1)), some (.inr (.inl (v5))), none, y18] [.inl (u13)] σ6 (w, σ') := h
          replace h := ei_c h rfl rfl rfl
          rcases h with ⟨hp12, f, g, h⟩ | ⟨hp12, f, g, h⟩
          · skip
            replace hp12 : (u13).toInt = (0 : Int) := ic_eq.mp hp12
            refine Or.inl ⟨hp12, ?_⟩
            clear g
            replace h : EV F f 184 z184 266 [some (rf 11 (0)), some (rf 13 (14)), some (rf 13 (15)), some (rf 13 (17)), y4, y5, some (.inl (u6)), some (.inl (u7)), some (.inl (u8)), some (.inl (u9)), some (.inl (u10)), some (.inl (u11)), some (.inl (u12)), some (.inl (u13)), some (.inl (t0)), some (.inl (v1)), some (.inr (.inl (v5))), none, y18] [] σ6 (w, σ') := h
            exact j184_266 hsσ6 h
          · skip
            replace hp12 : ¬ ((u13).toInt = (0 : Int)) := (not_congr ic_eq).mp hp12
            refine Or.inr ⟨hp12, ?_⟩
            clear g
            replace h : EV F f 184 z184 239 [some (rf 11 (0)), some (rf 13 (14)), some (rf 13 (15)), some (rf 13 (17)), y4, y5, some (.inl (u6)), some (.inl (u7)), some (.inl (u8)), some (.inl (u9)), some (.inl (u10)), some (.inl (u11)), some (.inl (u12)), some (.inl (u13)), some (.inl (t0)), some (.inl (v1)), some (.inr (.inl (v5))), none, y18] [] σ6 (w, σ') := h
            replace h := ei_p h rfl rfl rfl rfl
            obtain ⟨f, g, h⟩ := h
            clear g
            replace h : EV F f 184 z184 241 [some (rf 11 (0)), some (rf 13 (14)), some (rf 13 (15)), some (rf 13 (17)), y4, y5, some (.inl (u6)), some (.inl (u7)), some (.inl (u8)), some (.inl (u9)), some (.inl (u10)), some (.inl (u11)), some (.inl (u12)), some (.inl (u13)), some (.inl (t0)), some (.inl (v1)), some (.inr (.inl (v5))), none, y18] [.inl (u12)] σ6 (w, σ') := h
            replace h := ei_p h rfl rfl rfl rfl
            obtain ⟨f, g, h⟩ := h
            clear g
            replace h : EV F f 184 z184 242 [some (rf 11 (0)), some (rf 13 (14)), some (rf 13 (15)), some (rf 13 (17)), y4, y5, some (.inl (u6)), some (.inl (u7)), some (.inl (u8)), some (.inl (u9)), some (.inl (u10)), some (.inl (u11)), some (.inl (u12)), some (.inl (u13)), some (.inl (t0)), some (.inl (v1)), some (.inr (.inl (v5))), none, y18] [.inl (Int32.ofInt 1), .inl (u12)] σ6 (w, σ') := h
            replace h := ei_c h rfl rfl rfl
            rcases h with ⟨hp13, f, g, h⟩ | ⟨hp13, f, g, h⟩
            · skip
              replace hp13 : (u12).toInt = (1 : Int) := ic_eq.mp hp13
              refine Or.inl ⟨hp13, ?_⟩
              clear g
              replace h : EV F f 184 z184 251 [some (rf 11 (0)), some (rf 13 (14)), some (rf 13 (15)), some (rf 13 (17)), y4, y5, some (.inl (u6)), some (.inl (u7)), some (.inl (u8)), some (.inl (u9)), some (.inl (u10)), some (.inl (u11)), some (.inl (u12)), some (.inl (u13)), some (.inl (t0)), some (.inl (v1)), some (.inr (.inl (v5))), none, y18] [] σ6 (w, σ') := h
              exact j184_251 hsσ6 h
            · skip
              replace hp13 : ¬ ((u12).toInt = (1 : Int)) := (not_congr ic_eq).mp hp13
              refine Or.inr ⟨hp13, ?_⟩
              clear g
              replace h : EV F f 184 z184 245 [some (rf 11 (0)), some (rf 13 (14)), some (rf 13 (15)), some (rf 13 (17)), y4, y5, some (.inl (u6)), some (.inl (u7)), some (.inl (u8)), some (.inl (u9)), some (.inl (u10)), some (.inl (u11)), some (.inl (u12)), some (.inl (u13)), some (.inl (t0)), some (.inl (v1)), some (.inr (.inl (v5))), none, y18] [] σ6 (w, σ') := h
              replace h := ei_p h rfl rfl rfl rfl
              obtain ⟨f, g, h⟩ := h
              clear g
              replace h : EV F f 184 z184 247 [some (rf 11 (0)), some (rf 13 (14)), some (rf 13 (15)), some (rf 13 (17)), y4, y5, some (.inl (u6)), some (.inl (u7)), some (.inl (u8)), some (.inl (u9)), some (.inl (u10)), some (.inl (u11)), some (.inl (u12)), some (.inl (u13)), some (.inl (t0)), some (.inl (v1)), some (.inr (.inl (v5))), none, y18] [.inl (u12)] σ6 (w, σ') := h
              replace h := ei_p h rfl rfl rfl rfl
              obtain ⟨f, g, h⟩ := h
              clear g
              replace h : EV F f 184 z184 248 [some (rf 11 (0)), some (rf 13 (14)), some (rf 13 (15)), some (rf 13 (17)), y4, y5, some (.inl (u6)), some (.inl (u7)), some (.inl (u8)), some (.inl (u9)), some (.inl (u10)), some (.inl (u11)), some (.inl (u12)), some (.inl (u13)), some (.inl (t0)), some (.inl (v1)), some (.inr (.inl (v5))), none, y18] [.inl (Int32.ofInt 2), .inl (u12)] σ6 (w, σ') := h
              replace h := ei_c h rfl rfl rfl
              rcases h with ⟨hp14, f, g, h⟩ | ⟨hp14, f, g, h⟩
              · skip
                replace hp14 : (u12).toInt ≠ (2 : Int) := ic_ne.mp hp14
                refine Or.inl ⟨hp14, ?_⟩
                clear g
                replace h : EV F f 184 z184 266 [some (rf 11 (0)), some (rf 13 (14)), some (rf 13 (15)), some (rf 13 (17)), y4, y5, some (.inl (u6)), some (.inl (u7)), some (.inl (u8)), some (.inl (u9)), some (.inl (u10)), some (.inl (u11)), some (.inl (u12)), some (.inl (u13)), some (.inl (t0)), some (.inl (v1)), some (.inr (.inl (v5))), none, y18] [] σ6 (w, σ') := h
                exact j184_266 hsσ6 h
              · skip
                replace hp14 : ¬ ((u12).toInt ≠ (2 : Int)) := (not_congr ic_ne).mp hp14
                refine Or.inr ⟨hp14, ?_⟩
                clear g
                replace h : EV F f 184 z184 251 [some (rf 11 (0)), some (rf 13 (14)), some (rf 13 (15)), some (rf 13 (17)), y4, y5, some (.inl (u6)), some (.inl (u7)), some (.inl (u8)), some (.inl (u9)), some (.inl (u10)), some (.inl (u11)), some (.inl (u12)), some (.inl (u13)), some (.inl (t0)), some (.inl (v1)), some (.inr (.inl (v5))), none, y18] [] σ6 (w, σ') := h
                exact j184_251 hsσ6 h
      · skip
        replace hp10 : ¬ ((t0).toInt ≠ (0 : Int)) := (not_congr ic_ne).mp hp10
        refine Or.inr ⟨hp10, ?_⟩
        clear g
        replace h : EV F f 184 z184 202 [some (rf 11 (0)), some (rf 13 (14)), some (rf 13 (15)), some (rf 13 (17)), y4, y5, some (.inl (u6)), some (.inl (u7)), some (.inl (u8)), some (.inl (u9)), some (.inl (u10)), some (.inl (u11)), some (.inl (u12)), some (.inl (u13)), some (.inl (t0)), some (.inl (v1)), some (.inr (.inl (v5))), none, y18] [] σ6 (w, σ') := h
        exact j184_202 hsσ6 h
  · skip
    have er3 := ro2_run rfl r3
    rw [er3] at e r3
    have p4 := x182 hsτ r3
    cases e
    exact Or.inr ⟨b, p4, rfl, rfl⟩
def J184_145 (u6 : Int32) (u7 : Int32) (u8 : Int32) (u9 : Int32) (u10 : Int32) (u11 : Int32) (u12 : Int32) (t0 : Int32) (τ : mS) (w : mX) (σ' : mS) : Prop := (((10000 : Int) ≤ (u9).toInt ∧ J184_160 (u6) (u7) (u8) (u9) (u10) (u11) (u12) (t0) (Int32.ofInt 0) τ w σ') ∨ (¬ ((10000 : Int) ≤ (u9).toInt) ∧ J184_160 (u6) (u7) (u8) (u9) (u10) (u11) (u12) (t0) (Int32.ofInt 1) τ w σ'))
set_option maxRecDepth 100000 in
theorem j184_145 {F f : Nat} {σ' τ : mS} {u6 : Int32} {u7 : Int32} {u8 : Int32} {u9 : Int32} {u10 : Int32} {u11 : Int32} {u12 : Int32} {t0 : Int32} {y4 : Option mV} {y5 : Option mV} {y13 : Option mV} {y14 : Option mV} {y15 : Option mV} {y16 : Option mV} {y17 : Option mV} {y18 : Option mV} {w : mX} (hsτ : HL τ) (h : EV F f 184 z184 145 [some (rf 11 (0)), some (rf 13 (14)), some (rf 13 (15)), some (rf 13 (17)), y4, y5, some (.inl (u6)), some (.inl (u7)), some (.inl (u8)), some (.inl (u9)), some (.inl (u10)), some (.inl (u11)), some (.inl (u12)), y13, y14, y15, y16, y17, y18] [.inl (t0)] τ (w, σ')) : J184_145 u6 u7 u8 u9 u10 u11 u12 t0 τ w σ' := by
  unfold J184_145
  replace h := ei_p h rfl rfl rfl rfl
  obtain ⟨f, g, h⟩ := h
  clear g
  replace h : EV F f 184 z184 147 [some (rf 11 (0)), some (rf 13 (14)), some (rf 13 (15)), some (rf 13 (17)), y4, y5, some (.inl (u6)), some (.inl (u7)), some (.inl (u8)), some (.inl (u9)), some (.inl (u10)), some (.inl (u11)), some (.inl (u12)), some (.inl (t0)), y14, y15, y16, y17, y18] [] τ (w, σ') := h
  replace h := ei_p h rfl rfl rfl rfl
  obtain ⟨f, g, h⟩ := h
  clear g
  replace h : EV F f 184 z184 149 [some (rf 11 (0)), some (rf 13 (14)), some (rf 13 (15)), some (rf 13 (17)), y4, y5, some (.inl (u6)), some (.inl (u7)), some (.inl (u8)), some (.inl (u9)), some (.inl (u10)), some (.inl (u11)), some (.inl (u12)), some (.inl (t0)), y14, y15, y16, y17, y18] [.inl (u9)] τ (w, σ') := h
  replace h := ei_p h rfl rfl rfl rfl
  obtain ⟨f, g, h⟩ := h
  clear g
  replace h : EV F f 184 z184 152 [some (rf 11 (0)), some (rf 13 (14)), some (rf 13 (15)), some (rf 13 (17)), y4, y5, some (.inl (u6)), some (.inl (u7)), some (.inl (u8)), some (.inl (u9)), some (.inl (u10)), some (.inl (u11)), some (.inl (u12)), some (.inl (t0)), y14, y15, y16, y17, y18] [.inl (Int32.ofInt 10000), .inl (u9)] τ (w, σ') := h
  replace h := ei_c h rfl rfl rfl
  rcases h with ⟨hp1, f, g, h⟩ | ⟨hp1, f, g, h⟩
  · skip
    replace hp1 : (10000 : Int) ≤ (u9).toInt := ic_ge.mp hp1
    refine Or.inl ⟨hp1, ?_⟩
    clear g
    replace h : EV F f 184 z184 159 [some (rf 11 (0)), some (rf 13 (14)), some (rf 13 (15)), some (rf 13 (17)), y4, y5, some (.inl (u6)), some (.inl (u7)), some (.inl (u8)), some (.inl (u9)), some (.inl (u10)), some (.inl (u11)), some (.inl (u12)), some (.inl (t0)), y14, y15, y16, y17, y18] [] τ (w, σ') := h
    replace h := ei_p h rfl rfl rfl rfl
    obtain ⟨f, g, h⟩ := h
    clear g
    replace h : EV F f 184 z184 160 [some (rf 11 (0)), some (rf 13 (14)), some (rf 13 (15)), some (rf 13 (17)), y4, y5, some (.inl (u6)), some (.inl (u7)), some (.inl (u8)), some (.inl (u9)), some (.inl (u10)), some (.inl (u11)), some (.inl (u12)), some (.inl (t0)), y14, y15, y16, y17, y18] [.inl (Int32.ofInt 0)] τ (w, σ') := h
    exact j184_160 hsτ h
  · skip
    replace hp1 : ¬ ((10000 : Int) ≤ (u9).toInt) := (not_congr ic_ge).mp hp1
    refine Or.inr ⟨hp1, ?_⟩
    clear g
    replace h : EV F f 184 z184 155 [some (rf 11 (0)), some (rf 13 (14)), some (rf 13 (15)), some (rf 13 (17)), y4, y5, some (.inl (u6)), some (.inl (u7)), some (.inl (u8)), some (.inl (u9)), some (.inl (u10)), some (.inl (u11)), some (.inl (u12)), some (.inl (t0)), y14, y15, y16, y17, y18] [] τ (w, σ') := h
    replace h := ei_p h rfl rfl rfl rfl
    obtain ⟨f, g, h⟩ := h
    clear g
    replace h : EV F f 184 z184 156 [some (rf 11 (0)), some (rf 13 (14)), some (rf 13 (15)), some (rf 13 (17)), y4, y5, some (.inl (u6)), some (.inl (u7)), some (.inl (u8)), some (.inl (u9)), some (.inl (u10)), some (.inl (u11)), some (.inl (u12)), some (.inl (t0)), y14, y15, y16, y17, y18] [.inl (Int32.ofInt 1)] τ (w, σ') := h
    replace h := ei_p h rfl rfl rfl rfl
    obtain ⟨f, g, h⟩ := h
    clear g
    replace h : EV F f 184 z184 160 [some (rf 11 (0)), some (rf 13 (14)), some (rf 13 (15)), some (rf 13 (17)), y4, y5, some (.inl (u6)), some (.inl (u7)), some (.inl (u8)), some (.inl (u9)), some (.inl (u10)), some (.inl (u11)), some (.inl (u12)), some (.inl (t0)), y14, y15, y16, y17, y18] [.inl (Int32.ofInt 1)] τ (w, σ') := h
    exact j184_160 hsτ h
def J184_144 (u6 : Int32) (u7 : Int32) (u8 : Int32) (u9 : Int32) (u10 : Int32) (u11 : Int32) (u12 : Int32) (τ : mS) (w : mX) (σ' : mS) : Prop := J184_145 (u6) (u7) (u8) (u9) (u10) (u11) (u12) (Int32.ofInt 0) τ w σ'
set_option maxRecDepth 100000 in
theorem j184_144 {F f : Nat} {σ' τ : mS} {u6 : Int32} {u7 : Int32} {u8 : Int32} {u9 : Int32} {u10 : Int32} {u11 : Int32} {u12 : Int32} {y4 : Option mV} {y5 : Option mV} {y13 : Option mV} {y14 : Option mV} {y15 : Option mV} {y16 : Option mV} {y17 : Option mV} {y18 : Option mV} {w : mX} (hsτ : HL τ) (h : EV F f 184 z184 144 [some (rf 11 (0)), some (rf 13 (14)), some (rf 13 (15)), some (rf 13 (17)), y4, y5, some (.inl (u6)), some (.inl (u7)), some (.inl (u8)), some (.inl (u9)), some (.inl (u10)), some (.inl (u11)), some (.inl (u12)), y13, y14, y15, y16, y17, y18] [] τ (w, σ')) : J184_144 u6 u7 u8 u9 u10 u11 u12 τ w σ' := by
  unfold J184_144
  replace h := ei_p h rfl rfl rfl rfl
  obtain ⟨f, g, h⟩ := h
  clear g
  replace h : EV F f 184 z184 145 [some (rf 11 (0)), some (rf 13 (14)), some (rf 13 (15)), some (rf 13 (17)), y4, y5, some (.inl (u6)), some (.inl (u7)), some (.inl (u8)), some (.inl (u9)), some (.inl (u10)), some (.inl (u11)), some (.inl (u12)), y13, y14, y15, y16, y17, y18] [.inl (Int32.ofInt 0)] τ (w, σ') := h
  exact j184_145 hsτ h
def J184_109 (u6 : Int32) (u7 : Int32) (u8 : Int32) (u9 : Int32) (u10 : Int32) (u11 : Int32) (t0 : Int32) (τ : mS) (w : mX) (σ' : mS) : Prop := (0 ≤ (0 : Int) ∧ (0 : Int) < (τ.2.1 13 (17) : Int)) ∧ (((m_i τ 13 (17) (Int32.ofInt 0).toNatClampNeg).toInt < (60 : Int) ∧ (((3 : Int) ≤ (u7).toInt ∧ J184_144 (u6) (u7) (u8) (u9) (u10) (u11) (t0) τ w σ') ∨ (¬ ((3 : Int) ≤ (u7).toInt) ∧ ((∃ v4, P140 τ (u7) (.inl (some (.inl v4))) τ ∧ ((((v4) - (v4) / (Int32.ofInt 10) * (Int32.ofInt 10)).toInt ≠ (1 : Int) ∧ J184_144 (u6) (u7) (u8) (u9) (u10) (u11) (t0) τ w σ') ∨ (¬ (((v4) - (v4) / (Int32.ofInt 10) * (Int32.ofInt 10)).toInt ≠ (1 : Int)) ∧ J184_145 (u6) (u7) (u8) (u9) (u10) (u11) (t0) (Int32.ofInt 1) τ w σ'))) ∨ (∃ b, P140 τ (u7) (.inr b) τ ∧ w = .inr b ∧ σ' = τ))))) ∨ (¬ ((m_i τ 13 (17) (Int32.ofInt 0).toNatClampNeg).toInt < (60 : Int)) ∧ w = .inl (some (.inl (Int32.ofInt 1))) ∧ σ' = τ))
set_option maxRecDepth 100000 in
theorem j184_109 {F f : Nat} {σ' τ : mS} {u6 : Int32} {u7 : Int32} {u8 : Int32} {u9 : Int32} {u10 : Int32} {u11 : Int32} {t0 : Int32} {y4 : Option mV} {y5 : Option mV} {y12 : Option mV} {y13 : Option mV} {y14 : Option mV} {y15 : Option mV} {y16 : Option mV} {y17 : Option mV} {y18 : Option mV} {w : mX} (hsτ : HL τ) (h : EV F f 184 z184 109 [some (rf 11 (0)), some (rf 13 (14)), some (rf 13 (15)), some (rf 13 (17)), y4, y5, some (.inl (u6)), some (.inl (u7)), some (.inl (u8)), some (.inl (u9)), some (.inl (u10)), some (.inl (u11)), y12, y13, y14, y15, y16, y17, y18] [.inl (t0)] τ (w, σ')) : J184_109 u6 u7 u8 u9 u10 u11 t0 τ w σ' := by
  unfold J184_109
  replace h := ei_p h rfl rfl rfl rfl
  obtain ⟨f, g, h⟩ := h
  clear g
  replace h : EV F f 184 z184 111 [some (rf 11 (0)), some (rf 13 (14)), some (rf 13 (15)), some (rf 13 (17)), y4, y5, some (.inl (u6)), some (.inl (u7)), some (.inl (u8)), some (.inl (u9)), some (.inl (u10)), some (.inl (u11)), some (.inl (t0)), y13, y14, y15, y16, y17, y18] [] τ (w, σ') := h
  replace h := ei_p h rfl rfl rfl rfl
  obtain ⟨f, g, h⟩ := h
  clear g
  replace h : EV F f 184 z184 112 [some (rf 11 (0)), some (rf 13 (14)), some (rf 13 (15)), some (rf 13 (17)), y4, y5, some (.inl (u6)), some (.inl (u7)), some (.inl (u8)), some (.inl (u9)), some (.inl (u10)), some (.inl (u11)), some (.inl (t0)), y13, y14, y15, y16, y17, y18] [rf 13 (17)] τ (w, σ') := h
  replace h := ei_p h rfl rfl rfl rfl
  obtain ⟨f, g, h⟩ := h
  clear g
  replace h : EV F f 184 z184 113 [some (rf 11 (0)), some (rf 13 (14)), some (rf 13 (15)), some (rf 13 (17)), y4, y5, some (.inl (u6)), some (.inl (u7)), some (.inl (u8)), some (.inl (u9)), some (.inl (u10)), some (.inl (u11)), some (.inl (t0)), y13, y14, y15, y16, y17, y18] [.inl (Int32.ofInt 0), rf 13 (17)] τ (w, σ') := h
  replace h := ei_iald h rfl (fun _ => rfl)
  obtain ⟨vp1, f, g, h⟩ := h
  clear g
  replace h : EV F f 184 z184 114 [some (rf 11 (0)), some (rf 13 (14)), some (rf 13 (15)), some (rf 13 (17)), y4, y5, some (.inl (u6)), some (.inl (u7)), some (.inl (u8)), some (.inl (u9)), some (.inl (u10)), some (.inl (u11)), some (.inl (t0)), y13, y14, y15, y16, y17, y18] [.inl (m_i τ 13 (17) (Int32.ofInt 0).toNatClampNeg)] τ (w, σ') := h
  refine ⟨vp_2 vp1, ?_⟩
  replace h := ei_p h rfl rfl rfl rfl
  obtain ⟨f, g, h⟩ := h
  clear g
  replace h : EV F f 184 z184 116 [some (rf 11 (0)), some (rf 13 (14)), some (rf 13 (15)), some (rf 13 (17)), y4, y5, some (.inl (u6)), some (.inl (u7)), some (.inl (u8)), some (.inl (u9)), some (.inl (u10)), some (.inl (u11)), some (.inl (t0)), y13, y14, y15, y16, y17, y18] [.inl (Int32.ofInt 60), .inl (m_i τ 13 (17) (Int32.ofInt 0).toNatClampNeg)] τ (w, σ') := h
  replace h := ei_c h rfl rfl rfl
  rcases h with ⟨hp2, f, g, h⟩ | ⟨hp2, f, g, h⟩
  · skip
    replace hp2 : (m_i τ 13 (17) (Int32.ofInt 0).toNatClampNeg).toInt < (60 : Int) := ic_lt.mp hp2
    refine Or.inl ⟨hp2, ?_⟩
    clear g
    replace h : EV F f 184 z184 121 [some (rf 11 (0)), some (rf 13 (14)), some (rf 13 (15)), some (rf 13 (17)), y4, y5, some (.inl (u6)), some (.inl (u7)), some (.inl (u8)), some (.inl (u9)), some (.inl (u10)), some (.inl (u11)), some (.inl (t0)), y13, y14, y15, y16, y17, y18] [] τ (w, σ') := h
    replace h := ei_p h rfl rfl rfl rfl
    obtain ⟨f, g, h⟩ := h
    clear g
    replace h : EV F f 184 z184 123 [some (rf 11 (0)), some (rf 13 (14)), some (rf 13 (15)), some (rf 13 (17)), y4, y5, some (.inl (u6)), some (.inl (u7)), some (.inl (u8)), some (.inl (u9)), some (.inl (u10)), some (.inl (u11)), some (.inl (t0)), y13, y14, y15, y16, y17, y18] [.inl (u7)] τ (w, σ') := h
    replace h := ei_p h rfl rfl rfl rfl
    obtain ⟨f, g, h⟩ := h
    clear g
    replace h : EV F f 184 z184 124 [some (rf 11 (0)), some (rf 13 (14)), some (rf 13 (15)), some (rf 13 (17)), y4, y5, some (.inl (u6)), some (.inl (u7)), some (.inl (u8)), some (.inl (u9)), some (.inl (u10)), some (.inl (u11)), some (.inl (t0)), y13, y14, y15, y16, y17, y18] [.inl (Int32.ofInt 3), .inl (u7)] τ (w, σ') := h
    replace h := ei_c h rfl rfl rfl
    rcases h with ⟨hp3, f, g, h⟩ | ⟨hp3, f, g, h⟩
    · skip
      replace hp3 : (3 : Int) ≤ (u7).toInt := ic_ge.mp hp3
      refine Or.inl ⟨hp3, ?_⟩
      clear g
      replace h : EV F f 184 z184 144 [some (rf 11 (0)), some (rf 13 (14)), some (rf 13 (15)), some (rf 13 (17)), y4, y5, some (.inl (u6)), some (.inl (u7)), some (.inl (u8)), some (.inl (u9)), some (.inl (u10)), some (.inl (u11)), some (.inl (t0)), y13, y14, y15, y16, y17, y18] [] τ (w, σ') := h
      exact j184_144 hsτ h
    · skip
      replace hp3 : ¬ ((3 : Int) ≤ (u7).toInt) := (not_congr ic_ge).mp hp3
      refine Or.inr ⟨hp3, ?_⟩
      clear g
      replace h : EV F f 184 z184 127 [some (rf 11 (0)), some (rf 13 (14)), some (rf 13 (15)), some (rf 13 (17)), y4, y5, some (.inl (u6)), some (.inl (u7)), some (.inl (u8)), some (.inl (u9)), some (.inl (u10)), some (.inl (u11)), some (.inl (t0)), y13, y14, y15, y16, y17, y18] [] τ (w, σ') := h
      replace h := ei_p h rfl rfl rfl rfl
      obtain ⟨f, g, h⟩ := h
      clear g
      replace h : EV F f 184 z184 128 [some (rf 11 (0)), some (rf 13 (14)), some (rf 13 (15)), some (rf 13 (17)), y4, y5, some (.inl (u6)), some (.inl (u7)), some (.inl (u8)), some (.inl (u9)), some (.inl (u10)), some (.inl (u11)), some (.inl (t0)), y13, y14, y15, y16, y17, y18] [rf 11 (0)] τ (w, σ') := h
      replace h := ei_p h rfl rfl rfl rfl
      obtain ⟨f, g, h⟩ := h
      clear g
      replace h : EV F f 184 z184 130 [some (rf 11 (0)), some (rf 13 (14)), some (rf 13 (15)), some (rf 13 (17)), y4, y5, some (.inl (u6)), some (.inl (u7)), some (.inl (u8)), some (.inl (u9)), some (.inl (u10)), some (.inl (u11)), some (.inl (t0)), y13, y14, y15, y16, y17, y18] [.inl (u7), rf 11 (0)] τ (w, σ') := h
      replace h := bx_I (ei_v (as := [.inl (u7)]) h rfl rfl rfl) z140_at (Or.inl rfl)
      rcases h with ⟨v4, σ5, r6, f, g, h⟩ | ⟨b, σ5, r6, e⟩
      · skip
        have er6 := ro2_run rfl r6
        rw [er6] at h r6
        clear g
        have p7 := x140 hsτ.1 r6
        refine Or.inl ⟨v4, p7, ?_⟩
        replace h : EV F f 184 z184 133 [some (rf 11 (0)), some (rf 13 (14)), some (rf 13 (15)), some (rf 13 (17)), y4, y5, some (.inl (u6)), some (.inl (u7)), some (.inl (u8)), some (.inl (u9)), some (.inl (u10)), some (.inl (u11)), some (.inl (t0)), y13, y14, y15, y16, y17, y18] [.inl (v4)] τ (w, σ') := h
        replace h := ei_p h rfl rfl rfl rfl
        obtain ⟨f, g, h⟩ := h
        clear g
        replace h : EV F f 184 z184 135 [some (rf 11 (0)), some (rf 13 (14)), some (rf 13 (15)), some (rf 13 (17)), y4, y5, some (.inl (u6)), some (.inl (u7)), some (.inl (u8)), some (.inl (u9)), some (.inl (u10)), some (.inl (u11)), some (.inl (t0)), y13, y14, y15, y16, y17, y18] [.inl (Int32.ofInt 10), .inl (v4)] τ (w, σ') := h
        replace h := ei_irem h rfl
        obtain ⟨hd8, f, g, h⟩ := h
        clear g
        replace h : EV F f 184 z184 136 [some (rf 11 (0)), some (rf 13 (14)), some (rf 13 (15)), some (rf 13 (17)), y4, y5, some (.inl (u6)), some (.inl (u7)), some (.inl (u8)), some (.inl (u9)), some (.inl (u10)), some (.inl (u11)), some (.inl (t0)), y13, y14, y15, y16, y17, y18] [.inl ((v4) - (v4) / (Int32.ofInt 10) * (Int32.ofInt 10))] τ (w, σ') := h
        replace h := ei_p h rfl rfl rfl rfl
        obtain ⟨f, g, h⟩ := h
        clear g
        replace h : EV F f 184 z184 137 [some (rf 11 (0)), some (rf 13 (14)), some (rf 13 (15)), some (rf 13 (17)), y4, y5, some (.inl (u6)), some (.inl (u7)), some (.inl (u8)), some (.inl (u9)), some (.inl (u10)), some (.inl (u11)), some (.inl (t0)), y13, y14, y15, y16, y17, y18] [.inl (Int32.ofInt 1), .inl ((v4) - (v4) / (Int32.ofInt 10) * (Int32.ofInt 10))] τ (w, σ') := h
        replace h := ei_c h rfl rfl rfl
        rcases h with ⟨hp9, f, g, h⟩ | ⟨hp9, f, g, h⟩
        · skip
          replace hp9 : ((v4) - (v4) / (Int32.ofInt 10) * (Int32.ofInt 10)).toInt ≠ (1 : Int) := ic_ne.mp hp9
          refine Or.inl ⟨hp9, ?_⟩
          clear g
          replace h : EV F f 184 z184 144 [some (rf 11 (0)), some (rf 13 (14)), some (rf 13 (15)), some (rf 13 (17)), y4, y5, some (.inl (u6)), some (.inl (u7)), some (.inl (u8)), some (.inl (u9)), some (.inl (u10)), some (.inl (u11)), some (.inl (t0)), y13, y14, y15, y16, y17, y18] [] τ (w, σ') := h
          exact j184_144 hsτ h
        · skip
          replace hp9 : ¬ (((v4) - (v4) / (Int32.ofInt 10) * (Int32.ofInt 10)).toInt ≠ (1 : Int)) := (not_congr ic_ne).mp hp9
          refine Or.inr ⟨hp9, ?_⟩
          clear g
          replace h : EV F f 184 z184 140 [some (rf 11 (0)), some (rf 13 (14)), some (rf 13 (15)), some (rf 13 (17)), y4, y5, some (.inl (u6)), some (.inl (u7)), some (.inl (u8)), some (.inl (u9)), some (.inl (u10)), some (.inl (u11)), some (.inl (t0)), y13, y14, y15, y16, y17, y18] [] τ (w, σ') := h
          replace h := ei_p h rfl rfl rfl rfl
          obtain ⟨f, g, h⟩ := h
          clear g
          replace h : EV F f 184 z184 141 [some (rf 11 (0)), some (rf 13 (14)), some (rf 13 (15)), some (rf 13 (17)), y4, y5, some (.inl (u6)), some (.inl (u7)), some (.inl (u8)), some (.inl (u9)), some (.inl (u10)), some (.inl (u11)), some (.inl (t0)), y13, y14, y15, y16, y17, y18] [.inl (Int32.ofInt 1)] τ (w, σ') := h
          replace h := ei_p h rfl rfl rfl rfl
          obtain ⟨f, g, h⟩ := h
          clear g
          replace h : EV F f 184 z184 145 [some (rf 11 (0)), some (rf 13 (14)), some (rf 13 (15)), some (rf 13 (17)), y4, y5, some (.inl (u6)), some (.inl (u7)), some (.inl (u8)), some (.inl (u9)), some (.inl (u10)), some (.inl (u11)), some (.inl (t0)), y13, y14, y15, y16, y17, y18] [.inl (Int32.ofInt 1)] τ (w, σ') := h
          exact j184_145 hsτ h
      · skip
        have er6 := ro2_run rfl r6
        rw [er6] at e r6
        have p7 := x140 hsτ.1 r6
        cases e
        exact Or.inr ⟨b, p7, rfl, rfl⟩
  · skip
    replace hp2 : ¬ ((m_i τ 13 (17) (Int32.ofInt 0).toNatClampNeg).toInt < (60 : Int)) := (not_congr ic_lt).mp hp2
    refine Or.inr ⟨hp2, ?_⟩
    clear g
    replace h : EV F f 184 z184 119 [some (rf 11 (0)), some (rf 13 (14)), some (rf 13 (15)), some (rf 13 (17)), y4, y5, some (.inl (u6)), some (.inl (u7)), some (.inl (u8)), some (.inl (u9)), some (.inl (u10)), some (.inl (u11)), some (.inl (t0)), y13, y14, y15, y16, y17, y18] [] τ (w, σ') := h
    replace h := ei_p h rfl rfl rfl rfl
    obtain ⟨f, g, h⟩ := h
    clear g
    replace h : EV F f 184 z184 120 [some (rf 11 (0)), some (rf 13 (14)), some (rf 13 (15)), some (rf 13 (17)), y4, y5, some (.inl (u6)), some (.inl (u7)), some (.inl (u8)), some (.inl (u9)), some (.inl (u10)), some (.inl (u11)), some (.inl (t0)), y13, y14, y15, y16, y17, y18] [.inl (Int32.ofInt 1)] τ (w, σ') := h
    have e := ei_iret h rfl
    cases e
    exact ⟨rfl, rfl⟩
def J184_83 (u4 : Int32) (u6 : Int32) (u7 : Int32) (u8 : Int32) (u9 : Int32) (u10 : Int32) (t0 : Int32) (τ : mS) (w : mX) (σ' : mS) : Prop := (((((u4) / (Int32.ofInt 120)) - ((u4) / (Int32.ofInt 120)) / (Int32.ofInt 7) * (Int32.ofInt 7)).toInt ≤ (3 : Int) ∧ J184_109 (u6) (u7) (u8) (u9) (u10) (t0) (((u4) / (Int32.ofInt 120)) - ((u4) / (Int32.ofInt 120)) / (Int32.ofInt 7) * (Int32.ofInt 7)) τ w σ') ∨ (¬ ((((u4) / (Int32.ofInt 120)) - ((u4) / (Int32.ofInt 120)) / (Int32.ofInt 7) * (Int32.ofInt 7)).toInt ≤ (3 : Int)) ∧ J184_109 (u6) (u7) (u8) (u9) (u10) (t0) (Int32.ofInt 0) τ w σ'))
set_option maxRecDepth 100000 in
theorem j184_83 {F f : Nat} {σ' τ : mS} {u4 : Int32} {u6 : Int32} {u7 : Int32} {u8 : Int32} {u9 : Int32} {u10 : Int32} {t0 : Int32} {y5 : Option mV} {y11 : Option mV} {y12 : Option mV} {y13 : Option mV} {y14 : Option mV} {y15 : Option mV} {y16 : Option mV} {y17 : Option mV} {y18 : Option mV} {w : mX} (hsτ : HL τ) (h : EV F f 184 z184 83 [some (rf 11 (0)), some (rf 13 (14)), some (rf 13 (15)), some (rf 13 (17)), some (.inl (u4)), y5, some (.inl (u6)), some (.inl (u7)), some (.inl (u8)), some (.inl (u9)), some (.inl (u10)), y11, y12, y13, y14, y15, y16, y17, y18] [.inl (t0)] τ (w, σ')) : J184_83 u4 u6 u7 u8 u9 u10 t0 τ w σ' := by
  unfold J184_83
  replace h := ei_p h rfl rfl rfl rfl
  obtain ⟨f, g, h⟩ := h
  clear g
  replace h : EV F f 184 z184 85 [some (rf 11 (0)), some (rf 13 (14)), some (rf 13 (15)), some (rf 13 (17)), some (.inl (u4)), y5, some (.inl (u6)), some (.inl (u7)), some (.inl (u8)), some (.inl (u9)), some (.inl (u10)), some (.inl (t0)), y12, y13, y14, y15, y16, y17, y18] [] τ (w, σ') := h
  replace h := ei_p h rfl rfl rfl rfl
  obtain ⟨f, g, h⟩ := h
  clear g
  replace h : EV F f 184 z184 87 [some (rf 11 (0)), some (rf 13 (14)), some (rf 13 (15)), some (rf 13 (17)), some (.inl (u4)), y5, some (.inl (u6)), some (.inl (u7)), some (.inl (u8)), some (.inl (u9)), some (.inl (u10)), some (.inl (t0)), y12, y13, y14, y15, y16, y17, y18] [.inl (u4)] τ (w, σ') := h
  replace h := ei_p h rfl rfl rfl rfl
  obtain ⟨f, g, h⟩ := h
  clear g
  replace h : EV F f 184 z184 89 [some (rf 11 (0)), some (rf 13 (14)), some (rf 13 (15)), some (rf 13 (17)), some (.inl (u4)), y5, some (.inl (u6)), some (.inl (u7)), some (.inl (u8)), some (.inl (u9)), some (.inl (u10)), some (.inl (t0)), y12, y13, y14, y15, y16, y17, y18] [.inl (Int32.ofInt 120), .inl (u4)] τ (w, σ') := h
  replace h := ei_idiv h rfl
  obtain ⟨hd1, f, g, h⟩ := h
  clear g
  replace h : EV F f 184 z184 90 [some (rf 11 (0)), some (rf 13 (14)), some (rf 13 (15)), some (rf 13 (17)), some (.inl (u4)), y5, some (.inl (u6)), some (.inl (u7)), some (.inl (u8)), some (.inl (u9)), some (.inl (u10)), some (.inl (t0)), y12, y13, y14, y15, y16, y17, y18] [.inl ((u4) / (Int32.ofInt 120))] τ (w, σ') := h
  replace h := ei_p h rfl rfl rfl rfl
  obtain ⟨f, g, h⟩ := h
  clear g
  replace h : EV F f 184 z184 92 [some (rf 11 (0)), some (rf 13 (14)), some (rf 13 (15)), some (rf 13 (17)), some (.inl (u4)), y5, some (.inl (u6)), some (.inl (u7)), some (.inl (u8)), some (.inl (u9)), some (.inl (u10)), some (.inl (t0)), y12, y13, y14, y15, y16, y17, y18] [.inl (Int32.ofInt 7), .inl ((u4) / (Int32.ofInt 120))] τ (w, σ') := h
  replace h := ei_irem h rfl
  obtain ⟨hd2, f, g, h⟩ := h
  clear g
  replace h : EV F f 184 z184 93 [some (rf 11 (0)), some (rf 13 (14)), some (rf 13 (15)), some (rf 13 (17)), some (.inl (u4)), y5, some (.inl (u6)), some (.inl (u7)), some (.inl (u8)), some (.inl (u9)), some (.inl (u10)), some (.inl (t0)), y12, y13, y14, y15, y16, y17, y18] [.inl (((u4) / (Int32.ofInt 120)) - ((u4) / (Int32.ofInt 120)) / (Int32.ofInt 7) * (Int32.ofInt 7))] τ (w, σ') := h
  replace h := ei_p h rfl rfl rfl rfl
  obtain ⟨f, g, h⟩ := h
  clear g
  replace h : EV F f 184 z184 94 [some (rf 11 (0)), some (rf 13 (14)), some (rf 13 (15)), some (rf 13 (17)), some (.inl (u4)), y5, some (.inl (u6)), some (.inl (u7)), some (.inl (u8)), some (.inl (u9)), some (.inl (u10)), some (.inl (t0)), y12, y13, y14, y15, y16, y17, y18] [.inl (Int32.ofInt 3), .inl (((u4) / (Int32.ofInt 120)) - ((u4) / (Int32.ofInt 120)) / (Int32.ofInt 7) * (Int32.ofInt 7))] τ (w, σ') := h
  replace h := ei_c h rfl rfl rfl
  rcases h with ⟨hp3, f, g, h⟩ | ⟨hp3, f, g, h⟩
  · skip
    replace hp3 : (((u4) / (Int32.ofInt 120)) - ((u4) / (Int32.ofInt 120)) / (Int32.ofInt 7) * (Int32.ofInt 7)).toInt ≤ (3 : Int) := ic_le.mp hp3
    refine Or.inl ⟨hp3, ?_⟩
    clear g
    replace h : EV F f 184 z184 101 [some (rf 11 (0)), some (rf 13 (14)), some (rf 13 (15)), some (rf 13 (17)), some (.inl (u4)), y5, some (.inl (u6)), some (.inl (u7)), some (.inl (u8)), some (.inl (u9)), some (.inl (u10)), some (.inl (t0)), y12, y13, y14, y15, y16, y17, y18] [] τ (w, σ') := h
    replace h := ei_p h rfl rfl rfl rfl
    obtain ⟨f, g, h⟩ := h
    clear g
    replace h : EV F f 184 z184 103 [some (rf 11 (0)), some (rf 13 (14)), some (rf 13 (15)), some (rf 13 (17)), some (.inl (u4)), y5, some (.inl (u6)), some (.inl (u7)), some (.inl (u8)), some (.inl (u9)), some (.inl (u10)), some (.inl (t0)), y12, y13, y14, y15, y16, y17, y18] [.inl (u4)] τ (w, σ') := h
    replace h := ei_p h rfl rfl rfl rfl
    obtain ⟨f, g, h⟩ := h
    clear g
    replace h : EV F f 184 z184 105 [some (rf 11 (0)), some (rf 13 (14)), some (rf 13 (15)), some (rf 13 (17)), some (.inl (u4)), y5, some (.inl (u6)), some (.inl (u7)), some (.inl (u8)), some (.inl (u9)), some (.inl (u10)), some (.inl (t0)), y12, y13, y14, y15, y16, y17, y18] [.inl (Int32.ofInt 120), .inl (u4)] τ (w, σ') := h
    replace h := ei_idiv h rfl
    obtain ⟨hd4, f, g, h⟩ := h
    clear g
    replace h : EV F f 184 z184 106 [some (rf 11 (0)), some (rf 13 (14)), some (rf 13 (15)), some (rf 13 (17)), some (.inl (u4)), y5, some (.inl (u6)), some (.inl (u7)), some (.inl (u8)), some (.inl (u9)), some (.inl (u10)), some (.inl (t0)), y12, y13, y14, y15, y16, y17, y18] [.inl ((u4) / (Int32.ofInt 120))] τ (w, σ') := h
    replace h := ei_p h rfl rfl rfl rfl
    obtain ⟨f, g, h⟩ := h
    clear g
    replace h : EV F f 184 z184 108 [some (rf 11 (0)), some (rf 13 (14)), some (rf 13 (15)), some (rf 13 (17)), some (.inl (u4)), y5, some (.inl (u6)), some (.inl (u7)), some (.inl (u8)), some (.inl (u9)), some (.inl (u10)), some (.inl (t0)), y12, y13, y14, y15, y16, y17, y18] [.inl (Int32.ofInt 7), .inl ((u4) / (Int32.ofInt 120))] τ (w, σ') := h
    replace h := ei_irem h rfl
    obtain ⟨hd5, f, g, h⟩ := h
    clear g
    replace h : EV F f 184 z184 109 [some (rf 11 (0)), some (rf 13 (14)), some (rf 13 (15)), some (rf 13 (17)), some (.inl (u4)), y5, some (.inl (u6)), some (.inl (u7)), some (.inl (u8)), some (.inl (u9)), some (.inl (u10)), some (.inl (t0)), y12, y13, y14, y15, y16, y17, y18] [.inl (((u4) / (Int32.ofInt 120)) - ((u4) / (Int32.ofInt 120)) / (Int32.ofInt 7) * (Int32.ofInt 7))] τ (w, σ') := h
    exact j184_109 hsτ h
  · skip
    replace hp3 : ¬ ((((u4) / (Int32.ofInt 120)) - ((u4) / (Int32.ofInt 120)) / (Int32.ofInt 7) * (Int32.ofInt 7)).toInt ≤ (3 : Int)) := (not_congr ic_le).mp hp3
    refine Or.inr ⟨hp3, ?_⟩
    clear g
    replace h : EV F f 184 z184 97 [some (rf 11 (0)), some (rf 13 (14)), some (rf 13 (15)), some (rf 13 (17)), some (.inl (u4)), y5, some (.inl (u6)), some (.inl (u7)), some (.inl (u8)), some (.inl (u9)), some (.inl (u10)), some (.inl (t0)), y12, y13, y14, y15, y16, y17, y18] [] τ (w, σ') := h
    replace h := ei_p h rfl rfl rfl rfl
    obtain ⟨f, g, h⟩ := h
    clear g
    replace h : EV F f 184 z184 98 [some (rf 11 (0)), some (rf 13 (14)), some (rf 13 (15)), some (rf 13 (17)), some (.inl (u4)), y5, some (.inl (u6)), some (.inl (u7)), some (.inl (u8)), some (.inl (u9)), some (.inl (u10)), some (.inl (t0)), y12, y13, y14, y15, y16, y17, y18] [.inl (Int32.ofInt 0)] τ (w, σ') := h
    replace h := ei_p h rfl rfl rfl rfl
    obtain ⟨f, g, h⟩ := h
    clear g
    replace h : EV F f 184 z184 109 [some (rf 11 (0)), some (rf 13 (14)), some (rf 13 (15)), some (rf 13 (17)), some (.inl (u4)), y5, some (.inl (u6)), some (.inl (u7)), some (.inl (u8)), some (.inl (u9)), some (.inl (u10)), some (.inl (t0)), y12, y13, y14, y15, y16, y17, y18] [.inl (Int32.ofInt 0)] τ (w, σ') := h
    exact j184_109 hsτ h
def J184_45 (u4 : Int32) (u5 : Int32) (u6 : Int32) (u7 : Int32) (u8 : Int32) (t0 : Int32) (τ : mS) (w : mX) (σ' : mS) : Prop := ∃ n3, n3 = (Int32.ofInt 1) + (((u5) / (Int32.ofInt 50)) - ((u5) / (Int32.ofInt 50)) / (Int32.ofInt 60) * (Int32.ofInt 60)) ∧ (((((u4) / (Int32.ofInt 40)) - ((u4) / (Int32.ofInt 40)) / (Int32.ofInt 3) * (Int32.ofInt 3)).toInt ≤ (0 : Int) ∧ J184_83 (u4) (u6) (u7) (u8) (t0) (n3) (((u4) / (Int32.ofInt 40)) - ((u4) / (Int32.ofInt 40)) / ((n3) + (Int32.ofInt 1)) * ((n3) + (Int32.ofInt 1))) τ w σ') ∨ (¬ ((((u4) / (Int32.ofInt 40)) - ((u4) / (Int32.ofInt 40)) / (Int32.ofInt 3) * (Int32.ofInt 3)).toInt ≤ (0 : Int)) ∧ J184_83 (u4) (u6) (u7) (u8) (t0) (n3) (Int32.ofInt 0) τ w σ'))
set_option maxRecDepth 100000 in
theorem j184_45 {F f : Nat} {σ' τ : mS} {u4 : Int32} {u5 : Int32} {u6 : Int32} {u7 : Int32} {u8 : Int32} {t0 : Int32} {y9 : Option mV} {y10 : Option mV} {y11 : Option mV} {y12 : Option mV} {y13 : Option mV} {y14 : Option mV} {y15 : Option mV} {y16 : Option mV} {y17 : Option mV} {y18 : Option mV} {w : mX} (hsτ : HL τ) (h : EV F f 184 z184 45 [some (rf 11 (0)), some (rf 13 (14)), some (rf 13 (15)), some (rf 13 (17)), some (.inl (u4)), some (.inl (u5)), some (.inl (u6)), some (.inl (u7)), some (.inl (u8)), y9, y10, y11, y12, y13, y14, y15, y16, y17, y18] [.inl (t0)] τ (w, σ')) : J184_45 u4 u5 u6 u7 u8 t0 τ w σ' := by
  unfold J184_45
  replace h := ei_p h rfl rfl rfl rfl
  obtain ⟨f, g, h⟩ := h
  clear g
  replace h : EV F f 184 z184 47 [some (rf 11 (0)), some (rf 13 (14)), some (rf 13 (15)), some (rf 13 (17)), some (.inl (u4)), some (.inl (u5)), some (.inl (u6)), some (.inl (u7)), some (.inl (u8)), some (.inl (t0)), y10, y11, y12, y13, y14, y15, y16, y17, y18] [] τ (w, σ') := h
  replace h := ei_p h rfl rfl rfl rfl
  obtain ⟨f, g, h⟩ := h
  clear g
  replace h : EV F f 184 z184 48 [some (rf 11 (0)), some (rf 13 (14)), some (rf 13 (15)), some (rf 13 (17)), some (.inl (u4)), some (.inl (u5)), some (.inl (u6)), some (.inl (u7)), some (.inl (u8)), some (.inl (t0)), y10, y11, y12, y13, y14, y15, y16, y17, y18] [.inl (Int32.ofInt 1)] τ (w, σ') := h
  replace h := ei_p h rfl rfl rfl rfl
  obtain ⟨f, g, h⟩ := h
  clear g
  replace h : EV F f 184 z184 50 [some (rf 11 (0)), some (rf 13 (14)), some (rf 13 (15)), some (rf 13 (17)), some (.inl (u4)), some (.inl (u5)), some (.inl (u6)), some (.inl (u7)), some (.inl (u8)), some (.inl (t0)), y10, y11, y12, y13, y14, y15, y16, y17, y18] [.inl (u5), .inl (Int32.ofInt 1)] τ (w, σ') := h
  replace h := ei_p h rfl rfl rfl rfl
  obtain ⟨f, g, h⟩ := h
  clear g
  replace h : EV F f 184 z184 52 [some (rf 11 (0)), some (rf 13 (14)), some (rf 13 (15)), some (rf 13 (17)), some (.inl (u4)), some (.inl (u5)), some (.inl (u6)), some (.inl (u7)), some (.inl (u8)), some (.inl (t0)), y10, y11, y12, y13, y14, y15, y16, y17, y18] [.inl (Int32.ofInt 50), .inl (u5), .inl (Int32.ofInt 1)] τ (w, σ') := h
  replace h := ei_idiv h rfl
  obtain ⟨hd1, f, g, h⟩ := h
  clear g
  replace h : EV F f 184 z184 53 [some (rf 11 (0)), some (rf 13 (14)), some (rf 13 (15)), some (rf 13 (17)), some (.inl (u4)), some (.inl (u5)), some (.inl (u6)), some (.inl (u7)), some (.inl (u8)), some (.inl (t0)), y10, y11, y12, y13, y14, y15, y16, y17, y18] [.inl ((u5) / (Int32.ofInt 50)), .inl (Int32.ofInt 1)] τ (w, σ') := h
  replace h := ei_p h rfl rfl rfl rfl
  obtain ⟨f, g, h⟩ := h
  clear g
  replace h : EV F f 184 z184 55 [some (rf 11 (0)), some (rf 13 (14)), some (rf 13 (15)), some (rf 13 (17)), some (.inl (u4)), some (.inl (u5)), some (.inl (u6)), some (.inl (u7)), some (.inl (u8)), some (.inl (t0)), y10, y11, y12, y13, y14, y15, y16, y17, y18] [.inl (Int32.ofInt 60), .inl ((u5) / (Int32.ofInt 50)), .inl (Int32.ofInt 1)] τ (w, σ') := h
  replace h := ei_irem h rfl
  obtain ⟨hd2, f, g, h⟩ := h
  clear g
  replace h : EV F f 184 z184 56 [some (rf 11 (0)), some (rf 13 (14)), some (rf 13 (15)), some (rf 13 (17)), some (.inl (u4)), some (.inl (u5)), some (.inl (u6)), some (.inl (u7)), some (.inl (u8)), some (.inl (t0)), y10, y11, y12, y13, y14, y15, y16, y17, y18] [.inl (((u5) / (Int32.ofInt 50)) - ((u5) / (Int32.ofInt 50)) / (Int32.ofInt 60) * (Int32.ofInt 60)), .inl (Int32.ofInt 1)] τ (w, σ') := h
  replace h := ei_p h rfl rfl rfl rfl
  obtain ⟨f, g, h⟩ := h
  clear g
  replace h : EV F f 184 z184 57 [some (rf 11 (0)), some (rf 13 (14)), some (rf 13 (15)), some (rf 13 (17)), some (.inl (u4)), some (.inl (u5)), some (.inl (u6)), some (.inl (u7)), some (.inl (u8)), some (.inl (t0)), y10, y11, y12, y13, y14, y15, y16, y17, y18] [.inl ((Int32.ofInt 1) + (((u5) / (Int32.ofInt 50)) - ((u5) / (Int32.ofInt 50)) / (Int32.ofInt 60) * (Int32.ofInt 60)))] τ (w, σ') := h
  replace h := ei_p h rfl rfl rfl rfl
  obtain ⟨f, g, h⟩ := h
  clear g
  replace h : EV F f 184 z184 59 [some (rf 11 (0)), some (rf 13 (14)), some (rf 13 (15)), some (rf 13 (17)), some (.inl (u4)), some (.inl (u5)), some (.inl (u6)), some (.inl (u7)), some (.inl (u8)), some (.inl (t0)), some (.inl ((Int32.ofInt 1) + (((u5) / (Int32.ofInt 50)) - ((u5) / (Int32.ofInt 50)) / (Int32.ofInt 60) * (Int32.ofInt 60)))), y11, y12, y13, y14, y15, y16, y17, y18] [] τ (w, σ') := h
  obtain ⟨n3, e4⟩ : ∃ s, s = (Int32.ofInt 1) + (((u5) / (Int32.ofInt 50)) - ((u5) / (Int32.ofInt 50)) / (Int32.ofInt 60) * (Int32.ofInt 60)) := ⟨_, rfl⟩
  rw [← e4] at h
  refine ⟨n3, e4, ?_⟩
  replace h : EV F f 184 z184 59 [some (rf 11 (0)), some (rf 13 (14)), some (rf 13 (15)), some (rf 13 (17)), some (.inl (u4)), some (.inl (u5)), some (.inl (u6)), some (.inl (u7)), some (.inl (u8)), some (.inl (t0)), some (.inl (n3)), y11, y12, y13, y14, y15, y16, y17, y18] [] τ (w, σ') := h
  replace h := ei_p h rfl rfl rfl rfl
  obtain ⟨f, g, h⟩ := h
  clear g
  replace h : EV F f 184 z184 61 [some (rf 11 (0)), some (rf 13 (14)), some (rf 13 (15)), some (rf 13 (17)), some (.inl (u4)), some (.inl (u5)), some (.inl (u6)), some (.inl (u7)), some (.inl (u8)), some (.inl (t0)), some (.inl (n3)), y11, y12, y13, y14, y15, y16, y17, y18] [.inl (u4)] τ (w, σ') := h
  replace h := ei_p h rfl rfl rfl rfl
  obtain ⟨f, g, h⟩ := h
  clear g
  replace h : EV F f 184 z184 63 [some (rf 11 (0)), some (rf 13 (14)), some (rf 13 (15)), some (rf 13 (17)), some (.inl (u4)), some (.inl (u5)), some (.inl (u6)), some (.inl (u7)), some (.inl (u8)), some (.inl (t0)), some (.inl (n3)), y11, y12, y13, y14, y15, y16, y17, y18] [.inl (Int32.ofInt 40), .inl (u4)] τ (w, σ') := h
  replace h := ei_idiv h rfl
  obtain ⟨hd5, f, g, h⟩ := h
  clear g
  replace h : EV F f 184 z184 64 [some (rf 11 (0)), some (rf 13 (14)), some (rf 13 (15)), some (rf 13 (17)), some (.inl (u4)), some (.inl (u5)), some (.inl (u6)), some (.inl (u7)), some (.inl (u8)), some (.inl (t0)), some (.inl (n3)), y11, y12, y13, y14, y15, y16, y17, y18] [.inl ((u4) / (Int32.ofInt 40))] τ (w, σ') := h
  replace h := ei_p h rfl rfl rfl rfl
  obtain ⟨f, g, h⟩ := h
  clear g
  replace h : EV F f 184 z184 65 [some (rf 11 (0)), some (rf 13 (14)), some (rf 13 (15)), some (rf 13 (17)), some (.inl (u4)), some (.inl (u5)), some (.inl (u6)), some (.inl (u7)), some (.inl (u8)), some (.inl (t0)), some (.inl (n3)), y11, y12, y13, y14, y15, y16, y17, y18] [.inl (Int32.ofInt 3), .inl ((u4) / (Int32.ofInt 40))] τ (w, σ') := h
  replace h := ei_irem h rfl
  obtain ⟨hd6, f, g, h⟩ := h
  clear g
  replace h : EV F f 184 z184 66 [some (rf 11 (0)), some (rf 13 (14)), some (rf 13 (15)), some (rf 13 (17)), some (.inl (u4)), some (.inl (u5)), some (.inl (u6)), some (.inl (u7)), some (.inl (u8)), some (.inl (t0)), some (.inl (n3)), y11, y12, y13, y14, y15, y16, y17, y18] [.inl (((u4) / (Int32.ofInt 40)) - ((u4) / (Int32.ofInt 40)) / (Int32.ofInt 3) * (Int32.ofInt 3))] τ (w, σ') := h
  replace h := ei_c h rfl rfl rfl
  rcases h with ⟨hp7, f, g, h⟩ | ⟨hp7, f, g, h⟩
  · skip
    replace hp7 : (((u4) / (Int32.ofInt 40)) - ((u4) / (Int32.ofInt 40)) / (Int32.ofInt 3) * (Int32.ofInt 3)).toInt ≤ (0 : Int) := ic_le.mp hp7
    refine Or.inl ⟨hp7, ?_⟩
    clear g
    replace h : EV F f 184 z184 73 [some (rf 11 (0)), some (rf 13 (14)), some (rf 13 (15)), some (rf 13 (17)), some (.inl (u4)), some (.inl (u5)), some (.inl (u6)), some (.inl (u7)), some (.inl (u8)), some (.inl (t0)), some (.inl (n3)), y11, y12, y13, y14, y15, y16, y17, y18] [] τ (w, σ') := h
    replace h := ei_p h rfl rfl rfl rfl
    obtain ⟨f, g, h⟩ := h
    clear g
    replace h : EV F f 184 z184 75 [some (rf 11 (0)), some (rf 13 (14)), some (rf 13 (15)), some (rf 13 (17)), some (.inl (u4)), some (.inl (u5)), some (.inl (u6)), some (.inl (u7)), some (.inl (u8)), some (.inl (t0)), some (.inl (n3)), y11, y12, y13, y14, y15, y16, y17, y18] [.inl (u4)] τ (w, σ') := h
    replace h := ei_p h rfl rfl rfl rfl
    obtain ⟨f, g, h⟩ := h
    clear g
    replace h : EV F f 184 z184 77 [some (rf 11 (0)), some (rf 13 (14)), some (rf 13 (15)), some (rf 13 (17)), some (.inl (u4)), some (.inl (u5)), some (.inl (u6)), some (.inl (u7)), some (.inl (u8)), some (.inl (t0)), some (.inl (n3)), y11, y12, y13, y14, y15, y16, y17, y18] [.inl (Int32.ofInt 40), .inl (u4)] τ (w, σ') := h
    replace h := ei_idiv h rfl
    obtain ⟨hd8, f, g, h⟩ := h
    clear g
    replace h : EV F f 184 z184 78 [some (rf 11 (0)), some (rf 13 (14)), some (rf 13 (15)), some (rf 13 (17)), some (.inl (u4)), some (.inl (u5)), some (.inl (u6)), some (.inl (u7)), some (.inl (u8)), some (.inl (t0)), some (.inl (n3)), y11, y12, y13, y14, y15, y16, y17, y18] [.inl ((u4) / (Int32.ofInt 40))] τ (w, σ') := h
    replace h := ei_p h rfl rfl rfl rfl
    obtain ⟨f, g, h⟩ := h
    clear g
    replace h : EV F f 184 z184 80 [some (rf 11 (0)), some (rf 13 (14)), some (rf 13 (15)), some (rf 13 (17)), some (.inl (u4)), some (.inl (u5)), some (.inl (u6)), some (.inl (u7)), some (.inl (u8)), some (.inl (t0)), some (.inl (n3)), y11, y12, y13, y14, y15, y16, y17, y18] [.inl (n3), .inl ((u4) / (Int32.ofInt 40))] τ (w, σ') := h
    replace h := ei_p h rfl rfl rfl rfl
    obtain ⟨f, g, h⟩ := h
    clear g
    replace h : EV F f 184 z184 81 [some (rf 11 (0)), some (rf 13 (14)), some (rf 13 (15)), some (rf 13 (17)), some (.inl (u4)), some (.inl (u5)), some (.inl (u6)), some (.inl (u7)), some (.inl (u8)), some (.inl (t0)), some (.inl (n3)), y11, y12, y13, y14, y15, y16, y17, y18] [.inl (Int32.ofInt 1), .inl (n3), .inl ((u4) / (Int32.ofInt 40))] τ (w, σ') := h
    replace h := ei_p h rfl rfl rfl rfl
    obtain ⟨f, g, h⟩ := h
    clear g
    replace h : EV F f 184 z184 82 [some (rf 11 (0)), some (rf 13 (14)), some (rf 13 (15)), some (rf 13 (17)), some (.inl (u4)), some (.inl (u5)), some (.inl (u6)), some (.inl (u7)), some (.inl (u8)), some (.inl (t0)), some (.inl (n3)), y11, y12, y13, y14, y15, y16, y17, y18] [.inl ((n3) + (Int32.ofInt 1)), .inl ((u4) / (Int32.ofInt 40))] τ (w, σ') := h
    replace h := ei_irem h rfl
    obtain ⟨hd9, f, g, h⟩ := h
    clear g
    replace h : EV F f 184 z184 83 [some (rf 11 (0)), some (rf 13 (14)), some (rf 13 (15)), some (rf 13 (17)), some (.inl (u4)), some (.inl (u5)), some (.inl (u6)), some (.inl (u7)), some (.inl (u8)), some (.inl (t0)), some (.inl (n3)), y11, y12, y13, y14, y15, y16, y17, y18] [.inl (((u4) / (Int32.ofInt 40)) - ((u4) / (Int32.ofInt 40)) / ((n3) + (Int32.ofInt 1)) * ((n3) + (Int32.ofInt 1)))] τ (w, σ') := h
    exact j184_83 hsτ h
  · skip
    replace hp7 : ¬ ((((u4) / (Int32.ofInt 40)) - ((u4) / (Int32.ofInt 40)) / (Int32.ofInt 3) * (Int32.ofInt 3)).toInt ≤ (0 : Int)) := (not_congr ic_le).mp hp7
    refine Or.inr ⟨hp7, ?_⟩
    clear g
    replace h : EV F f 184 z184 69 [some (rf 11 (0)), some (rf 13 (14)), some (rf 13 (15)), some (rf 13 (17)), some (.inl (u4)), some (.inl (u5)), some (.inl (u6)), some (.inl (u7)), some (.inl (u8)), some (.inl (t0)), some (.inl (n3)), y11, y12, y13, y14, y15, y16, y17, y18] [] τ (w, σ') := h
    replace h := ei_p h rfl rfl rfl rfl
    obtain ⟨f, g, h⟩ := h
    clear g
    replace h : EV F f 184 z184 70 [some (rf 11 (0)), some (rf 13 (14)), some (rf 13 (15)), some (rf 13 (17)), some (.inl (u4)), some (.inl (u5)), some (.inl (u6)), some (.inl (u7)), some (.inl (u8)), some (.inl (t0)), some (.inl (n3)), y11, y12, y13, y14, y15, y16, y17, y18] [.inl (Int32.ofInt 0)] τ (w, σ') := h
    replace h := ei_p h rfl rfl rfl rfl
    obtain ⟨f, g, h⟩ := h
    clear g
    replace h : EV F f 184 z184 83 [some (rf 11 (0)), some (rf 13 (14)), some (rf 13 (15)), some (rf 13 (17)), some (.inl (u4)), some (.inl (u5)), some (.inl (u6)), some (.inl (u7)), some (.inl (u8)), some (.inl (t0)), some (.inl (n3)), y11, y12, y13, y14, y15, y16, y17, y18] [.inl (Int32.ofInt 0)] τ (w, σ') := h
    exact j184_83 hsτ h
def P184 (σ : mS) (x5 : Int32) (x6 : Int32) (w : mX) (σ' : mS) : Prop := ∃ n2, n2 = (x5) - (x5) / (Int32.ofInt 5) * (Int32.ofInt 5) ∧ ∃ n6, n6 = ((x5) / (Int32.ofInt 5)) - ((x5) / (Int32.ofInt 5)) / (Int32.ofInt 4) * (Int32.ofInt 4) ∧ ∃ n10, n10 = ((x5) / (Int32.ofInt 20)) - ((x5) / (Int32.ofInt 20)) / (Int32.ofInt 2) * (Int32.ofInt 2) ∧ ((((x6) - (x6) / (Int32.ofInt 50) * (Int32.ofInt 50)).toInt ≠ (0 : Int) ∧ J184_45 (x5) (x6) (n2) (n6) (n10) ((Int32.ofInt 90) + ((x6) - (x6) / (Int32.ofInt 20) * (Int32.ofInt 20))) σ w σ') ∨ (¬ (((x6) - (x6) / (Int32.ofInt 50) * (Int32.ofInt 50)).toInt ≠ (0 : Int)) ∧ J184_45 (x5) (x6) (n2) (n6) (n10) (Int32.ofInt 10000) σ w σ'))
set_option maxRecDepth 100000 in
theorem x184 {σ σ' : mS} {x5 : Int32} {x6 : Int32} {w : mX} (hs : HL σ) (h : ev_run sm_all 184 [rf 11 (0), rf 13 (14), rf 13 (15), rf 13 (17), .inl (x5), .inl (x6)] σ (w) σ') : P184 σ x5 x6 w σ' := by
  unfold P184
  obtain ⟨F, f, h⟩ := ei_go h z184_at
  replace h : EV F f 184 z184 0 [some (rf 11 (0)), some (rf 13 (14)), some (rf 13 (15)), some (rf 13 (17)), some (.inl (x5)), some (.inl (x6)), none, none, none, none, none, none, none, none, none, none, none, none, none] [] σ (w, σ') := h
  replace h := ei_p h rfl rfl rfl rfl
  obtain ⟨f, g, h⟩ := h
  clear g
  replace h : EV F f 184 z184 2 [some (rf 11 (0)), some (rf 13 (14)), some (rf 13 (15)), some (rf 13 (17)), some (.inl (x5)), some (.inl (x6)), none, none, none, none, none, none, none, none, none, none, none, none, none] [.inl (x5)] σ (w, σ') := h
  replace h := ei_p h rfl rfl rfl rfl
  obtain ⟨f, g, h⟩ := h
  clear g
  replace h : EV F f 184 z184 3 [some (rf 11 (0)), some (rf 13 (14)), some (rf 13 (15)), some (rf 13 (17)), some (.inl (x5)), some (.inl (x6)), none, none, none, none, none, none, none, none, none, none, none, none, none] [.inl (Int32.ofInt 5), .inl (x5)] σ (w, σ') := h
  replace h := ei_irem h rfl
  obtain ⟨hd1, f, g, h⟩ := h
  clear g
  replace h : EV F f 184 z184 4 [some (rf 11 (0)), some (rf 13 (14)), some (rf 13 (15)), some (rf 13 (17)), some (.inl (x5)), some (.inl (x6)), none, none, none, none, none, none, none, none, none, none, none, none, none] [.inl ((x5) - (x5) / (Int32.ofInt 5) * (Int32.ofInt 5))] σ (w, σ') := h
  replace h := ei_p h rfl rfl rfl rfl
  obtain ⟨f, g, h⟩ := h
  clear g
  replace h : EV F f 184 z184 6 [some (rf 11 (0)), some (rf 13 (14)), some (rf 13 (15)), some (rf 13 (17)), some (.inl (x5)), some (.inl (x6)), some (.inl ((x5) - (x5) / (Int32.ofInt 5) * (Int32.ofInt 5))), none, none, none, none, none, none, none, none, none, none, none, none] [] σ (w, σ') := h
  obtain ⟨n2, e3⟩ : ∃ s, s = (x5) - (x5) / (Int32.ofInt 5) * (Int32.ofInt 5) := ⟨_, rfl⟩
  rw [← e3] at h
  refine ⟨n2, e3, ?_⟩
  replace h : EV F f 184 z184 6 [some (rf 11 (0)), some (rf 13 (14)), some (rf 13 (15)), some (rf 13 (17)), some (.inl (x5)), some (.inl (x6)), some (.inl (n2)), none, none, none, none, none, none, none, none, none, none, none, none] [] σ (w, σ') := h
  replace h := ei_p h rfl rfl rfl rfl
  obtain ⟨f, g, h⟩ := h
  clear g
  replace h : EV F f 184 z184 8 [some (rf 11 (0)), some (rf 13 (14)), some (rf 13 (15)), some (rf 13 (17)), some (.inl (x5)), some (.inl (x6)), some (.inl (n2)), none, none, none, none, none, none, none, none, none, none, none, none] [.inl (x5)] σ (w, σ') := h
  replace h := ei_p h rfl rfl rfl rfl
  obtain ⟨f, g, h⟩ := h
  clear g
  replace h : EV F f 184 z184 9 [some (rf 11 (0)), some (rf 13 (14)), some (rf 13 (15)), some (rf 13 (17)), some (.inl (x5)), some (.inl (x6)), some (.inl (n2)), none, none, none, none, none, none, none, none, none, none, none, none] [.inl (Int32.ofInt 5), .inl (x5)] σ (w, σ') := h
  replace h := ei_idiv h rfl
  obtain ⟨hd4, f, g, h⟩ := h
  clear g
  replace h : EV F f 184 z184 10 [some (rf 11 (0)), some (rf 13 (14)), some (rf 13 (15)), some (rf 13 (17)), some (.inl (x5)), some (.inl (x6)), some (.inl (n2)), none, none, none, none, none, none, none, none, none, none, none, none] [.inl ((x5) / (Int32.ofInt 5))] σ (w, σ') := h
  replace h := ei_p h rfl rfl rfl rfl
  obtain ⟨f, g, h⟩ := h
  clear g
  replace h : EV F f 184 z184 11 [some (rf 11 (0)), some (rf 13 (14)), some (rf 13 (15)), some (rf 13 (17)), some (.inl (x5)), some (.inl (x6)), some (.inl (n2)), none, none, none, none, none, none, none, none, none, none, none, none] [.inl (Int32.ofInt 4), .inl ((x5) / (Int32.ofInt 5))] σ (w, σ') := h
  replace h := ei_irem h rfl
  obtain ⟨hd5, f, g, h⟩ := h
  clear g
  replace h : EV F f 184 z184 12 [some (rf 11 (0)), some (rf 13 (14)), some (rf 13 (15)), some (rf 13 (17)), some (.inl (x5)), some (.inl (x6)), some (.inl (n2)), none, none, none, none, none, none, none, none, none, none, none, none] [.inl (((x5) / (Int32.ofInt 5)) - ((x5) / (Int32.ofInt 5)) / (Int32.ofInt 4) * (Int32.ofInt 4))] σ (w, σ') := h
  replace h := ei_p h rfl rfl rfl rfl
  obtain ⟨f, g, h⟩ := h
  clear g
  replace h : EV F f 184 z184 14 [some (rf 11 (0)), some (rf 13 (14)), some (rf 13 (15)), some (rf 13 (17)), some (.inl (x5)), some (.inl (x6)), some (.inl (n2)), some (.inl (((x5) / (Int32.ofInt 5)) - ((x5) / (Int32.ofInt 5)) / (Int32.ofInt 4) * (Int32.ofInt 4))), none, none, none, none, none, none, none, none, none, none, none] [] σ (w, σ') := h
  obtain ⟨n6, e7⟩ : ∃ s, s = ((x5) / (Int32.ofInt 5)) - ((x5) / (Int32.ofInt 5)) / (Int32.ofInt 4) * (Int32.ofInt 4) := ⟨_, rfl⟩
  rw [← e7] at h
  refine ⟨n6, e7, ?_⟩
  replace h : EV F f 184 z184 14 [some (rf 11 (0)), some (rf 13 (14)), some (rf 13 (15)), some (rf 13 (17)), some (.inl (x5)), some (.inl (x6)), some (.inl (n2)), some (.inl (n6)), none, none, none, none, none, none, none, none, none, none, none] [] σ (w, σ') := h
  replace h := ei_p h rfl rfl rfl rfl
  obtain ⟨f, g, h⟩ := h
  clear g
  replace h : EV F f 184 z184 16 [some (rf 11 (0)), some (rf 13 (14)), some (rf 13 (15)), some (rf 13 (17)), some (.inl (x5)), some (.inl (x6)), some (.inl (n2)), some (.inl (n6)), none, none, none, none, none, none, none, none, none, none, none] [.inl (x5)] σ (w, σ') := h
  replace h := ei_p h rfl rfl rfl rfl
  obtain ⟨f, g, h⟩ := h
  clear g
  replace h : EV F f 184 z184 18 [some (rf 11 (0)), some (rf 13 (14)), some (rf 13 (15)), some (rf 13 (17)), some (.inl (x5)), some (.inl (x6)), some (.inl (n2)), some (.inl (n6)), none, none, none, none, none, none, none, none, none, none, none] [.inl (Int32.ofInt 20), .inl (x5)] σ (w, σ') := h
  replace h := ei_idiv h rfl
  obtain ⟨hd8, f, g, h⟩ := h
  clear g
  replace h : EV F f 184 z184 19 [some (rf 11 (0)), some (rf 13 (14)), some (rf 13 (15)), some (rf 13 (17)), some (.inl (x5)), some (.inl (x6)), some (.inl (n2)), some (.inl (n6)), none, none, none, none, none, none, none, none, none, none, none] [.inl ((x5) / (Int32.ofInt 20))] σ (w, σ') := h
  replace h := ei_p h rfl rfl rfl rfl
  obtain ⟨f, g, h⟩ := h
  clear g
  replace h : EV F f 184 z184 20 [some (rf 11 (0)), some (rf 13 (14)), some (rf 13 (15)), some (rf 13 (17)), some (.inl (x5)), some (.inl (x6)), some (.inl (n2)), some (.inl (n6)), none, none, none, none, none, none, none, none, none, none, none] [.inl (Int32.ofInt 2), .inl ((x5) / (Int32.ofInt 20))] σ (w, σ') := h
  replace h := ei_irem h rfl
  obtain ⟨hd9, f, g, h⟩ := h
  clear g
  replace h : EV F f 184 z184 21 [some (rf 11 (0)), some (rf 13 (14)), some (rf 13 (15)), some (rf 13 (17)), some (.inl (x5)), some (.inl (x6)), some (.inl (n2)), some (.inl (n6)), none, none, none, none, none, none, none, none, none, none, none] [.inl (((x5) / (Int32.ofInt 20)) - ((x5) / (Int32.ofInt 20)) / (Int32.ofInt 2) * (Int32.ofInt 2))] σ (w, σ') := h
  replace h := ei_p h rfl rfl rfl rfl
  obtain ⟨f, g, h⟩ := h
  clear g
  replace h : EV F f 184 z184 23 [some (rf 11 (0)), some (rf 13 (14)), some (rf 13 (15)), some (rf 13 (17)), some (.inl (x5)), some (.inl (x6)), some (.inl (n2)), some (.inl (n6)), some (.inl (((x5) / (Int32.ofInt 20)) - ((x5) / (Int32.ofInt 20)) / (Int32.ofInt 2) * (Int32.ofInt 2))), none, none, none, none, none, none, none, none, none, none] [] σ (w, σ') := h
  obtain ⟨n10, e11⟩ : ∃ s, s = ((x5) / (Int32.ofInt 20)) - ((x5) / (Int32.ofInt 20)) / (Int32.ofInt 2) * (Int32.ofInt 2) := ⟨_, rfl⟩
  rw [← e11] at h
  refine ⟨n10, e11, ?_⟩
  replace h : EV F f 184 z184 23 [some (rf 11 (0)), some (rf 13 (14)), some (rf 13 (15)), some (rf 13 (17)), some (.inl (x5)), some (.inl (x6)), some (.inl (n2)), some (.inl (n6)), some (.inl (n10)), none, none, none, none, none, none, none, none, none, none] [] σ (w, σ') := h
  replace h := ei_p h rfl rfl rfl rfl
  obtain ⟨f, g, h⟩ := h
  clear g
  replace h : EV F f 184 z184 25 [some (rf 11 (0)), some (rf 13 (14)), some (rf 13 (15)), some (rf 13 (17)), some (.inl (x5)), some (.inl (x6)), some (.inl (n2)), some (.inl (n6)), some (.inl (n10)), none, none, none, none, none, none, none, none, none, none] [.inl (x6)] σ (w, σ') := h
  replace h := ei_p h rfl rfl rfl rfl
  obtain ⟨f, g, h⟩ := h
  clear g
  replace h : EV F f 184 z184 27 [some (rf 11 (0)), some (rf 13 (14)), some (rf 13 (15)), some (rf 13 (17)), some (.inl (x5)), some (.inl (x6)), some (.inl (n2)), some (.inl (n6)), some (.inl (n10)), none, none, none, none, none, none, none, none, none, none] [.inl (Int32.ofInt 50), .inl (x6)] σ (w, σ') := h
  replace h := ei_irem h rfl
  obtain ⟨hd12, f, g, h⟩ := h
  clear g
  replace h : EV F f 184 z184 28 [some (rf 11 (0)), some (rf 13 (14)), some (rf 13 (15)), some (rf 13 (17)), some (.inl (x5)), some (.inl (x6)), some (.inl (n2)), some (.inl (n6)), some (.inl (n10)), none, none, none, none, none, none, none, none, none, none] [.inl ((x6) - (x6) / (Int32.ofInt 50) * (Int32.ofInt 50))] σ (w, σ') := h
  replace h := ei_c h rfl rfl rfl
  rcases h with ⟨hp13, f, g, h⟩ | ⟨hp13, f, g, h⟩
  · skip
    replace hp13 : ((x6) - (x6) / (Int32.ofInt 50) * (Int32.ofInt 50)).toInt ≠ (0 : Int) := ic_ne.mp hp13
    refine Or.inl ⟨hp13, ?_⟩
    clear g
    replace h : EV F f 184 z184 37 [some (rf 11 (0)), some (rf 13 (14)), some (rf 13 (15)), some (rf 13 (17)), some (.inl (x5)), some (.inl (x6)), some (.inl (n2)), some (.inl (n6)), some (.inl (n10)), none, none, none, none, none, none, none, none, none, none] [] σ (w, σ') := h
    replace h := ei_p h rfl rfl rfl rfl
    obtain ⟨f, g, h⟩ := h
    clear g
    replace h : EV F f 184 z184 39 [some (rf 11 (0)), some (rf 13 (14)), some (rf 13 (15)), some (rf 13 (17)), some (.inl (x5)), some (.inl (x6)), some (.inl (n2)), some (.inl (n6)), some (.inl (n10)), none, none, none, none, none, none, none, none, none, none] [.inl (Int32.ofInt 90)] σ (w, σ') := h
    replace h := ei_p h rfl rfl rfl rfl
    obtain ⟨f, g, h⟩ := h
    clear g
    replace h : EV F f 184 z184 41 [some (rf 11 (0)), some (rf 13 (14)), some (rf 13 (15)), some (rf 13 (17)), some (.inl (x5)), some (.inl (x6)), some (.inl (n2)), some (.inl (n6)), some (.inl (n10)), none, none, none, none, none, none, none, none, none, none] [.inl (x6), .inl (Int32.ofInt 90)] σ (w, σ') := h
    replace h := ei_p h rfl rfl rfl rfl
    obtain ⟨f, g, h⟩ := h
    clear g
    replace h : EV F f 184 z184 43 [some (rf 11 (0)), some (rf 13 (14)), some (rf 13 (15)), some (rf 13 (17)), some (.inl (x5)), some (.inl (x6)), some (.inl (n2)), some (.inl (n6)), some (.inl (n10)), none, none, none, none, none, none, none, none, none, none] [.inl (Int32.ofInt 20), .inl (x6), .inl (Int32.ofInt 90)] σ (w, σ') := h
    replace h := ei_irem h rfl
    obtain ⟨hd14, f, g, h⟩ := h
    clear g
    replace h : EV F f 184 z184 44 [some (rf 11 (0)), some (rf 13 (14)), some (rf 13 (15)), some (rf 13 (17)), some (.inl (x5)), some (.inl (x6)), some (.inl (n2)), some (.inl (n6)), some (.inl (n10)), none, none, none, none, none, none, none, none, none, none] [.inl ((x6) - (x6) / (Int32.ofInt 20) * (Int32.ofInt 20)), .inl (Int32.ofInt 90)] σ (w, σ') := h
    replace h := ei_p h rfl rfl rfl rfl
    obtain ⟨f, g, h⟩ := h
    clear g
    replace h : EV F f 184 z184 45 [some (rf 11 (0)), some (rf 13 (14)), some (rf 13 (15)), some (rf 13 (17)), some (.inl (x5)), some (.inl (x6)), some (.inl (n2)), some (.inl (n6)), some (.inl (n10)), none, none, none, none, none, none, none, none, none, none] [.inl ((Int32.ofInt 90) + ((x6) - (x6) / (Int32.ofInt 20) * (Int32.ofInt 20)))] σ (w, σ') := h
    exact j184_45 hs h
  · skip
    replace hp13 : ¬ (((x6) - (x6) / (Int32.ofInt 50) * (Int32.ofInt 50)).toInt ≠ (0 : Int)) := (not_congr ic_ne).mp hp13
    refine Or.inr ⟨hp13, ?_⟩
    clear g
    replace h : EV F f 184 z184 31 [some (rf 11 (0)), some (rf 13 (14)), some (rf 13 (15)), some (rf 13 (17)), some (.inl (x5)), some (.inl (x6)), some (.inl (n2)), some (.inl (n6)), some (.inl (n10)), none, none, none, none, none, none, none, none, none, none] [] σ (w, σ') := h
    replace h := ei_p h rfl rfl rfl rfl
    obtain ⟨f, g, h⟩ := h
    clear g
    replace h : EV F f 184 z184 34 [some (rf 11 (0)), some (rf 13 (14)), some (rf 13 (15)), some (rf 13 (17)), some (.inl (x5)), some (.inl (x6)), some (.inl (n2)), some (.inl (n6)), some (.inl (n10)), none, none, none, none, none, none, none, none, none, none] [.inl (Int32.ofInt 10000)] σ (w, σ') := h
    replace h := ei_p h rfl rfl rfl rfl
    obtain ⟨f, g, h⟩ := h
    clear g
    replace h : EV F f 184 z184 45 [some (rf 11 (0)), some (rf 13 (14)), some (rf 13 (15)), some (rf 13 (17)), some (.inl (x5)), some (.inl (x6)), some (.inl (n2)), some (.inl (n6)), some (.inl (n10)), none, none, none, none, none, none, none, none, none, none] [.inl (Int32.ofInt 10000)] σ (w, σ') := h
    exact j184_45 hs h
