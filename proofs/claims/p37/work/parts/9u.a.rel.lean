/-! the class's methods as relations: 2 hasRoom, 3 orderAt, 4 add, 105 showAnew, 5 letStand, 100 standsIn, 102 isAheadOf, 6 firstOf, 7 shownAt, 103 isGoodFor, 8 sumGoodFor, 9 mostAt, 99 stands -/
def z2 : mAl := ((yX0_hasRoom, cX0_hasRoom, 1, (some .boolean), { frames := 0, cells := 0, slots := 0, locals := 0 }, []), rw_X0_hasRoom, false)
theorem z2_at : m_alF[2]? = some z2 := rfl
def P2 (σ : mS) (w : Int32) : Prop := (((120 : Int) ≤ (m_i σ 0 (0) 1).toInt ∧ w = (Int32.ofInt 0)) ∨ (¬ ((120 : Int) ≤ (m_i σ 0 (0) 1).toInt) ∧ w = (Int32.ofInt 1)))
theorem x2 {σ σ' : mS} {w : Int32} (hs : HS σ) (h : ev_run sm_all 2 [rf 0 (0)] σ (.inl (some (.inl w))) σ') : P2 σ w := by
  unfold P2
  obtain ⟨F, f, h⟩ := ei_go h z2_at
  replace h : EV F f 2 z2 0 [some (rf 0 (0))] [] σ (.inl (some (.inl w)), σ') := h
  replace h := ei_p h rfl rfl rfl rfl
  obtain ⟨f, g, h⟩ := h
  clear g
  replace h : EV F f 2 z2 1 [some (rf 0 (0))] [rf 0 (0)] σ (.inl (some (.inl w)), σ') := h
  replace h := ei_get h rfl rfl
  obtain ⟨f, g, h⟩ := h
  clear g
  replace h : EV F f 2 z2 4 [some (rf 0 (0))] [.inl (m_i σ 0 (0) 1)] σ (.inl (some (.inl w)), σ') := h
  replace h := ei_p h rfl rfl rfl rfl
  obtain ⟨f, g, h⟩ := h
  clear g
  replace h : EV F f 2 z2 5 [some (rf 0 (0))] [rf 0 (0), .inl (m_i σ 0 (0) 1)] σ (.inl (some (.inl w)), σ') := h
  replace h := ei_get h rfl (HS_g0_0 hs)
  obtain ⟨f, g, h⟩ := h
  clear g
  replace h : EV F f 2 z2 8 [some (rf 0 (0))] [rf 17 (0), .inl (m_i σ 0 (0) 1)] σ (.inl (some (.inl w)), σ') := h
  replace h := ei_len h rfl (HS_l17_0 hs) ⟨Nat.le_of_ble_eq_true rfl, Nat.le_of_ble_eq_true rfl⟩
  obtain ⟨f, g, h⟩ := h
  clear g
  replace h : EV F f 2 z2 9 [some (rf 0 (0))] [.inl (Int32.ofInt 120), .inl (m_i σ 0 (0) 1)] σ (.inl (some (.inl w)), σ') := h
  replace h := ei_c h rfl rfl rfl
  rcases h with ⟨hp1, f, g, h⟩ | ⟨hp1, f, g, h⟩
  · skip
    replace hp1 : (120 : Int) ≤ (m_i σ 0 (0) 1).toInt := ic_ge.mp hp1
    refine Or.inl ⟨hp1, ?_⟩
    clear g
    replace h : EV F f 2 z2 16 [some (rf 0 (0))] [] σ (.inl (some (.inl w)), σ') := h
    replace h := ei_p h rfl rfl rfl rfl
    obtain ⟨f, g, h⟩ := h
    clear g
    replace h : EV F f 2 z2 17 [some (rf 0 (0))] [.inl (Int32.ofInt 0)] σ (.inl (some (.inl w)), σ') := h
    have e := ei_iret h rfl
    cases e
    exact rfl
  · skip
    replace hp1 : ¬ ((120 : Int) ≤ (m_i σ 0 (0) 1).toInt) := (not_congr ic_ge).mp hp1
    refine Or.inr ⟨hp1, ?_⟩
    clear g
    replace h : EV F f 2 z2 12 [some (rf 0 (0))] [] σ (.inl (some (.inl w)), σ') := h
    replace h := ei_p h rfl rfl rfl rfl
    obtain ⟨f, g, h⟩ := h
    clear g
    replace h : EV F f 2 z2 13 [some (rf 0 (0))] [.inl (Int32.ofInt 1)] σ (.inl (some (.inl w)), σ') := h
    replace h := ei_p h rfl rfl rfl rfl
    obtain ⟨f, g, h⟩ := h
    clear g
    replace h : EV F f 2 z2 17 [some (rf 0 (0))] [.inl (Int32.ofInt 1)] σ (.inl (some (.inl w)), σ') := h
    have e := ei_iret h rfl
    cases e
    exact rfl
def z3 : mAl := ((yX0_orderAt, cX0_orderAt, 2, (some (.object "NettingHall$Order")), { frames := 0, cells := 0, slots := 0, locals := 0 }, []), rw_X0_orderAt, false)
theorem z3_at : m_alF[3]? = some z3 := rfl
def P3 (σ : mS) (x1 : Int32) (w : mR) : Prop := (((x1).toInt < (0 : Int) ∧ w = none) ∨ (¬ ((x1).toInt < (0 : Int)) ∧ (((m_i σ 0 (0) 1).toInt ≤ (x1).toInt ∧ w = none) ∨ (¬ ((m_i σ 0 (0) 1).toInt ≤ (x1).toInt) ∧ (((x1).toInt < (120 : Int) ∧ (0 ≤ (x1).toInt ∧ (x1).toInt < 120) ∧ w = (some (7, (x1).toNatClampNeg))) ∨ (¬ ((x1).toInt < (120 : Int)) ∧ w = none))))))
theorem x3 {σ σ' : mS} {x1 : Int32} {w : mR} (hs : HS σ) (h : ev_run sm_all 3 [rf 0 (0), .inl (x1)] σ (.inl (some (.inr (.inr w)))) σ') : P3 σ x1 w := by
  unfold P3
  obtain ⟨F, f, h⟩ := ei_go h z3_at
  replace h : EV F f 3 z3 0 [some (rf 0 (0)), some (.inl (x1))] [] σ (.inl (some (.inr (.inr w))), σ') := h
  replace h := ei_p h rfl rfl rfl rfl
  obtain ⟨f, g, h⟩ := h
  clear g
  replace h : EV F f 3 z3 1 [some (rf 0 (0)), some (.inl (x1))] [.inl (x1)] σ (.inl (some (.inr (.inr w))), σ') := h
  replace h := ei_c h rfl rfl rfl
  rcases h with ⟨hp1, f, g, h⟩ | ⟨hp1, f, g, h⟩
  · skip
    replace hp1 : (x1).toInt < (0 : Int) := ic_lt.mp hp1
    refine Or.inl ⟨hp1, ?_⟩
    clear g
    replace h : EV F f 3 z3 21 [some (rf 0 (0)), some (.inl (x1))] [] σ (.inl (some (.inr (.inr w))), σ') := h
    replace h := ei_p h rfl rfl rfl rfl
    obtain ⟨f, g, h⟩ := h
    clear g
    replace h : EV F f 3 z3 22 [some (rf 0 (0)), some (.inl (x1))] [.inr (.inr none)] σ (.inl (some (.inr (.inr w))), σ') := h
    replace h := ei_p h rfl rfl rfl rfl
    obtain ⟨f, g, h⟩ := h
    clear g
    replace h : EV F f 3 z3 31 [some (rf 0 (0)), some (.inl (x1))] [.inr (.inr none)] σ (.inl (some (.inr (.inr w))), σ') := h
    have e := ei_aret h rfl
    cases e
    exact rfl
  · skip
    replace hp1 : ¬ ((x1).toInt < (0 : Int)) := (not_congr ic_lt).mp hp1
    refine Or.inr ⟨hp1, ?_⟩
    clear g
    replace h : EV F f 3 z3 4 [some (rf 0 (0)), some (.inl (x1))] [] σ (.inl (some (.inr (.inr w))), σ') := h
    replace h := ei_p h rfl rfl rfl rfl
    obtain ⟨f, g, h⟩ := h
    clear g
    replace h : EV F f 3 z3 5 [some (rf 0 (0)), some (.inl (x1))] [.inl (x1)] σ (.inl (some (.inr (.inr w))), σ') := h
    replace h := ei_p h rfl rfl rfl rfl
    obtain ⟨f, g, h⟩ := h
    clear g
    replace h : EV F f 3 z3 6 [some (rf 0 (0)), some (.inl (x1))] [rf 0 (0), .inl (x1)] σ (.inl (some (.inr (.inr w))), σ') := h
    replace h := ei_get h rfl rfl
    obtain ⟨f, g, h⟩ := h
    clear g
    replace h : EV F f 3 z3 9 [some (rf 0 (0)), some (.inl (x1))] [.inl (m_i σ 0 (0) 1), .inl (x1)] σ (.inl (some (.inr (.inr w))), σ') := h
    replace h := ei_c h rfl rfl rfl
    rcases h with ⟨hp2, f, g, h⟩ | ⟨hp2, f, g, h⟩
    · skip
      replace hp2 : (m_i σ 0 (0) 1).toInt ≤ (x1).toInt := ic_ge.mp hp2
      refine Or.inl ⟨hp2, ?_⟩
      clear g
      replace h : EV F f 3 z3 21 [some (rf 0 (0)), some (.inl (x1))] [] σ (.inl (some (.inr (.inr w))), σ') := h
      replace h := ei_p h rfl rfl rfl rfl
      obtain ⟨f, g, h⟩ := h
      clear g
      replace h : EV F f 3 z3 22 [some (rf 0 (0)), some (.inl (x1))] [.inr (.inr none)] σ (.inl (some (.inr (.inr w))), σ') := h
      replace h := ei_p h rfl rfl rfl rfl
      obtain ⟨f, g, h⟩ := h
      clear g
      replace h : EV F f 3 z3 31 [some (rf 0 (0)), some (.inl (x1))] [.inr (.inr none)] σ (.inl (some (.inr (.inr w))), σ') := h
      have e := ei_aret h rfl
      cases e
      exact rfl
    · skip
      replace hp2 : ¬ ((m_i σ 0 (0) 1).toInt ≤ (x1).toInt) := (not_congr ic_ge).mp hp2
      refine Or.inr ⟨hp2, ?_⟩
      clear g
      replace h : EV F f 3 z3 12 [some (rf 0 (0)), some (.inl (x1))] [] σ (.inl (some (.inr (.inr w))), σ') := h
      replace h := ei_p h rfl rfl rfl rfl
      obtain ⟨f, g, h⟩ := h
      clear g
      replace h : EV F f 3 z3 13 [some (rf 0 (0)), some (.inl (x1))] [.inl (x1)] σ (.inl (some (.inr (.inr w))), σ') := h
      replace h := ei_p h rfl rfl rfl rfl
      obtain ⟨f, g, h⟩ := h
      clear g
      replace h : EV F f 3 z3 14 [some (rf 0 (0)), some (.inl (x1))] [rf 0 (0), .inl (x1)] σ (.inl (some (.inr (.inr w))), σ') := h
      replace h := ei_get h rfl (HS_g0_0 hs)
      obtain ⟨f, g, h⟩ := h
      clear g
      replace h : EV F f 3 z3 17 [some (rf 0 (0)), some (.inl (x1))] [rf 17 (0), .inl (x1)] σ (.inl (some (.inr (.inr w))), σ') := h
      replace h := ei_len h rfl (HS_l17_0 hs) ⟨Nat.le_of_ble_eq_true rfl, Nat.le_of_ble_eq_true rfl⟩
      obtain ⟨f, g, h⟩ := h
      clear g
      replace h : EV F f 3 z3 18 [some (rf 0 (0)), some (.inl (x1))] [.inl (Int32.ofInt 120), .inl (x1)] σ (.inl (some (.inr (.inr w))), σ') := h
      replace h := ei_c h rfl rfl rfl
      rcases h with ⟨hp3, f, g, h⟩ | ⟨hp3, f, g, h⟩
      · skip
        replace hp3 : (x1).toInt < (120 : Int) := ic_lt.mp hp3
        refine Or.inl ⟨hp3, ?_⟩
        clear g
        replace h : EV F f 3 z3 25 [some (rf 0 (0)), some (.inl (x1))] [] σ (.inl (some (.inr (.inr w))), σ') := h
        replace h := ei_p h rfl rfl rfl rfl
        obtain ⟨f, g, h⟩ := h
        clear g
        replace h : EV F f 3 z3 26 [some (rf 0 (0)), some (.inl (x1))] [rf 0 (0)] σ (.inl (some (.inr (.inr w))), σ') := h
        replace h := ei_get h rfl (HS_g0_0 hs)
        obtain ⟨f, g, h⟩ := h
        clear g
        replace h : EV F f 3 z3 29 [some (rf 0 (0)), some (.inl (x1))] [rf 17 (0)] σ (.inl (some (.inr (.inr w))), σ') := h
        replace h := ei_p h rfl rfl rfl rfl
        obtain ⟨f, g, h⟩ := h
        clear g
        replace h : EV F f 3 z3 30 [some (rf 0 (0)), some (.inl (x1))] [.inl (x1), rf 17 (0)] σ (.inl (some (.inr (.inr w))), σ') := h
        replace h := ei_ald h rfl (HS_a17 hs)
        obtain ⟨vp4, f, g, h⟩ := h
        clear g
        replace h : EV F f 3 z3 31 [some (rf 0 (0)), some (.inl (x1))] [rf 7 ((x1).toNatClampNeg)] σ (.inl (some (.inr (.inr w))), σ') := h
        refine ⟨HS_v17 hs vp4, ?_⟩
        have e := ei_aret h rfl
        cases e
        exact rfl
      · skip
        replace hp3 : ¬ ((x1).toInt < (120 : Int)) := (not_congr ic_lt).mp hp3
        refine Or.inr ⟨hp3, ?_⟩
        clear g
        replace h : EV F f 3 z3 21 [some (rf 0 (0)), some (.inl (x1))] [] σ (.inl (some (.inr (.inr w))), σ') := h
        replace h := ei_p h rfl rfl rfl rfl
        obtain ⟨f, g, h⟩ := h
        clear g
        replace h : EV F f 3 z3 22 [some (rf 0 (0)), some (.inl (x1))] [.inr (.inr none)] σ (.inl (some (.inr (.inr w))), σ') := h
        replace h := ei_p h rfl rfl rfl rfl
        obtain ⟨f, g, h⟩ := h
        clear g
        replace h : EV F f 3 z3 31 [some (rf 0 (0)), some (.inl (x1))] [.inr (.inr none)] σ (.inl (some (.inr (.inr w))), σ') := h
        have e := ei_aret h rfl
        cases e
        exact rfl
def z4 : mAl := ((yX0_add, cX0_add, 7, (some (.object "NettingHall$Order")), { frames := 0, cells := 0, slots := 0, locals := 0 }, []), rw_X0_add, false)
theorem z4_at : m_alF[4]? = some z4 := rfl
abbrev L4 : List (Nat × Nat) := [(0, 1), (7, 1), (7, 2), (7, 3), (7, 4), (7, 5), (7, 6), (7, 7), (7, 8), (7, 9), (7, 10), (7, 11), (7, 12)]
abbrev w4 : Nat → Nat → Bool := wl L4
def S4 : List Nat := [4]
theorem W4 : fw_S w4 S4 = true := by decide +kernel
def J4_19 (τ : mS) (w : mR) (σ' : mS) : Prop := w = none ∧ σ' = τ
theorem j4_19 {F f : Nat} {σ' τ : mS} {y0 : Option mV} {y1 : Option mV} {y2 : Option mV} {y3 : Option mV} {y4 : Option mV} {y5 : Option mV} {y6 : Option mV} {w : mR} (hsτ : HS τ) (h : EV F f 4 z4 19 [y0, y1, y2, y3, y4, y5, y6] [] τ (.inl (some (.inr (.inr w))), σ')) : J4_19 τ w σ' := by
  unfold J4_19
  replace h := ei_p h rfl rfl rfl rfl
  obtain ⟨f, g, h⟩ := h
  clear g
  replace h : EV F f 4 z4 20 [y0, y1, y2, y3, y4, y5, y6] [.inr (.inr none)] τ (.inl (some (.inr (.inr w))), σ') := h
  have e := ei_aret h rfl
  cases e
  exact ⟨rfl, rfl⟩
def P4 (σ : mS) (x1 : Int32) (x2 : Int32) (x3 : Int32) (x4 : Int32) (x5 : Int32) (w : mR) (σ' : mS) : Prop := (((m_i σ 0 (0) 1).toInt < (0 : Int) ∧ J4_19 σ w σ') ∨ (¬ ((m_i σ 0 (0) 1).toInt < (0 : Int)) ∧ (((m_i σ 0 (0) 1).toInt < (120 : Int) ∧ (0 ≤ (m_i σ 0 (0) 1).toInt ∧ (m_i σ 0 (0) 1).toInt < 120) ∧ ∃ σ5, σ5 = m_set σ 0 (0) (1) (.inl ((m_i σ 0 (0) 1) + (Int32.ofInt 1))) ∧ ∃ σ8, σ8 = m_set σ5 7 ((m_i σ 0 (0) 1).toNatClampNeg) (1) (.inl (x1)) ∧ ∃ σ11, σ11 = m_set σ8 7 ((m_i σ 0 (0) 1).toNatClampNeg) (2) (.inl (x2)) ∧ ∃ σ14, σ14 = m_set σ11 7 ((m_i σ 0 (0) 1).toNatClampNeg) (3) (.inl (x3)) ∧ ∃ σ17, σ17 = m_set σ14 7 ((m_i σ 0 (0) 1).toNatClampNeg) (4) (.inl (x4)) ∧ ∃ σ20, σ20 = m_set σ17 7 ((m_i σ 0 (0) 1).toNatClampNeg) (5) (.inl (Int32.ofInt 0)) ∧ ∃ σ23, σ23 = m_set σ20 7 ((m_i σ 0 (0) 1).toNatClampNeg) (6) (.inl (x5)) ∧ ∃ σ26, σ26 = m_set σ23 7 ((m_i σ 0 (0) 1).toNatClampNeg) (7) (.inl (Int32.ofInt 0)) ∧ ∃ σ29, σ29 = m_set σ26 7 ((m_i σ 0 (0) 1).toNatClampNeg) (8) (.inl (Int32.ofInt 0)) ∧ ∃ σ32, σ32 = m_set σ29 7 ((m_i σ 0 (0) 1).toNatClampNeg) (9) (.inl (Int32.ofInt 3)) ∧ ∃ σ35, σ35 = m_set σ32 7 ((m_i σ 0 (0) 1).toNatClampNeg) (10) (.inl (Int32.ofInt 0)) ∧ ∃ σ38, σ38 = m_set σ35 7 ((m_i σ 0 (0) 1).toNatClampNeg) (11) (.inl (Int32.ofInt 0)) ∧ ∃ σ41, σ41 = m_set σ38 7 ((m_i σ 0 (0) 1).toNatClampNeg) (12) (.inr (.inr none)) ∧ w = (some (7, (m_i σ 0 (0) 1).toNatClampNeg)) ∧ σ' = σ41) ∨ (¬ ((m_i σ 0 (0) 1).toInt < (120 : Int)) ∧ J4_19 σ w σ'))))
theorem x4 {σ σ' : mS} {x1 : Int32} {x2 : Int32} {x3 : Int32} {x4 : Int32} {x5 : Int32} {w : mR} (hs : HS σ) (h : ev_run sm_all 4 [rf 0 (0), .inl (x1), .inl (x2), .inl (x3), .inl (x4), .inl (x5)] σ (.inl (some (.inr (.inr w)))) σ') : P4 σ x1 x2 x3 x4 x5 w σ' := by
  unfold P4
  obtain ⟨F, f, h⟩ := ei_go h z4_at
  replace h : EV F f 4 z4 0 [some (rf 0 (0)), some (.inl (x1)), some (.inl (x2)), some (.inl (x3)), some (.inl (x4)), some (.inl (x5)), none] [] σ (.inl (some (.inr (.inr w))), σ') := h
  replace h := ei_p h rfl rfl rfl rfl
  obtain ⟨f, g, h⟩ := h
  clear g
  replace h : EV F f 4 z4 1 [some (rf 0 (0)), some (.inl (x1)), some (.inl (x2)), some (.inl (x3)), some (.inl (x4)), some (.inl (x5)), none] [rf 0 (0)] σ (.inl (some (.inr (.inr w))), σ') := h
  replace h := ei_get h rfl rfl
  obtain ⟨f, g, h⟩ := h
  clear g
  replace h : EV F f 4 z4 4 [some (rf 0 (0)), some (.inl (x1)), some (.inl (x2)), some (.inl (x3)), some (.inl (x4)), some (.inl (x5)), none] [.inl (m_i σ 0 (0) 1)] σ (.inl (some (.inr (.inr w))), σ') := h
  replace h := ei_c h rfl rfl rfl
  rcases h with ⟨hp1, f, g, h⟩ | ⟨hp1, f, g, h⟩
  · skip
    replace hp1 : (m_i σ 0 (0) 1).toInt < (0 : Int) := ic_lt.mp hp1
    refine Or.inl ⟨hp1, ?_⟩
    clear g
    replace h : EV F f 4 z4 19 [some (rf 0 (0)), some (.inl (x1)), some (.inl (x2)), some (.inl (x3)), some (.inl (x4)), some (.inl (x5)), none] [] σ (.inl (some (.inr (.inr w))), σ') := h
    exact j4_19 hs h
  · skip
    replace hp1 : ¬ ((m_i σ 0 (0) 1).toInt < (0 : Int)) := (not_congr ic_lt).mp hp1
    refine Or.inr ⟨hp1, ?_⟩
    clear g
    replace h : EV F f 4 z4 7 [some (rf 0 (0)), some (.inl (x1)), some (.inl (x2)), some (.inl (x3)), some (.inl (x4)), some (.inl (x5)), none] [] σ (.inl (some (.inr (.inr w))), σ') := h
    replace h := ei_p h rfl rfl rfl rfl
    obtain ⟨f, g, h⟩ := h
    clear g
    replace h : EV F f 4 z4 8 [some (rf 0 (0)), some (.inl (x1)), some (.inl (x2)), some (.inl (x3)), some (.inl (x4)), some (.inl (x5)), none] [rf 0 (0)] σ (.inl (some (.inr (.inr w))), σ') := h
    replace h := ei_get h rfl rfl
    obtain ⟨f, g, h⟩ := h
    clear g
    replace h : EV F f 4 z4 11 [some (rf 0 (0)), some (.inl (x1)), some (.inl (x2)), some (.inl (x3)), some (.inl (x4)), some (.inl (x5)), none] [.inl (m_i σ 0 (0) 1)] σ (.inl (some (.inr (.inr w))), σ') := h
    replace h := ei_p h rfl rfl rfl rfl
    obtain ⟨f, g, h⟩ := h
    clear g
    replace h : EV F f 4 z4 12 [some (rf 0 (0)), some (.inl (x1)), some (.inl (x2)), some (.inl (x3)), some (.inl (x4)), some (.inl (x5)), none] [rf 0 (0), .inl (m_i σ 0 (0) 1)] σ (.inl (some (.inr (.inr w))), σ') := h
    replace h := ei_get h rfl (HS_g0_0 hs)
    obtain ⟨f, g, h⟩ := h
    clear g
    replace h : EV F f 4 z4 15 [some (rf 0 (0)), some (.inl (x1)), some (.inl (x2)), some (.inl (x3)), some (.inl (x4)), some (.inl (x5)), none] [rf 17 (0), .inl (m_i σ 0 (0) 1)] σ (.inl (some (.inr (.inr w))), σ') := h
    replace h := ei_len h rfl (HS_l17_0 hs) ⟨Nat.le_of_ble_eq_true rfl, Nat.le_of_ble_eq_true rfl⟩
    obtain ⟨f, g, h⟩ := h
    clear g
    replace h : EV F f 4 z4 16 [some (rf 0 (0)), some (.inl (x1)), some (.inl (x2)), some (.inl (x3)), some (.inl (x4)), some (.inl (x5)), none] [.inl (Int32.ofInt 120), .inl (m_i σ 0 (0) 1)] σ (.inl (some (.inr (.inr w))), σ') := h
    replace h := ei_c h rfl rfl rfl
    rcases h with ⟨hp2, f, g, h⟩ | ⟨hp2, f, g, h⟩
    · skip
      replace hp2 : (m_i σ 0 (0) 1).toInt < (120 : Int) := ic_lt.mp hp2
      refine Or.inl ⟨hp2, ?_⟩
      clear g
      replace h : EV F f 4 z4 21 [some (rf 0 (0)), some (.inl (x1)), some (.inl (x2)), some (.inl (x3)), some (.inl (x4)), some (.inl (x5)), none] [] σ (.inl (some (.inr (.inr w))), σ') := h
      replace h := ei_p h rfl rfl rfl rfl
      obtain ⟨f, g, h⟩ := h
      clear g
      replace h : EV F f 4 z4 22 [some (rf 0 (0)), some (.inl (x1)), some (.inl (x2)), some (.inl (x3)), some (.inl (x4)), some (.inl (x5)), none] [rf 0 (0)] σ (.inl (some (.inr (.inr w))), σ') := h
      replace h := ei_get h rfl (HS_g0_0 hs)
      obtain ⟨f, g, h⟩ := h
      clear g
      replace h : EV F f 4 z4 25 [some (rf 0 (0)), some (.inl (x1)), some (.inl (x2)), some (.inl (x3)), some (.inl (x4)), some (.inl (x5)), none] [rf 17 (0)] σ (.inl (some (.inr (.inr w))), σ') := h
      replace h := ei_p h rfl rfl rfl rfl
      obtain ⟨f, g, h⟩ := h
      clear g
      replace h : EV F f 4 z4 26 [some (rf 0 (0)), some (.inl (x1)), some (.inl (x2)), some (.inl (x3)), some (.inl (x4)), some (.inl (x5)), none] [rf 0 (0), rf 17 (0)] σ (.inl (some (.inr (.inr w))), σ') := h
      replace h := ei_get h rfl rfl
      obtain ⟨f, g, h⟩ := h
      clear g
      replace h : EV F f 4 z4 29 [some (rf 0 (0)), some (.inl (x1)), some (.inl (x2)), some (.inl (x3)), some (.inl (x4)), some (.inl (x5)), none] [.inl (m_i σ 0 (0) 1), rf 17 (0)] σ (.inl (some (.inr (.inr w))), σ') := h
      replace h := ei_ald h rfl (HS_a17 hs)
      obtain ⟨vp3, f, g, h⟩ := h
      clear g
      replace h : EV F f 4 z4 30 [some (rf 0 (0)), some (.inl (x1)), some (.inl (x2)), some (.inl (x3)), some (.inl (x4)), some (.inl (x5)), none] [rf 7 ((m_i σ 0 (0) 1).toNatClampNeg)] σ (.inl (some (.inr (.inr w))), σ') := h
      refine ⟨HS_v17 hs vp3, ?_⟩
      replace h := ei_p h rfl rfl rfl rfl
      obtain ⟨f, g, h⟩ := h
      clear g
      replace h : EV F f 4 z4 32 [some (rf 0 (0)), some (.inl (x1)), some (.inl (x2)), some (.inl (x3)), some (.inl (x4)), some (.inl (x5)), some (rf 7 ((m_i σ 0 (0) 1).toNatClampNeg))] [] σ (.inl (some (.inr (.inr w))), σ') := h
      replace h := ei_p h rfl rfl rfl rfl
      obtain ⟨f, g, h⟩ := h
      clear g
      replace h : EV F f 4 z4 33 [some (rf 0 (0)), some (.inl (x1)), some (.inl (x2)), some (.inl (x3)), some (.inl (x4)), some (.inl (x5)), some (rf 7 ((m_i σ 0 (0) 1).toNatClampNeg))] [rf 0 (0)] σ (.inl (some (.inr (.inr w))), σ') := h
      replace h := ei_p h rfl rfl rfl rfl
      obtain ⟨f, g, h⟩ := h
      clear g
      replace h : EV F f 4 z4 34 [some (rf 0 (0)), some (.inl (x1)), some (.inl (x2)), some (.inl (x3)), some (.inl (x4)), some (.inl (x5)), some (rf 7 ((m_i σ 0 (0) 1).toNatClampNeg))] [rf 0 (0), rf 0 (0)] σ (.inl (some (.inr (.inr w))), σ') := h
      replace h := ei_get h rfl rfl
      obtain ⟨f, g, h⟩ := h
      clear g
      replace h : EV F f 4 z4 37 [some (rf 0 (0)), some (.inl (x1)), some (.inl (x2)), some (.inl (x3)), some (.inl (x4)), some (.inl (x5)), some (rf 7 ((m_i σ 0 (0) 1).toNatClampNeg))] [.inl (m_i σ 0 (0) 1), rf 0 (0)] σ (.inl (some (.inr (.inr w))), σ') := h
      replace h := ei_p h rfl rfl rfl rfl
      obtain ⟨f, g, h⟩ := h
      clear g
      replace h : EV F f 4 z4 38 [some (rf 0 (0)), some (.inl (x1)), some (.inl (x2)), some (.inl (x3)), some (.inl (x4)), some (.inl (x5)), some (rf 7 ((m_i σ 0 (0) 1).toNatClampNeg))] [.inl (Int32.ofInt 1), .inl (m_i σ 0 (0) 1), rf 0 (0)] σ (.inl (some (.inr (.inr w))), σ') := h
      replace h := ei_p h rfl rfl rfl rfl
      obtain ⟨f, g, h⟩ := h
      clear g
      replace h : EV F f 4 z4 39 [some (rf 0 (0)), some (.inl (x1)), some (.inl (x2)), some (.inl (x3)), some (.inl (x4)), some (.inl (x5)), some (rf 7 ((m_i σ 0 (0) 1).toNatClampNeg))] [.inl ((m_i σ 0 (0) 1) + (Int32.ofInt 1)), rf 0 (0)] σ (.inl (some (.inr (.inr w))), σ') := h
      replace h := ei_put h rfl
      obtain ⟨ht4, f, g, h⟩ := h
      clear g
      obtain ⟨σ5, e6⟩ : ∃ s, s = m_set σ 0 (0) (1) (.inl ((m_i σ 0 (0) 1) + (Int32.ofInt 1))) := ⟨_, rfl⟩
      rw [← e6] at h
      have hsσ5 : HS σ5 := by rw [e6]; exact HS_set hs rfl
      refine ⟨σ5, e6, ?_⟩
      replace h : EV F f 4 z4 42 [some (rf 0 (0)), some (.inl (x1)), some (.inl (x2)), some (.inl (x3)), some (.inl (x4)), some (.inl (x5)), some (rf 7 ((m_i σ 0 (0) 1).toNatClampNeg))] [] σ5 (.inl (some (.inr (.inr w))), σ') := h
      replace h := ei_p h rfl rfl rfl rfl
      obtain ⟨f, g, h⟩ := h
      clear g
      replace h : EV F f 4 z4 44 [some (rf 0 (0)), some (.inl (x1)), some (.inl (x2)), some (.inl (x3)), some (.inl (x4)), some (.inl (x5)), some (rf 7 ((m_i σ 0 (0) 1).toNatClampNeg))] [rf 7 ((m_i σ 0 (0) 1).toNatClampNeg)] σ5 (.inl (some (.inr (.inr w))), σ') := h
      replace h := ei_p h rfl rfl rfl rfl
      obtain ⟨f, g, h⟩ := h
      clear g
      replace h : EV F f 4 z4 45 [some (rf 0 (0)), some (.inl (x1)), some (.inl (x2)), some (.inl (x3)), some (.inl (x4)), some (.inl (x5)), some (rf 7 ((m_i σ 0 (0) 1).toNatClampNeg))] [.inl (x1), rf 7 ((m_i σ 0 (0) 1).toNatClampNeg)] σ5 (.inl (some (.inr (.inr w))), σ') := h
      replace h := ei_put h rfl
      obtain ⟨ht7, f, g, h⟩ := h
      clear g
      obtain ⟨σ8, e9⟩ : ∃ s, s = m_set σ5 7 ((m_i σ 0 (0) 1).toNatClampNeg) (1) (.inl (x1)) := ⟨_, rfl⟩
      rw [← e9] at h
      have hsσ8 : HS σ8 := by rw [e9]; exact HS_set hsσ5 rfl
      refine ⟨σ8, e9, ?_⟩
      replace h : EV F f 4 z4 48 [some (rf 0 (0)), some (.inl (x1)), some (.inl (x2)), some (.inl (x3)), some (.inl (x4)), some (.inl (x5)), some (rf 7 ((m_i σ 0 (0) 1).toNatClampNeg))] [] σ8 (.inl (some (.inr (.inr w))), σ') := h
      replace h := ei_p h rfl rfl rfl rfl
      obtain ⟨f, g, h⟩ := h
      clear g
      replace h : EV F f 4 z4 50 [some (rf 0 (0)), some (.inl (x1)), some (.inl (x2)), some (.inl (x3)), some (.inl (x4)), some (.inl (x5)), some (rf 7 ((m_i σ 0 (0) 1).toNatClampNeg))] [rf 7 ((m_i σ 0 (0) 1).toNatClampNeg)] σ8 (.inl (some (.inr (.inr w))), σ') := h
      replace h := ei_p h rfl rfl rfl rfl
      obtain ⟨f, g, h⟩ := h
      clear g
      replace h : EV F f 4 z4 51 [some (rf 0 (0)), some (.inl (x1)), some (.inl (x2)), some (.inl (x3)), some (.inl (x4)), some (.inl (x5)), some (rf 7 ((m_i σ 0 (0) 1).toNatClampNeg))] [.inl (x2), rf 7 ((m_i σ 0 (0) 1).toNatClampNeg)] σ8 (.inl (some (.inr (.inr w))), σ') := h
      replace h := ei_put h rfl
      obtain ⟨ht10, f, g, h⟩ := h
      clear g
      obtain ⟨σ11, e12⟩ : ∃ s, s = m_set σ8 7 ((m_i σ 0 (0) 1).toNatClampNeg) (2) (.inl (x2)) := ⟨_, rfl⟩
      rw [← e12] at h
      have hsσ11 : HS σ11 := by rw [e12]; exact HS_set hsσ8 rfl
      refine ⟨σ11, e12, ?_⟩
      replace h : EV F f 4 z4 54 [some (rf 0 (0)), some (.inl (x1)), some (.inl (x2)), some (.inl (x3)), some (.inl (x4)), some (.inl (x5)), some (rf 7 ((m_i σ 0 (0) 1).toNatClampNeg))] [] σ11 (.inl (some (.inr (.inr w))), σ') := h
      replace h := ei_p h rfl rfl rfl rfl
      obtain ⟨f, g, h⟩ := h
      clear g
      replace h : EV F f 4 z4 56 [some (rf 0 (0)), some (.inl (x1)), some (.inl (x2)), some (.inl (x3)), some (.inl (x4)), some (.inl (x5)), some (rf 7 ((m_i σ 0 (0) 1).toNatClampNeg))] [rf 7 ((m_i σ 0 (0) 1).toNatClampNeg)] σ11 (.inl (some (.inr (.inr w))), σ') := h
      replace h := ei_p h rfl rfl rfl rfl
      obtain ⟨f, g, h⟩ := h
      clear g
      replace h : EV F f 4 z4 57 [some (rf 0 (0)), some (.inl (x1)), some (.inl (x2)), some (.inl (x3)), some (.inl (x4)), some (.inl (x5)), some (rf 7 ((m_i σ 0 (0) 1).toNatClampNeg))] [.inl (x3), rf 7 ((m_i σ 0 (0) 1).toNatClampNeg)] σ11 (.inl (some (.inr (.inr w))), σ') := h
      replace h := ei_put h rfl
      obtain ⟨ht13, f, g, h⟩ := h
      clear g
      obtain ⟨σ14, e15⟩ : ∃ s, s = m_set σ11 7 ((m_i σ 0 (0) 1).toNatClampNeg) (3) (.inl (x3)) := ⟨_, rfl⟩
      rw [← e15] at h
      have hsσ14 : HS σ14 := by rw [e15]; exact HS_set hsσ11 rfl
      refine ⟨σ14, e15, ?_⟩
      replace h : EV F f 4 z4 60 [some (rf 0 (0)), some (.inl (x1)), some (.inl (x2)), some (.inl (x3)), some (.inl (x4)), some (.inl (x5)), some (rf 7 ((m_i σ 0 (0) 1).toNatClampNeg))] [] σ14 (.inl (some (.inr (.inr w))), σ') := h
      replace h := ei_p h rfl rfl rfl rfl
      obtain ⟨f, g, h⟩ := h
      clear g
      replace h : EV F f 4 z4 62 [some (rf 0 (0)), some (.inl (x1)), some (.inl (x2)), some (.inl (x3)), some (.inl (x4)), some (.inl (x5)), some (rf 7 ((m_i σ 0 (0) 1).toNatClampNeg))] [rf 7 ((m_i σ 0 (0) 1).toNatClampNeg)] σ14 (.inl (some (.inr (.inr w))), σ') := h
      replace h := ei_p h rfl rfl rfl rfl
      obtain ⟨f, g, h⟩ := h
      clear g
      replace h : EV F f 4 z4 64 [some (rf 0 (0)), some (.inl (x1)), some (.inl (x2)), some (.inl (x3)), some (.inl (x4)), some (.inl (x5)), some (rf 7 ((m_i σ 0 (0) 1).toNatClampNeg))] [.inl (x4), rf 7 ((m_i σ 0 (0) 1).toNatClampNeg)] σ14 (.inl (some (.inr (.inr w))), σ') := h
      replace h := ei_put h rfl
      obtain ⟨ht16, f, g, h⟩ := h
      clear g
      obtain ⟨σ17, e18⟩ : ∃ s, s = m_set σ14 7 ((m_i σ 0 (0) 1).toNatClampNeg) (4) (.inl (x4)) := ⟨_, rfl⟩
      rw [← e18] at h
      have hsσ17 : HS σ17 := by rw [e18]; exact HS_set hsσ14 rfl
      refine ⟨σ17, e18, ?_⟩
      replace h : EV F f 4 z4 67 [some (rf 0 (0)), some (.inl (x1)), some (.inl (x2)), some (.inl (x3)), some (.inl (x4)), some (.inl (x5)), some (rf 7 ((m_i σ 0 (0) 1).toNatClampNeg))] [] σ17 (.inl (some (.inr (.inr w))), σ') := h
      replace h := ei_p h rfl rfl rfl rfl
      obtain ⟨f, g, h⟩ := h
      clear g
      replace h : EV F f 4 z4 69 [some (rf 0 (0)), some (.inl (x1)), some (.inl (x2)), some (.inl (x3)), some (.inl (x4)), some (.inl (x5)), some (rf 7 ((m_i σ 0 (0) 1).toNatClampNeg))] [rf 7 ((m_i σ 0 (0) 1).toNatClampNeg)] σ17 (.inl (some (.inr (.inr w))), σ') := h
      replace h := ei_p h rfl rfl rfl rfl
      obtain ⟨f, g, h⟩ := h
      clear g
      replace h : EV F f 4 z4 70 [some (rf 0 (0)), some (.inl (x1)), some (.inl (x2)), some (.inl (x3)), some (.inl (x4)), some (.inl (x5)), some (rf 7 ((m_i σ 0 (0) 1).toNatClampNeg))] [.inl (Int32.ofInt 0), rf 7 ((m_i σ 0 (0) 1).toNatClampNeg)] σ17 (.inl (some (.inr (.inr w))), σ') := h
      replace h := ei_put h rfl
      obtain ⟨ht19, f, g, h⟩ := h
      clear g
      obtain ⟨σ20, e21⟩ : ∃ s, s = m_set σ17 7 ((m_i σ 0 (0) 1).toNatClampNeg) (5) (.inl (Int32.ofInt 0)) := ⟨_, rfl⟩
      rw [← e21] at h
      have hsσ20 : HS σ20 := by rw [e21]; exact HS_set hsσ17 rfl
      refine ⟨σ20, e21, ?_⟩
      replace h : EV F f 4 z4 73 [some (rf 0 (0)), some (.inl (x1)), some (.inl (x2)), some (.inl (x3)), some (.inl (x4)), some (.inl (x5)), some (rf 7 ((m_i σ 0 (0) 1).toNatClampNeg))] [] σ20 (.inl (some (.inr (.inr w))), σ') := h
      replace h := ei_p h rfl rfl rfl rfl
      obtain ⟨f, g, h⟩ := h
      clear g
      replace h : EV F f 4 z4 75 [some (rf 0 (0)), some (.inl (x1)), some (.inl (x2)), some (.inl (x3)), some (.inl (x4)), some (.inl (x5)), some (rf 7 ((m_i σ 0 (0) 1).toNatClampNeg))] [rf 7 ((m_i σ 0 (0) 1).toNatClampNeg)] σ20 (.inl (some (.inr (.inr w))), σ') := h
      replace h := ei_p h rfl rfl rfl rfl
      obtain ⟨f, g, h⟩ := h
      clear g
      replace h : EV F f 4 z4 77 [some (rf 0 (0)), some (.inl (x1)), some (.inl (x2)), some (.inl (x3)), some (.inl (x4)), some (.inl (x5)), some (rf 7 ((m_i σ 0 (0) 1).toNatClampNeg))] [.inl (x5), rf 7 ((m_i σ 0 (0) 1).toNatClampNeg)] σ20 (.inl (some (.inr (.inr w))), σ') := h
      replace h := ei_put h rfl
      obtain ⟨ht22, f, g, h⟩ := h
      clear g
      obtain ⟨σ23, e24⟩ : ∃ s, s = m_set σ20 7 ((m_i σ 0 (0) 1).toNatClampNeg) (6) (.inl (x5)) := ⟨_, rfl⟩
      rw [← e24] at h
      have hsσ23 : HS σ23 := by rw [e24]; exact HS_set hsσ20 rfl
      refine ⟨σ23, e24, ?_⟩
      replace h : EV F f 4 z4 80 [some (rf 0 (0)), some (.inl (x1)), some (.inl (x2)), some (.inl (x3)), some (.inl (x4)), some (.inl (x5)), some (rf 7 ((m_i σ 0 (0) 1).toNatClampNeg))] [] σ23 (.inl (some (.inr (.inr w))), σ') := h
      replace h := ei_p h rfl rfl rfl rfl
      obtain ⟨f, g, h⟩ := h
      clear g
      replace h : EV F f 4 z4 82 [some (rf 0 (0)), some (.inl (x1)), some (.inl (x2)), some (.inl (x3)), some (.inl (x4)), some (.inl (x5)), some (rf 7 ((m_i σ 0 (0) 1).toNatClampNeg))] [rf 7 ((m_i σ 0 (0) 1).toNatClampNeg)] σ23 (.inl (some (.inr (.inr w))), σ') := h
      replace h := ei_p h rfl rfl rfl rfl
      obtain ⟨f, g, h⟩ := h
      clear g
      replace h : EV F f 4 z4 83 [some (rf 0 (0)), some (.inl (x1)), some (.inl (x2)), some (.inl (x3)), some (.inl (x4)), some (.inl (x5)), some (rf 7 ((m_i σ 0 (0) 1).toNatClampNeg))] [.inl (Int32.ofInt 0), rf 7 ((m_i σ 0 (0) 1).toNatClampNeg)] σ23 (.inl (some (.inr (.inr w))), σ') := h
      replace h := ei_put h rfl
      obtain ⟨ht25, f, g, h⟩ := h
      clear g
      obtain ⟨σ26, e27⟩ : ∃ s, s = m_set σ23 7 ((m_i σ 0 (0) 1).toNatClampNeg) (7) (.inl (Int32.ofInt 0)) := ⟨_, rfl⟩
      rw [← e27] at h
      have hsσ26 : HS σ26 := by rw [e27]; exact HS_set hsσ23 rfl
      refine ⟨σ26, e27, ?_⟩
      replace h : EV F f 4 z4 86 [some (rf 0 (0)), some (.inl (x1)), some (.inl (x2)), some (.inl (x3)), some (.inl (x4)), some (.inl (x5)), some (rf 7 ((m_i σ 0 (0) 1).toNatClampNeg))] [] σ26 (.inl (some (.inr (.inr w))), σ') := h
      replace h := ei_p h rfl rfl rfl rfl
      obtain ⟨f, g, h⟩ := h
      clear g
      replace h : EV F f 4 z4 88 [some (rf 0 (0)), some (.inl (x1)), some (.inl (x2)), some (.inl (x3)), some (.inl (x4)), some (.inl (x5)), some (rf 7 ((m_i σ 0 (0) 1).toNatClampNeg))] [rf 7 ((m_i σ 0 (0) 1).toNatClampNeg)] σ26 (.inl (some (.inr (.inr w))), σ') := h
      replace h := ei_p h rfl rfl rfl rfl
      obtain ⟨f, g, h⟩ := h
      clear g
      replace h : EV F f 4 z4 89 [some (rf 0 (0)), some (.inl (x1)), some (.inl (x2)), some (.inl (x3)), some (.inl (x4)), some (.inl (x5)), some (rf 7 ((m_i σ 0 (0) 1).toNatClampNeg))] [.inl (Int32.ofInt 0), rf 7 ((m_i σ 0 (0) 1).toNatClampNeg)] σ26 (.inl (some (.inr (.inr w))), σ') := h
      replace h := ei_put h rfl
      obtain ⟨ht28, f, g, h⟩ := h
      clear g
      obtain ⟨σ29, e30⟩ : ∃ s, s = m_set σ26 7 ((m_i σ 0 (0) 1).toNatClampNeg) (8) (.inl (Int32.ofInt 0)) := ⟨_, rfl⟩
      rw [← e30] at h
      have hsσ29 : HS σ29 := by rw [e30]; exact HS_set hsσ26 rfl
      refine ⟨σ29, e30, ?_⟩
      replace h : EV F f 4 z4 92 [some (rf 0 (0)), some (.inl (x1)), some (.inl (x2)), some (.inl (x3)), some (.inl (x4)), some (.inl (x5)), some (rf 7 ((m_i σ 0 (0) 1).toNatClampNeg))] [] σ29 (.inl (some (.inr (.inr w))), σ') := h
      replace h := ei_p h rfl rfl rfl rfl
      obtain ⟨f, g, h⟩ := h
      clear g
      replace h : EV F f 4 z4 94 [some (rf 0 (0)), some (.inl (x1)), some (.inl (x2)), some (.inl (x3)), some (.inl (x4)), some (.inl (x5)), some (rf 7 ((m_i σ 0 (0) 1).toNatClampNeg))] [rf 7 ((m_i σ 0 (0) 1).toNatClampNeg)] σ29 (.inl (some (.inr (.inr w))), σ') := h
      replace h := ei_p h rfl rfl rfl rfl
      obtain ⟨f, g, h⟩ := h
      clear g
      replace h : EV F f 4 z4 95 [some (rf 0 (0)), some (.inl (x1)), some (.inl (x2)), some (.inl (x3)), some (.inl (x4)), some (.inl (x5)), some (rf 7 ((m_i σ 0 (0) 1).toNatClampNeg))] [.inl (Int32.ofInt 3), rf 7 ((m_i σ 0 (0) 1).toNatClampNeg)] σ29 (.inl (some (.inr (.inr w))), σ') := h
      replace h := ei_put h rfl
      obtain ⟨ht31, f, g, h⟩ := h
      clear g
      obtain ⟨σ32, e33⟩ : ∃ s, s = m_set σ29 7 ((m_i σ 0 (0) 1).toNatClampNeg) (9) (.inl (Int32.ofInt 3)) := ⟨_, rfl⟩
      rw [← e33] at h
      have hsσ32 : HS σ32 := by rw [e33]; exact HS_set hsσ29 rfl
      refine ⟨σ32, e33, ?_⟩
      replace h : EV F f 4 z4 98 [some (rf 0 (0)), some (.inl (x1)), some (.inl (x2)), some (.inl (x3)), some (.inl (x4)), some (.inl (x5)), some (rf 7 ((m_i σ 0 (0) 1).toNatClampNeg))] [] σ32 (.inl (some (.inr (.inr w))), σ') := h
      replace h := ei_p h rfl rfl rfl rfl
      obtain ⟨f, g, h⟩ := h
      clear g
      replace h : EV F f 4 z4 100 [some (rf 0 (0)), some (.inl (x1)), some (.inl (x2)), some (.inl (x3)), some (.inl (x4)), some (.inl (x5)), some (rf 7 ((m_i σ 0 (0) 1).toNatClampNeg))] [rf 7 ((m_i σ 0 (0) 1).toNatClampNeg)] σ32 (.inl (some (.inr (.inr w))), σ') := h
      replace h := ei_p h rfl rfl rfl rfl
      obtain ⟨f, g, h⟩ := h
      clear g
      replace h : EV F f 4 z4 101 [some (rf 0 (0)), some (.inl (x1)), some (.inl (x2)), some (.inl (x3)), some (.inl (x4)), some (.inl (x5)), some (rf 7 ((m_i σ 0 (0) 1).toNatClampNeg))] [.inl (Int32.ofInt 0), rf 7 ((m_i σ 0 (0) 1).toNatClampNeg)] σ32 (.inl (some (.inr (.inr w))), σ') := h
      replace h := ei_put h rfl
      obtain ⟨ht34, f, g, h⟩ := h
      clear g
      obtain ⟨σ35, e36⟩ : ∃ s, s = m_set σ32 7 ((m_i σ 0 (0) 1).toNatClampNeg) (10) (.inl (Int32.ofInt 0)) := ⟨_, rfl⟩
      rw [← e36] at h
      have hsσ35 : HS σ35 := by rw [e36]; exact HS_set hsσ32 rfl
      refine ⟨σ35, e36, ?_⟩
      replace h : EV F f 4 z4 104 [some (rf 0 (0)), some (.inl (x1)), some (.inl (x2)), some (.inl (x3)), some (.inl (x4)), some (.inl (x5)), some (rf 7 ((m_i σ 0 (0) 1).toNatClampNeg))] [] σ35 (.inl (some (.inr (.inr w))), σ') := h
      replace h := ei_p h rfl rfl rfl rfl
      obtain ⟨f, g, h⟩ := h
      clear g
      replace h : EV F f 4 z4 106 [some (rf 0 (0)), some (.inl (x1)), some (.inl (x2)), some (.inl (x3)), some (.inl (x4)), some (.inl (x5)), some (rf 7 ((m_i σ 0 (0) 1).toNatClampNeg))] [rf 7 ((m_i σ 0 (0) 1).toNatClampNeg)] σ35 (.inl (some (.inr (.inr w))), σ') := h
      replace h := ei_p h rfl rfl rfl rfl
      obtain ⟨f, g, h⟩ := h
      clear g
      replace h : EV F f 4 z4 107 [some (rf 0 (0)), some (.inl (x1)), some (.inl (x2)), some (.inl (x3)), some (.inl (x4)), some (.inl (x5)), some (rf 7 ((m_i σ 0 (0) 1).toNatClampNeg))] [.inl (Int32.ofInt 0), rf 7 ((m_i σ 0 (0) 1).toNatClampNeg)] σ35 (.inl (some (.inr (.inr w))), σ') := h
      replace h := ei_put h rfl
      obtain ⟨ht37, f, g, h⟩ := h
      clear g
      obtain ⟨σ38, e39⟩ : ∃ s, s = m_set σ35 7 ((m_i σ 0 (0) 1).toNatClampNeg) (11) (.inl (Int32.ofInt 0)) := ⟨_, rfl⟩
      rw [← e39] at h
      have hsσ38 : HS σ38 := by rw [e39]; exact HS_set hsσ35 rfl
      refine ⟨σ38, e39, ?_⟩
      replace h : EV F f 4 z4 110 [some (rf 0 (0)), some (.inl (x1)), some (.inl (x2)), some (.inl (x3)), some (.inl (x4)), some (.inl (x5)), some (rf 7 ((m_i σ 0 (0) 1).toNatClampNeg))] [] σ38 (.inl (some (.inr (.inr w))), σ') := h
      replace h := ei_p h rfl rfl rfl rfl
      obtain ⟨f, g, h⟩ := h
      clear g
      replace h : EV F f 4 z4 112 [some (rf 0 (0)), some (.inl (x1)), some (.inl (x2)), some (.inl (x3)), some (.inl (x4)), some (.inl (x5)), some (rf 7 ((m_i σ 0 (0) 1).toNatClampNeg))] [rf 7 ((m_i σ 0 (0) 1).toNatClampNeg)] σ38 (.inl (some (.inr (.inr w))), σ') := h
      replace h := ei_p h rfl rfl rfl rfl
      obtain ⟨f, g, h⟩ := h
      clear g
      replace h : EV F f 4 z4 113 [some (rf 0 (0)), some (.inl (x1)), some (.inl (x2)), some (.inl (x3)), some (.inl (x4)), some (.inl (x5)), some (rf 7 ((m_i σ 0 (0) 1).toNatClampNeg))] [.inr (.inr none), rf 7 ((m_i σ 0 (0) 1).toNatClampNeg)] σ38 (.inl (some (.inr (.inr w))), σ') := h
      replace h := ei_put h rfl
      obtain ⟨ht40, f, g, h⟩ := h
      clear g
      obtain ⟨σ41, e42⟩ : ∃ s, s = m_set σ38 7 ((m_i σ 0 (0) 1).toNatClampNeg) (12) (.inr (.inr none)) := ⟨_, rfl⟩
      rw [← e42] at h
      have hsσ41 : HS σ41 := by rw [e42]; exact HS_set hsσ38 rfl
      refine ⟨σ41, e42, ?_⟩
      replace h : EV F f 4 z4 116 [some (rf 0 (0)), some (.inl (x1)), some (.inl (x2)), some (.inl (x3)), some (.inl (x4)), some (.inl (x5)), some (rf 7 ((m_i σ 0 (0) 1).toNatClampNeg))] [] σ41 (.inl (some (.inr (.inr w))), σ') := h
      replace h := ei_p h rfl rfl rfl rfl
      obtain ⟨f, g, h⟩ := h
      clear g
      replace h : EV F f 4 z4 118 [some (rf 0 (0)), some (.inl (x1)), some (.inl (x2)), some (.inl (x3)), some (.inl (x4)), some (.inl (x5)), some (rf 7 ((m_i σ 0 (0) 1).toNatClampNeg))] [rf 7 ((m_i σ 0 (0) 1).toNatClampNeg)] σ41 (.inl (some (.inr (.inr w))), σ') := h
      have e := ei_aret h rfl
      cases e
      exact ⟨rfl, rfl⟩
    · skip
      replace hp2 : ¬ ((m_i σ 0 (0) 1).toInt < (120 : Int)) := (not_congr ic_lt).mp hp2
      refine Or.inr ⟨hp2, ?_⟩
      clear g
      replace h : EV F f 4 z4 19 [some (rf 0 (0)), some (.inl (x1)), some (.inl (x2)), some (.inl (x3)), some (.inl (x4)), some (.inl (x5)), none] [] σ (.inl (some (.inr (.inr w))), σ') := h
      exact j4_19 hs h
def z105 : mAl := ((yX7_showAnew, cX7_showAnew, 1, none, { frames := 0, cells := 0, slots := 0, locals := 0 }, []), rw_X7_showAnew, false)
theorem z105_at : m_alF[105]? = some z105 := rfl
abbrev L105 : List (Nat × Nat) := [(7, 7)]
abbrev w105 : Nat → Nat → Bool := wl L105
def S105 : List Nat := [105]
theorem W105 : fw_S w105 S105 = true := by decide +kernel
def P105 (σ : mS) (a : Nat) (σ' : mS) : Prop := (((m_i σ 7 (a) 5).toInt = (0 : Int) ∧ ∃ σ3, σ3 = m_set σ 7 (a) (7) (.inl (m_i σ 7 (a) 6)) ∧ σ' = σ3) ∨ (¬ ((m_i σ 7 (a) 5).toInt = (0 : Int)) ∧ (((m_i σ 7 (a) 5).toInt ≤ (m_i σ 7 (a) 6).toInt ∧ ∃ σ7, σ7 = m_set σ 7 (a) (7) (.inl (m_i σ 7 (a) 5)) ∧ σ' = σ7) ∨ (¬ ((m_i σ 7 (a) 5).toInt ≤ (m_i σ 7 (a) 6).toInt) ∧ ∃ σ10, σ10 = m_set σ 7 (a) (7) (.inl (m_i σ 7 (a) 6)) ∧ σ' = σ10))))
theorem x105 {σ σ' : mS} {a : Nat} (hs : HS σ) (h : ev_run sm_all 105 [rf 7 (a)] σ (.inl none) σ') : P105 σ a σ' := by
  unfold P105
  obtain ⟨F, f, h⟩ := ei_go h z105_at
  replace h : EV F f 105 z105 0 [some (rf 7 (a))] [] σ (.inl none, σ') := h
  replace h := ei_p h rfl rfl rfl rfl
  obtain ⟨f, g, h⟩ := h
  clear g
  replace h : EV F f 105 z105 1 [some (rf 7 (a))] [rf 7 (a)] σ (.inl none, σ') := h
  replace h := ei_p h rfl rfl rfl rfl
  obtain ⟨f, g, h⟩ := h
  clear g
  replace h : EV F f 105 z105 2 [some (rf 7 (a))] [rf 7 (a), rf 7 (a)] σ (.inl none, σ') := h
  replace h := ei_get h rfl rfl
  obtain ⟨f, g, h⟩ := h
  clear g
  replace h : EV F f 105 z105 5 [some (rf 7 (a))] [.inl (m_i σ 7 (a) 5), rf 7 (a)] σ (.inl none, σ') := h
  replace h := ei_c h rfl rfl rfl
  rcases h with ⟨hp1, f, g, h⟩ | ⟨hp1, f, g, h⟩
  · skip
    replace hp1 : (m_i σ 7 (a) 5).toInt = (0 : Int) := ic_eq.mp hp1
    refine Or.inl ⟨hp1, ?_⟩
    clear g
    replace h : EV F f 105 z105 19 [some (rf 7 (a))] [rf 7 (a)] σ (.inl none, σ') := h
    replace h := ei_p h rfl rfl rfl rfl
    obtain ⟨f, g, h⟩ := h
    clear g
    replace h : EV F f 105 z105 20 [some (rf 7 (a))] [rf 7 (a), rf 7 (a)] σ (.inl none, σ') := h
    replace h := ei_get h rfl rfl
    obtain ⟨f, g, h⟩ := h
    clear g
    replace h : EV F f 105 z105 23 [some (rf 7 (a))] [.inl (m_i σ 7 (a) 6), rf 7 (a)] σ (.inl none, σ') := h
    replace h := ei_p h rfl rfl rfl rfl
    obtain ⟨f, g, h⟩ := h
    clear g
    replace h : EV F f 105 z105 30 [some (rf 7 (a))] [.inl (m_i σ 7 (a) 6), rf 7 (a)] σ (.inl none, σ') := h
    replace h := ei_put h rfl
    obtain ⟨ht2, f, g, h⟩ := h
    clear g
    obtain ⟨σ3, e4⟩ : ∃ s, s = m_set σ 7 (a) (7) (.inl (m_i σ 7 (a) 6)) := ⟨_, rfl⟩
    rw [← e4] at h
    have hsσ3 : HS σ3 := by rw [e4]; exact HS_set hs rfl
    refine ⟨σ3, e4, ?_⟩
    replace h : EV F f 105 z105 33 [some (rf 7 (a))] [] σ3 (.inl none, σ') := h
    have e := ei_ret h rfl
    cases e
    exact rfl
  · skip
    replace hp1 : ¬ ((m_i σ 7 (a) 5).toInt = (0 : Int)) := (not_congr ic_eq).mp hp1
    refine Or.inr ⟨hp1, ?_⟩
    clear g
    replace h : EV F f 105 z105 8 [some (rf 7 (a))] [rf 7 (a)] σ (.inl none, σ') := h
    replace h := ei_p h rfl rfl rfl rfl
    obtain ⟨f, g, h⟩ := h
    clear g
    replace h : EV F f 105 z105 9 [some (rf 7 (a))] [rf 7 (a), rf 7 (a)] σ (.inl none, σ') := h
    replace h := ei_get h rfl rfl
    obtain ⟨f, g, h⟩ := h
    clear g
    replace h : EV F f 105 z105 12 [some (rf 7 (a))] [.inl (m_i σ 7 (a) 5), rf 7 (a)] σ (.inl none, σ') := h
    replace h := ei_p h rfl rfl rfl rfl
    obtain ⟨f, g, h⟩ := h
    clear g
    replace h : EV F f 105 z105 13 [some (rf 7 (a))] [rf 7 (a), .inl (m_i σ 7 (a) 5), rf 7 (a)] σ (.inl none, σ') := h
    replace h := ei_get h rfl rfl
    obtain ⟨f, g, h⟩ := h
    clear g
    replace h : EV F f 105 z105 16 [some (rf 7 (a))] [.inl (m_i σ 7 (a) 6), .inl (m_i σ 7 (a) 5), rf 7 (a)] σ (.inl none, σ') := h
    replace h := ei_c h rfl rfl rfl
    rcases h with ⟨hp5, f, g, h⟩ | ⟨hp5, f, g, h⟩
    · skip
      replace hp5 : (m_i σ 7 (a) 5).toInt ≤ (m_i σ 7 (a) 6).toInt := ic_le.mp hp5
      refine Or.inl ⟨hp5, ?_⟩
      clear g
      replace h : EV F f 105 z105 26 [some (rf 7 (a))] [rf 7 (a)] σ (.inl none, σ') := h
      replace h := ei_p h rfl rfl rfl rfl
      obtain ⟨f, g, h⟩ := h
      clear g
      replace h : EV F f 105 z105 27 [some (rf 7 (a))] [rf 7 (a), rf 7 (a)] σ (.inl none, σ') := h
      replace h := ei_get h rfl rfl
      obtain ⟨f, g, h⟩ := h
      clear g
      replace h : EV F f 105 z105 30 [some (rf 7 (a))] [.inl (m_i σ 7 (a) 5), rf 7 (a)] σ (.inl none, σ') := h
      replace h := ei_put h rfl
      obtain ⟨ht6, f, g, h⟩ := h
      clear g
      obtain ⟨σ7, e8⟩ : ∃ s, s = m_set σ 7 (a) (7) (.inl (m_i σ 7 (a) 5)) := ⟨_, rfl⟩
      rw [← e8] at h
      have hsσ7 : HS σ7 := by rw [e8]; exact HS_set hs rfl
      refine ⟨σ7, e8, ?_⟩
      replace h : EV F f 105 z105 33 [some (rf 7 (a))] [] σ7 (.inl none, σ') := h
      have e := ei_ret h rfl
      cases e
      exact rfl
    · skip
      replace hp5 : ¬ ((m_i σ 7 (a) 5).toInt ≤ (m_i σ 7 (a) 6).toInt) := (not_congr ic_le).mp hp5
      refine Or.inr ⟨hp5, ?_⟩
      clear g
      replace h : EV F f 105 z105 19 [some (rf 7 (a))] [rf 7 (a)] σ (.inl none, σ') := h
      replace h := ei_p h rfl rfl rfl rfl
      obtain ⟨f, g, h⟩ := h
      clear g
      replace h : EV F f 105 z105 20 [some (rf 7 (a))] [rf 7 (a), rf 7 (a)] σ (.inl none, σ') := h
      replace h := ei_get h rfl rfl
      obtain ⟨f, g, h⟩ := h
      clear g
      replace h : EV F f 105 z105 23 [some (rf 7 (a))] [.inl (m_i σ 7 (a) 6), rf 7 (a)] σ (.inl none, σ') := h
      replace h := ei_p h rfl rfl rfl rfl
      obtain ⟨f, g, h⟩ := h
      clear g
      replace h : EV F f 105 z105 30 [some (rf 7 (a))] [.inl (m_i σ 7 (a) 6), rf 7 (a)] σ (.inl none, σ') := h
      replace h := ei_put h rfl
      obtain ⟨ht9, f, g, h⟩ := h
      clear g
      obtain ⟨σ10, e11⟩ : ∃ s, s = m_set σ 7 (a) (7) (.inl (m_i σ 7 (a) 6)) := ⟨_, rfl⟩
      rw [← e11] at h
      have hsσ10 : HS σ10 := by rw [e11]; exact HS_set hs rfl
      refine ⟨σ10, e11, ?_⟩
      replace h : EV F f 105 z105 33 [some (rf 7 (a))] [] σ10 (.inl none, σ') := h
      have e := ei_ret h rfl
      cases e
      exact rfl
def z5 : mAl := ((yX0_letStand, cX0_letStand, 2, none, { frames := 1, cells := 0, slots := 0, locals := 20 }, []), rw_X0_letStand, false)
theorem z5_at : m_alF[5]? = some z5 := rfl
abbrev L5 : List (Nat × Nat) := [(0, 2), (7, 7), (7, 9), (7, 11)]
abbrev w5 : Nat → Nat → Bool := wl L5
def S5 : List Nat := [5, 105]
theorem W5 : fw_S w5 S5 = true := by decide +kernel
def P5 (σ : mS) (x1 : mR) (σ' : mS) : Prop := ∃ i1, x1 = some (7, i1) ∧ ∃ σ4, σ4 = m_set σ 7 (i1) (9) (.inl (Int32.ofInt 1)) ∧ ∃ σ7, fw_e w105 σ4 σ7 ∧ P105 σ4 (i1) σ7 ∧ ∃ σ11, σ11 = m_set σ7 7 (i1) (11) (.inl (m_i σ7 0 (0) 2)) ∧ ∃ σ14, σ14 = m_set σ11 0 (0) (2) (.inl ((m_i σ11 0 (0) 2) + (Int32.ofInt 1))) ∧ σ' = σ14
theorem x5 {σ σ' : mS} {x1 : mR} (hs : HS σ) (h : ev_run sm_all 5 [rf 0 (0), .inr (.inr (x1))] σ (.inl none) σ') : P5 σ x1 σ' := by
  unfold P5
  obtain ⟨F, f, h⟩ := ei_go h z5_at
  replace h : EV F f 5 z5 0 [some (rf 0 (0)), some (.inr (.inr (x1)))] [] σ (.inl none, σ') := h
  replace h := ei_p h rfl rfl rfl rfl
  obtain ⟨f, g, h⟩ := h
  clear g
  replace h : EV F f 5 z5 1 [some (rf 0 (0)), some (.inr (.inr (x1)))] [.inr (.inr (x1))] σ (.inl none, σ') := h
  replace h := ei_p h rfl rfl rfl rfl
  obtain ⟨f, g, h⟩ := h
  clear g
  replace h : EV F f 5 z5 2 [some (rf 0 (0)), some (.inr (.inr (x1)))] [.inl (Int32.ofInt 1), .inr (.inr (x1))] σ (.inl none, σ') := h
  obtain ⟨i1, e2⟩ := ei_pp h rfl
  rw [e2] at h
  refine ⟨i1, e2, ?_⟩
  replace h : EV F f 5 z5 2 [some (rf 0 (0)), some (rf 7 (i1))] [.inl (Int32.ofInt 1), rf 7 (i1)] σ (.inl none, σ') := h
  replace h := ei_put h rfl
  obtain ⟨ht3, f, g, h⟩ := h
  clear g
  obtain ⟨σ4, e5⟩ : ∃ s, s = m_set σ 7 (i1) (9) (.inl (Int32.ofInt 1)) := ⟨_, rfl⟩
  rw [← e5] at h
  have hsσ4 : HS σ4 := by rw [e5]; exact HS_set hs rfl
  refine ⟨σ4, e5, ?_⟩
  replace h : EV F f 5 z5 5 [some (rf 0 (0)), some (rf 7 (i1))] [] σ4 (.inl none, σ') := h
  replace h := ei_p h rfl rfl rfl rfl
  obtain ⟨f, g, h⟩ := h
  clear g
  replace h : EV F f 5 z5 6 [some (rf 0 (0)), some (rf 7 (i1))] [rf 7 (i1)] σ4 (.inl none, σ') := h
  replace h := bk_0 (ei_v (as := []) h rfl rfl rfl) rfl z105_at rfl
  obtain ⟨σ7, r8, f, g, h⟩ := h
  clear g
  have p9 := x105 hsσ4 r8
  have hsσ7 : HS σ7 := HS_run rfl r8 hsσ4
  refine ⟨σ7, fw_run W105 rfl r8, p9, ?_⟩
  replace h : EV F f 5 z5 9 [some (rf 0 (0)), some (rf 7 (i1))] [] σ7 (.inl none, σ') := h
  replace h := ei_p h rfl rfl rfl rfl
  obtain ⟨f, g, h⟩ := h
  clear g
  replace h : EV F f 5 z5 10 [some (rf 0 (0)), some (rf 7 (i1))] [rf 7 (i1)] σ7 (.inl none, σ') := h
  replace h := ei_p h rfl rfl rfl rfl
  obtain ⟨f, g, h⟩ := h
  clear g
  replace h : EV F f 5 z5 11 [some (rf 0 (0)), some (rf 7 (i1))] [rf 0 (0), rf 7 (i1)] σ7 (.inl none, σ') := h
  replace h := ei_get h rfl rfl
  obtain ⟨f, g, h⟩ := h
  clear g
  replace h : EV F f 5 z5 14 [some (rf 0 (0)), some (rf 7 (i1))] [.inl (m_i σ7 0 (0) 2), rf 7 (i1)] σ7 (.inl none, σ') := h
  replace h := ei_put h rfl
  obtain ⟨ht10, f, g, h⟩ := h
  clear g
  obtain ⟨σ11, e12⟩ : ∃ s, s = m_set σ7 7 (i1) (11) (.inl (m_i σ7 0 (0) 2)) := ⟨_, rfl⟩
  rw [← e12] at h
  have hsσ11 : HS σ11 := by rw [e12]; exact HS_set hsσ7 rfl
  refine ⟨σ11, e12, ?_⟩
  replace h : EV F f 5 z5 17 [some (rf 0 (0)), some (rf 7 (i1))] [] σ11 (.inl none, σ') := h
  replace h := ei_p h rfl rfl rfl rfl
  obtain ⟨f, g, h⟩ := h
  clear g
  replace h : EV F f 5 z5 18 [some (rf 0 (0)), some (rf 7 (i1))] [rf 0 (0)] σ11 (.inl none, σ') := h
  replace h := ei_p h rfl rfl rfl rfl
  obtain ⟨f, g, h⟩ := h
  clear g
  replace h : EV F f 5 z5 19 [some (rf 0 (0)), some (rf 7 (i1))] [rf 0 (0), rf 0 (0)] σ11 (.inl none, σ') := h
  replace h := ei_get h rfl rfl
  obtain ⟨f, g, h⟩ := h
  clear g
  replace h : EV F f 5 z5 22 [some (rf 0 (0)), some (rf 7 (i1))] [.inl (m_i σ11 0 (0) 2), rf 0 (0)] σ11 (.inl none, σ') := h
  replace h := ei_p h rfl rfl rfl rfl
  obtain ⟨f, g, h⟩ := h
  clear g
  replace h : EV F f 5 z5 23 [some (rf 0 (0)), some (rf 7 (i1))] [.inl (Int32.ofInt 1), .inl (m_i σ11 0 (0) 2), rf 0 (0)] σ11 (.inl none, σ') := h
  replace h := ei_p h rfl rfl rfl rfl
  obtain ⟨f, g, h⟩ := h
  clear g
  replace h : EV F f 5 z5 24 [some (rf 0 (0)), some (rf 7 (i1))] [.inl ((m_i σ11 0 (0) 2) + (Int32.ofInt 1)), rf 0 (0)] σ11 (.inl none, σ') := h
  replace h := ei_put h rfl
  obtain ⟨ht13, f, g, h⟩ := h
  clear g
  obtain ⟨σ14, e15⟩ : ∃ s, s = m_set σ11 0 (0) (2) (.inl ((m_i σ11 0 (0) 2) + (Int32.ofInt 1))) := ⟨_, rfl⟩
  rw [← e15] at h
  have hsσ14 : HS σ14 := by rw [e15]; exact HS_set hsσ11 rfl
  refine ⟨σ14, e15, ?_⟩
  replace h : EV F f 5 z5 27 [some (rf 0 (0)), some (rf 7 (i1))] [] σ14 (.inl none, σ') := h
  have e := ei_ret h rfl
  cases e
  exact rfl
def z100 : mAl := ((yX7_standsIn, cX7_standsIn, 3, (some .boolean), { frames := 0, cells := 0, slots := 0, locals := 0 }, []), rw_X7_standsIn, false)
theorem z100_at : m_alF[100]? = some z100 := rfl
def J100_28 (σ : mS) (w : Int32) : Prop := w = (Int32.ofInt 0)
theorem j100_28 {F f : Nat} {σ σ' : mS} {y0 : Option mV} {y1 : Option mV} {y2 : Option mV} {w : Int32} (hs : HS σ) (h : EV F f 100 z100 28 [y0, y1, y2] [] σ (.inl (some (.inl w)), σ')) : J100_28 σ w := by
  unfold J100_28
  replace h := ei_p h rfl rfl rfl rfl
  obtain ⟨f, g, h⟩ := h
  clear g
  replace h : EV F f 100 z100 29 [y0, y1, y2] [.inl (Int32.ofInt 0)] σ (.inl (some (.inl w)), σ') := h
  have e := ei_iret h rfl
  cases e
  exact rfl
def P100 (σ : mS) (a : Nat) (x1 : Int32) (x2 : Int32) (w : Int32) : Prop := (((m_i σ 7 (a) 9).toInt ≠ (1 : Int) ∧ J100_28 σ w) ∨ (¬ ((m_i σ 7 (a) 9).toInt ≠ (1 : Int)) ∧ (((m_i σ 7 (a) 2).toInt ≠ (x1).toInt ∧ J100_28 σ w) ∨ (¬ ((m_i σ 7 (a) 2).toInt ≠ (x1).toInt) ∧ (((m_i σ 7 (a) 3).toInt ≠ (x2).toInt ∧ J100_28 σ w) ∨ (¬ ((m_i σ 7 (a) 3).toInt ≠ (x2).toInt) ∧ w = (Int32.ofInt 1)))))))
theorem x100 {σ σ' : mS} {a : Nat} {x1 : Int32} {x2 : Int32} {w : Int32} (hs : HS σ) (h : ev_run sm_all 100 [rf 7 (a), .inl (x1), .inl (x2)] σ (.inl (some (.inl w))) σ') : P100 σ a x1 x2 w := by
  unfold P100
  obtain ⟨F, f, h⟩ := ei_go h z100_at
  replace h : EV F f 100 z100 0 [some (rf 7 (a)), some (.inl (x1)), some (.inl (x2))] [] σ (.inl (some (.inl w)), σ') := h
  replace h := ei_p h rfl rfl rfl rfl
  obtain ⟨f, g, h⟩ := h
  clear g
  replace h : EV F f 100 z100 1 [some (rf 7 (a)), some (.inl (x1)), some (.inl (x2))] [rf 7 (a)] σ (.inl (some (.inl w)), σ') := h
  replace h := ei_get h rfl rfl
  obtain ⟨f, g, h⟩ := h
  clear g
  replace h : EV F f 100 z100 4 [some (rf 7 (a)), some (.inl (x1)), some (.inl (x2))] [.inl (m_i σ 7 (a) 9)] σ (.inl (some (.inl w)), σ') := h
  replace h := ei_p h rfl rfl rfl rfl
  obtain ⟨f, g, h⟩ := h
  clear g
  replace h : EV F f 100 z100 5 [some (rf 7 (a)), some (.inl (x1)), some (.inl (x2))] [.inl (Int32.ofInt 1), .inl (m_i σ 7 (a) 9)] σ (.inl (some (.inl w)), σ') := h
  replace h := ei_c h rfl rfl rfl
  rcases h with ⟨hp1, f, g, h⟩ | ⟨hp1, f, g, h⟩
  · skip
    replace hp1 : (m_i σ 7 (a) 9).toInt ≠ (1 : Int) := ic_ne.mp hp1
    refine Or.inl ⟨hp1, ?_⟩
    clear g
    replace h : EV F f 100 z100 28 [some (rf 7 (a)), some (.inl (x1)), some (.inl (x2))] [] σ (.inl (some (.inl w)), σ') := h
    exact j100_28 hs h
  · skip
    replace hp1 : ¬ ((m_i σ 7 (a) 9).toInt ≠ (1 : Int)) := (not_congr ic_ne).mp hp1
    refine Or.inr ⟨hp1, ?_⟩
    clear g
    replace h : EV F f 100 z100 8 [some (rf 7 (a)), some (.inl (x1)), some (.inl (x2))] [] σ (.inl (some (.inl w)), σ') := h
    replace h := ei_p h rfl rfl rfl rfl
    obtain ⟨f, g, h⟩ := h
    clear g
    replace h : EV F f 100 z100 9 [some (rf 7 (a)), some (.inl (x1)), some (.inl (x2))] [rf 7 (a)] σ (.inl (some (.inl w)), σ') := h
    replace h := ei_get h rfl rfl
    obtain ⟨f, g, h⟩ := h
    clear g
    replace h : EV F f 100 z100 12 [some (rf 7 (a)), some (.inl (x1)), some (.inl (x2))] [.inl (m_i σ 7 (a) 2)] σ (.inl (some (.inl w)), σ') := h
    replace h := ei_p h rfl rfl rfl rfl
    obtain ⟨f, g, h⟩ := h
    clear g
    replace h : EV F f 100 z100 13 [some (rf 7 (a)), some (.inl (x1)), some (.inl (x2))] [.inl (x1), .inl (m_i σ 7 (a) 2)] σ (.inl (some (.inl w)), σ') := h
    replace h := ei_c h rfl rfl rfl
    rcases h with ⟨hp2, f, g, h⟩ | ⟨hp2, f, g, h⟩
    · skip
      replace hp2 : (m_i σ 7 (a) 2).toInt ≠ (x1).toInt := ic_ne.mp hp2
      refine Or.inl ⟨hp2, ?_⟩
      clear g
      replace h : EV F f 100 z100 28 [some (rf 7 (a)), some (.inl (x1)), some (.inl (x2))] [] σ (.inl (some (.inl w)), σ') := h
      exact j100_28 hs h
    · skip
      replace hp2 : ¬ ((m_i σ 7 (a) 2).toInt ≠ (x1).toInt) := (not_congr ic_ne).mp hp2
      refine Or.inr ⟨hp2, ?_⟩
      clear g
      replace h : EV F f 100 z100 16 [some (rf 7 (a)), some (.inl (x1)), some (.inl (x2))] [] σ (.inl (some (.inl w)), σ') := h
      replace h := ei_p h rfl rfl rfl rfl
      obtain ⟨f, g, h⟩ := h
      clear g
      replace h : EV F f 100 z100 17 [some (rf 7 (a)), some (.inl (x1)), some (.inl (x2))] [rf 7 (a)] σ (.inl (some (.inl w)), σ') := h
      replace h := ei_get h rfl rfl
      obtain ⟨f, g, h⟩ := h
      clear g
      replace h : EV F f 100 z100 20 [some (rf 7 (a)), some (.inl (x1)), some (.inl (x2))] [.inl (m_i σ 7 (a) 3)] σ (.inl (some (.inl w)), σ') := h
      replace h := ei_p h rfl rfl rfl rfl
      obtain ⟨f, g, h⟩ := h
      clear g
      replace h : EV F f 100 z100 21 [some (rf 7 (a)), some (.inl (x1)), some (.inl (x2))] [.inl (x2), .inl (m_i σ 7 (a) 3)] σ (.inl (some (.inl w)), σ') := h
      replace h := ei_c h rfl rfl rfl
      rcases h with ⟨hp3, f, g, h⟩ | ⟨hp3, f, g, h⟩
      · skip
        replace hp3 : (m_i σ 7 (a) 3).toInt ≠ (x2).toInt := ic_ne.mp hp3
        refine Or.inl ⟨hp3, ?_⟩
        clear g
        replace h : EV F f 100 z100 28 [some (rf 7 (a)), some (.inl (x1)), some (.inl (x2))] [] σ (.inl (some (.inl w)), σ') := h
        exact j100_28 hs h
      · skip
        replace hp3 : ¬ ((m_i σ 7 (a) 3).toInt ≠ (x2).toInt) := (not_congr ic_ne).mp hp3
        refine Or.inr ⟨hp3, ?_⟩
        clear g
        replace h : EV F f 100 z100 24 [some (rf 7 (a)), some (.inl (x1)), some (.inl (x2))] [] σ (.inl (some (.inl w)), σ') := h
        replace h := ei_p h rfl rfl rfl rfl
        obtain ⟨f, g, h⟩ := h
        clear g
        replace h : EV F f 100 z100 25 [some (rf 7 (a)), some (.inl (x1)), some (.inl (x2))] [.inl (Int32.ofInt 1)] σ (.inl (some (.inl w)), σ') := h
        replace h := ei_p h rfl rfl rfl rfl
        obtain ⟨f, g, h⟩ := h
        clear g
        replace h : EV F f 100 z100 29 [some (rf 7 (a)), some (.inl (x1)), some (.inl (x2))] [.inl (Int32.ofInt 1)] σ (.inl (some (.inl w)), σ') := h
        have e := ei_iret h rfl
        cases e
        exact rfl
def z102 : mAl := ((yX7_isAheadOf, cX7_isAheadOf, 2, (some .boolean), { frames := 0, cells := 0, slots := 0, locals := 0 }, []), rw_X7_isAheadOf, false)
theorem z102_at : m_alF[102]? = some z102 := rfl
def P102 (σ : mS) (a : Nat) (x1 : mR) (w : Int32) : Prop := ∃ i1, x1 = some (7, i1) ∧ (((m_i σ 7 (a) 4).toInt ≠ (m_i σ 7 (i1) 4).toInt ∧ (((m_i σ 7 (a) 3).toInt ≠ (0 : Int) ∧ (((m_i σ 7 (i1) 4).toInt ≤ (m_i σ 7 (a) 4).toInt ∧ w = (Int32.ofInt 0)) ∨ (¬ ((m_i σ 7 (i1) 4).toInt ≤ (m_i σ 7 (a) 4).toInt) ∧ w = (Int32.ofInt 1)))) ∨ (¬ ((m_i σ 7 (a) 3).toInt ≠ (0 : Int)) ∧ (((m_i σ 7 (a) 4).toInt ≤ (m_i σ 7 (i1) 4).toInt ∧ w = (Int32.ofInt 0)) ∨ (¬ ((m_i σ 7 (a) 4).toInt ≤ (m_i σ 7 (i1) 4).toInt) ∧ w = (Int32.ofInt 1)))))) ∨ (¬ ((m_i σ 7 (a) 4).toInt ≠ (m_i σ 7 (i1) 4).toInt) ∧ (((m_i σ 7 (i1) 11).toInt ≤ (m_i σ 7 (a) 11).toInt ∧ w = (Int32.ofInt 0)) ∨ (¬ ((m_i σ 7 (i1) 11).toInt ≤ (m_i σ 7 (a) 11).toInt) ∧ w = (Int32.ofInt 1)))))
theorem x102 {σ σ' : mS} {a : Nat} {x1 : mR} {w : Int32} (hs : HS σ) (h : ev_run sm_all 102 [rf 7 (a), .inr (.inr (x1))] σ (.inl (some (.inl w))) σ') : P102 σ a x1 w := by
  unfold P102
  obtain ⟨F, f, h⟩ := ei_go h z102_at
  replace h : EV F f 102 z102 0 [some (rf 7 (a)), some (.inr (.inr (x1)))] [] σ (.inl (some (.inl w)), σ') := h
  replace h := ei_p h rfl rfl rfl rfl
  obtain ⟨f, g, h⟩ := h
  clear g
  replace h : EV F f 102 z102 1 [some (rf 7 (a)), some (.inr (.inr (x1)))] [rf 7 (a)] σ (.inl (some (.inl w)), σ') := h
  replace h := ei_get h rfl rfl
  obtain ⟨f, g, h⟩ := h
  clear g
  replace h : EV F f 102 z102 4 [some (rf 7 (a)), some (.inr (.inr (x1)))] [.inl (m_i σ 7 (a) 4)] σ (.inl (some (.inl w)), σ') := h
  replace h := ei_p h rfl rfl rfl rfl
  obtain ⟨f, g, h⟩ := h
  clear g
  replace h : EV F f 102 z102 5 [some (rf 7 (a)), some (.inr (.inr (x1)))] [.inr (.inr (x1)), .inl (m_i σ 7 (a) 4)] σ (.inl (some (.inl w)), σ') := h
  obtain ⟨i1, e2⟩ := ei_gp h rfl
  rw [e2] at h
  refine ⟨i1, e2, ?_⟩
  replace h : EV F f 102 z102 5 [some (rf 7 (a)), some (rf 7 (i1))] [rf 7 (i1), .inl (m_i σ 7 (a) 4)] σ (.inl (some (.inl w)), σ') := h
  replace h := ei_get h rfl rfl
  obtain ⟨f, g, h⟩ := h
  clear g
  replace h : EV F f 102 z102 8 [some (rf 7 (a)), some (rf 7 (i1))] [.inl (m_i σ 7 (i1) 4), .inl (m_i σ 7 (a) 4)] σ (.inl (some (.inl w)), σ') := h
  replace h := ei_c h rfl rfl rfl
  rcases h with ⟨hp3, f, g, h⟩ | ⟨hp3, f, g, h⟩
  · skip
    replace hp3 : (m_i σ 7 (a) 4).toInt ≠ (m_i σ 7 (i1) 4).toInt := ic_ne.mp hp3
    refine Or.inl ⟨hp3, ?_⟩
    clear g
    replace h : EV F f 102 z102 28 [some (rf 7 (a)), some (rf 7 (i1))] [] σ (.inl (some (.inl w)), σ') := h
    replace h := ei_p h rfl rfl rfl rfl
    obtain ⟨f, g, h⟩ := h
    clear g
    replace h : EV F f 102 z102 29 [some (rf 7 (a)), some (rf 7 (i1))] [rf 7 (a)] σ (.inl (some (.inl w)), σ') := h
    replace h := ei_get h rfl rfl
    obtain ⟨f, g, h⟩ := h
    clear g
    replace h : EV F f 102 z102 32 [some (rf 7 (a)), some (rf 7 (i1))] [.inl (m_i σ 7 (a) 3)] σ (.inl (some (.inl w)), σ') := h
    replace h := ei_c h rfl rfl rfl
    rcases h with ⟨hp4, f, g, h⟩ | ⟨hp4, f, g, h⟩
    · skip
      replace hp4 : (m_i σ 7 (a) 3).toInt ≠ (0 : Int) := ic_ne.mp hp4
      refine Or.inl ⟨hp4, ?_⟩
      clear g
      replace h : EV F f 102 z102 54 [some (rf 7 (a)), some (rf 7 (i1))] [] σ (.inl (some (.inl w)), σ') := h
      replace h := ei_p h rfl rfl rfl rfl
      obtain ⟨f, g, h⟩ := h
      clear g
      replace h : EV F f 102 z102 55 [some (rf 7 (a)), some (rf 7 (i1))] [rf 7 (a)] σ (.inl (some (.inl w)), σ') := h
      replace h := ei_get h rfl rfl
      obtain ⟨f, g, h⟩ := h
      clear g
      replace h : EV F f 102 z102 58 [some (rf 7 (a)), some (rf 7 (i1))] [.inl (m_i σ 7 (a) 4)] σ (.inl (some (.inl w)), σ') := h
      replace h := ei_p h rfl rfl rfl rfl
      obtain ⟨f, g, h⟩ := h
      clear g
      replace h : EV F f 102 z102 59 [some (rf 7 (a)), some (rf 7 (i1))] [rf 7 (i1), .inl (m_i σ 7 (a) 4)] σ (.inl (some (.inl w)), σ') := h
      replace h := ei_get h rfl rfl
      obtain ⟨f, g, h⟩ := h
      clear g
      replace h : EV F f 102 z102 62 [some (rf 7 (a)), some (rf 7 (i1))] [.inl (m_i σ 7 (i1) 4), .inl (m_i σ 7 (a) 4)] σ (.inl (some (.inl w)), σ') := h
      replace h := ei_c h rfl rfl rfl
      rcases h with ⟨hp5, f, g, h⟩ | ⟨hp5, f, g, h⟩
      · skip
        replace hp5 : (m_i σ 7 (i1) 4).toInt ≤ (m_i σ 7 (a) 4).toInt := ic_ge.mp hp5
        refine Or.inl ⟨hp5, ?_⟩
        clear g
        replace h : EV F f 102 z102 69 [some (rf 7 (a)), some (rf 7 (i1))] [] σ (.inl (some (.inl w)), σ') := h
        replace h := ei_p h rfl rfl rfl rfl
        obtain ⟨f, g, h⟩ := h
        clear g
        replace h : EV F f 102 z102 70 [some (rf 7 (a)), some (rf 7 (i1))] [.inl (Int32.ofInt 0)] σ (.inl (some (.inl w)), σ') := h
        have e := ei_iret h rfl
        cases e
        exact rfl
      · skip
        replace hp5 : ¬ ((m_i σ 7 (i1) 4).toInt ≤ (m_i σ 7 (a) 4).toInt) := (not_congr ic_ge).mp hp5
        refine Or.inr ⟨hp5, ?_⟩
        clear g
        replace h : EV F f 102 z102 65 [some (rf 7 (a)), some (rf 7 (i1))] [] σ (.inl (some (.inl w)), σ') := h
        replace h := ei_p h rfl rfl rfl rfl
        obtain ⟨f, g, h⟩ := h
        clear g
        replace h : EV F f 102 z102 66 [some (rf 7 (a)), some (rf 7 (i1))] [.inl (Int32.ofInt 1)] σ (.inl (some (.inl w)), σ') := h
        replace h := ei_p h rfl rfl rfl rfl
        obtain ⟨f, g, h⟩ := h
        clear g
        replace h : EV F f 102 z102 70 [some (rf 7 (a)), some (rf 7 (i1))] [.inl (Int32.ofInt 1)] σ (.inl (some (.inl w)), σ') := h
        have e := ei_iret h rfl
        cases e
        exact rfl
    · skip
      replace hp4 : ¬ ((m_i σ 7 (a) 3).toInt ≠ (0 : Int)) := (not_congr ic_ne).mp hp4
      refine Or.inr ⟨hp4, ?_⟩
      clear g
      replace h : EV F f 102 z102 35 [some (rf 7 (a)), some (rf 7 (i1))] [] σ (.inl (some (.inl w)), σ') := h
      replace h := ei_p h rfl rfl rfl rfl
      obtain ⟨f, g, h⟩ := h
      clear g
      replace h : EV F f 102 z102 36 [some (rf 7 (a)), some (rf 7 (i1))] [rf 7 (a)] σ (.inl (some (.inl w)), σ') := h
      replace h := ei_get h rfl rfl
      obtain ⟨f, g, h⟩ := h
      clear g
      replace h : EV F f 102 z102 39 [some (rf 7 (a)), some (rf 7 (i1))] [.inl (m_i σ 7 (a) 4)] σ (.inl (some (.inl w)), σ') := h
      replace h := ei_p h rfl rfl rfl rfl
      obtain ⟨f, g, h⟩ := h
      clear g
      replace h : EV F f 102 z102 40 [some (rf 7 (a)), some (rf 7 (i1))] [rf 7 (i1), .inl (m_i σ 7 (a) 4)] σ (.inl (some (.inl w)), σ') := h
      replace h := ei_get h rfl rfl
      obtain ⟨f, g, h⟩ := h
      clear g
      replace h : EV F f 102 z102 43 [some (rf 7 (a)), some (rf 7 (i1))] [.inl (m_i σ 7 (i1) 4), .inl (m_i σ 7 (a) 4)] σ (.inl (some (.inl w)), σ') := h
      replace h := ei_c h rfl rfl rfl
      rcases h with ⟨hp6, f, g, h⟩ | ⟨hp6, f, g, h⟩
      · skip
        replace hp6 : (m_i σ 7 (a) 4).toInt ≤ (m_i σ 7 (i1) 4).toInt := ic_le.mp hp6
        refine Or.inl ⟨hp6, ?_⟩
        clear g
        replace h : EV F f 102 z102 50 [some (rf 7 (a)), some (rf 7 (i1))] [] σ (.inl (some (.inl w)), σ') := h
        replace h := ei_p h rfl rfl rfl rfl
        obtain ⟨f, g, h⟩ := h
        clear g
        replace h : EV F f 102 z102 51 [some (rf 7 (a)), some (rf 7 (i1))] [.inl (Int32.ofInt 0)] σ (.inl (some (.inl w)), σ') := h
        replace h := ei_p h rfl rfl rfl rfl
        obtain ⟨f, g, h⟩ := h
        clear g
        replace h : EV F f 102 z102 70 [some (rf 7 (a)), some (rf 7 (i1))] [.inl (Int32.ofInt 0)] σ (.inl (some (.inl w)), σ') := h
        have e := ei_iret h rfl
        cases e
        exact rfl
      · skip
        replace hp6 : ¬ ((m_i σ 7 (a) 4).toInt ≤ (m_i σ 7 (i1) 4).toInt) := (not_congr ic_le).mp hp6
        refine Or.inr ⟨hp6, ?_⟩
        clear g
        replace h : EV F f 102 z102 46 [some (rf 7 (a)), some (rf 7 (i1))] [] σ (.inl (some (.inl w)), σ') := h
        replace h := ei_p h rfl rfl rfl rfl
        obtain ⟨f, g, h⟩ := h
        clear g
        replace h : EV F f 102 z102 47 [some (rf 7 (a)), some (rf 7 (i1))] [.inl (Int32.ofInt 1)] σ (.inl (some (.inl w)), σ') := h
        replace h := ei_p h rfl rfl rfl rfl
        obtain ⟨f, g, h⟩ := h
        clear g
        replace h : EV F f 102 z102 70 [some (rf 7 (a)), some (rf 7 (i1))] [.inl (Int32.ofInt 1)] σ (.inl (some (.inl w)), σ') := h
        have e := ei_iret h rfl
        cases e
        exact rfl
  · skip
    replace hp3 : ¬ ((m_i σ 7 (a) 4).toInt ≠ (m_i σ 7 (i1) 4).toInt) := (not_congr ic_ne).mp hp3
    refine Or.inr ⟨hp3, ?_⟩
    clear g
    replace h : EV F f 102 z102 11 [some (rf 7 (a)), some (rf 7 (i1))] [] σ (.inl (some (.inl w)), σ') := h
    replace h := ei_p h rfl rfl rfl rfl
    obtain ⟨f, g, h⟩ := h
    clear g
    replace h : EV F f 102 z102 12 [some (rf 7 (a)), some (rf 7 (i1))] [rf 7 (a)] σ (.inl (some (.inl w)), σ') := h
    replace h := ei_get h rfl rfl
    obtain ⟨f, g, h⟩ := h
    clear g
    replace h : EV F f 102 z102 15 [some (rf 7 (a)), some (rf 7 (i1))] [.inl (m_i σ 7 (a) 11)] σ (.inl (some (.inl w)), σ') := h
    replace h := ei_p h rfl rfl rfl rfl
    obtain ⟨f, g, h⟩ := h
    clear g
    replace h : EV F f 102 z102 16 [some (rf 7 (a)), some (rf 7 (i1))] [rf 7 (i1), .inl (m_i σ 7 (a) 11)] σ (.inl (some (.inl w)), σ') := h
    replace h := ei_get h rfl rfl
    obtain ⟨f, g, h⟩ := h
    clear g
    replace h : EV F f 102 z102 19 [some (rf 7 (a)), some (rf 7 (i1))] [.inl (m_i σ 7 (i1) 11), .inl (m_i σ 7 (a) 11)] σ (.inl (some (.inl w)), σ') := h
    replace h := ei_c h rfl rfl rfl
    rcases h with ⟨hp7, f, g, h⟩ | ⟨hp7, f, g, h⟩
    · skip
      replace hp7 : (m_i σ 7 (i1) 11).toInt ≤ (m_i σ 7 (a) 11).toInt := ic_ge.mp hp7
      refine Or.inl ⟨hp7, ?_⟩
      clear g
      replace h : EV F f 102 z102 26 [some (rf 7 (a)), some (rf 7 (i1))] [] σ (.inl (some (.inl w)), σ') := h
      replace h := ei_p h rfl rfl rfl rfl
      obtain ⟨f, g, h⟩ := h
      clear g
      replace h : EV F f 102 z102 27 [some (rf 7 (a)), some (rf 7 (i1))] [.inl (Int32.ofInt 0)] σ (.inl (some (.inl w)), σ') := h
      have e := ei_iret h rfl
      cases e
      exact rfl
    · skip
      replace hp7 : ¬ ((m_i σ 7 (i1) 11).toInt ≤ (m_i σ 7 (a) 11).toInt) := (not_congr ic_ge).mp hp7
      refine Or.inr ⟨hp7, ?_⟩
      clear g
      replace h : EV F f 102 z102 22 [some (rf 7 (a)), some (rf 7 (i1))] [] σ (.inl (some (.inl w)), σ') := h
      replace h := ei_p h rfl rfl rfl rfl
      obtain ⟨f, g, h⟩ := h
      clear g
      replace h : EV F f 102 z102 23 [some (rf 7 (a)), some (rf 7 (i1))] [.inl (Int32.ofInt 1)] σ (.inl (some (.inl w)), σ') := h
      replace h := ei_p h rfl rfl rfl rfl
      obtain ⟨f, g, h⟩ := h
      clear g
      replace h : EV F f 102 z102 27 [some (rf 7 (a)), some (rf 7 (i1))] [.inl (Int32.ofInt 1)] σ (.inl (some (.inl w)), σ') := h
      have e := ei_iret h rfl
      cases e
      exact rfl
def z6 : mAl := ((yX0_firstOf, cX0_firstOf, 6, (some (.object "NettingHall$Order")), { frames := 1, cells := 0, slots := 0, locals := 22 }, []), rw_X0_firstOf, false)
theorem z6_at : m_alF[6]? = some z6 := rfl
abbrev B6_5 (σ : mS) (c1 : Int32) (c2 : Int32) (ih : mR → Int32 → mR → Prop) (u3 : mR) (u4 : Int32) (w : mR) : Prop := (((m_i σ 0 (0) 1).toInt ≤ (u4).toInt ∧ w = (u3)) ∨ (¬ ((m_i σ 0 (0) 1).toInt ≤ (u4).toInt) ∧ (((120 : Int) ≤ (u4).toInt ∧ w = (u3)) ∨ (¬ ((120 : Int) ≤ (u4).toInt) ∧ (0 ≤ (u4).toInt ∧ (u4).toInt < 120) ∧ ∃ v4, P100 σ ((u4).toNatClampNeg) (c1) (c2) v4 ∧ (((v4).toInt = (0 : Int) ∧ ih (u3) ((u4) + Int32.ofInt 1) w) ∨ (¬ ((v4).toInt = (0 : Int)) ∧ ((u3 = none ∧ ih (some (7, (u4).toNatClampNeg)) ((u4) + Int32.ofInt 1) w) ∨ (∃ q10, u3 = some q10 ∧ ∃ v13, P102 σ ((u4).toNatClampNeg) (some q10) v13 ∧ (((v13).toInt = (0 : Int) ∧ ih (some q10) ((u4) + Int32.ofInt 1) w) ∨ (¬ ((v13).toInt = (0 : Int)) ∧ ih (some (7, (u4).toNatClampNeg)) ((u4) + Int32.ofInt 1) w))))))))))
def Q6_5 (σ : mS) (c1 : Int32) (c2 : Int32) : Nat → mR → Int32 → mR → Prop
  | 0 => fun _ _ _ => False
  | n + 1 => B6_5 σ c1 c2 (Q6_5 σ c1 c2 n)
theorem q6_5 {F : Nat} {σ σ' : mS} {c1 : Int32} {c2 : Int32} {w : mR} (hs : HS σ) : ∀ N f, f < N → ∀ (u3 : mR) (u4 : Int32) (y5 : Option mV), EV F f 6 z6 5 [some (rf 0 (0)), some (.inl (c1)), some (.inl (c2)), some (.inr (.inr (u3))), some (.inl (u4)), y5] [] σ (.inl (some (.inr (.inr w))), σ') → Q6_5 σ c1 c2 N u3 u4 w := by
  intro N
  induction N with
  | zero => intro f hf; omega
  | succ N IH =>
    intro f hf0 u3 u4 y5 h
    have hf : f < N + 1 := hf0
    clear hf0
    show B6_5 σ c1 c2 (Q6_5 σ c1 c2 N) u3 u4 w
    replace h := ei_p h rfl rfl rfl rfl
    obtain ⟨f, g, h⟩ := h
    replace hf := Nat.lt_of_lt_of_le g (Nat.le_of_lt_succ hf)
    clear g
    replace h : EV F f 6 z6 7 [some (rf 0 (0)), some (.inl (c1)), some (.inl (c2)), some (.inr (.inr (u3))), some (.inl (u4)), y5] [.inl (u4)] σ (.inl (some (.inr (.inr w))), σ') := h
    replace h := ei_p h rfl rfl rfl rfl
    obtain ⟨f, g, h⟩ := h
    replace hf := Nat.lt_trans g hf
    clear g
    replace h : EV F f 6 z6 8 [some (rf 0 (0)), some (.inl (c1)), some (.inl (c2)), some (.inr (.inr (u3))), some (.inl (u4)), y5] [rf 0 (0), .inl (u4)] σ (.inl (some (.inr (.inr w))), σ') := h
    replace h := ei_get h rfl rfl
    obtain ⟨f, g, h⟩ := h
    replace hf := Nat.lt_trans g hf
    clear g
    replace h : EV F f 6 z6 11 [some (rf 0 (0)), some (.inl (c1)), some (.inl (c2)), some (.inr (.inr (u3))), some (.inl (u4)), y5] [.inl (m_i σ 0 (0) 1), .inl (u4)] σ (.inl (some (.inr (.inr w))), σ') := h
    replace h := ei_c h rfl rfl rfl
    rcases h with ⟨hp1, f, g, h⟩ | ⟨hp1, f, g, h⟩
    · skip
      replace hp1 : (m_i σ 0 (0) 1).toInt ≤ (u4).toInt := ic_ge.mp hp1
      refine Or.inl ⟨hp1, ?_⟩
      replace hf := Nat.lt_trans g hf
      clear g
      replace h : EV F f 6 z6 65 [some (rf 0 (0)), some (.inl (c1)), some (.inl (c2)), some (.inr (.inr (u3))), some (.inl (u4)), y5] [] σ (.inl (some (.inr (.inr w))), σ') := h
      replace h := ei_p h rfl rfl rfl rfl
      obtain ⟨f, g, h⟩ := h
      replace hf := Nat.lt_trans g hf
      clear g
      replace h : EV F f 6 z6 66 [some (rf 0 (0)), some (.inl (c1)), some (.inl (c2)), some (.inr (.inr (u3))), some (.inl (u4)), y5] [.inr (.inr (u3))] σ (.inl (some (.inr (.inr w))), σ') := h
      have e := ei_aret h rfl
      cases e
      exact rfl
    · skip
      replace hp1 : ¬ ((m_i σ 0 (0) 1).toInt ≤ (u4).toInt) := (not_congr ic_ge).mp hp1
      refine Or.inr ⟨hp1, ?_⟩
      replace hf := Nat.lt_trans g hf
      clear g
      replace h : EV F f 6 z6 14 [some (rf 0 (0)), some (.inl (c1)), some (.inl (c2)), some (.inr (.inr (u3))), some (.inl (u4)), y5] [] σ (.inl (some (.inr (.inr w))), σ') := h
      replace h := ei_p h rfl rfl rfl rfl
      obtain ⟨f, g, h⟩ := h
      replace hf := Nat.lt_trans g hf
      clear g
      replace h : EV F f 6 z6 16 [some (rf 0 (0)), some (.inl (c1)), some (.inl (c2)), some (.inr (.inr (u3))), some (.inl (u4)), y5] [.inl (u4)] σ (.inl (some (.inr (.inr w))), σ') := h
      replace h := ei_p h rfl rfl rfl rfl
      obtain ⟨f, g, h⟩ := h
      replace hf := Nat.lt_trans g hf
      clear g
      replace h : EV F f 6 z6 17 [some (rf 0 (0)), some (.inl (c1)), some (.inl (c2)), some (.inr (.inr (u3))), some (.inl (u4)), y5] [rf 0 (0), .inl (u4)] σ (.inl (some (.inr (.inr w))), σ') := h
      replace h := ei_get h rfl (HS_g0_0 hs)
      obtain ⟨f, g, h⟩ := h
      replace hf := Nat.lt_trans g hf
      clear g
      replace h : EV F f 6 z6 20 [some (rf 0 (0)), some (.inl (c1)), some (.inl (c2)), some (.inr (.inr (u3))), some (.inl (u4)), y5] [rf 17 (0), .inl (u4)] σ (.inl (some (.inr (.inr w))), σ') := h
      replace h := ei_len h rfl (HS_l17_0 hs) ⟨Nat.le_of_ble_eq_true rfl, Nat.le_of_ble_eq_true rfl⟩
      obtain ⟨f, g, h⟩ := h
      replace hf := Nat.lt_trans g hf
      clear g
      replace h : EV F f 6 z6 21 [some (rf 0 (0)), some (.inl (c1)), some (.inl (c2)), some (.inr (.inr (u3))), some (.inl (u4)), y5] [.inl (Int32.ofInt 120), .inl (u4)] σ (.inl (some (.inr (.inr w))), σ') := h
      replace h := ei_c h rfl rfl rfl
      rcases h with ⟨hp2, f, g, h⟩ | ⟨hp2, f, g, h⟩
      · skip
        replace hp2 : (120 : Int) ≤ (u4).toInt := ic_ge.mp hp2
        refine Or.inl ⟨hp2, ?_⟩
        replace hf := Nat.lt_trans g hf
        clear g
        replace h : EV F f 6 z6 65 [some (rf 0 (0)), some (.inl (c1)), some (.inl (c2)), some (.inr (.inr (u3))), some (.inl (u4)), y5] [] σ (.inl (some (.inr (.inr w))), σ') := h
        replace h := ei_p h rfl rfl rfl rfl
        obtain ⟨f, g, h⟩ := h
        replace hf := Nat.lt_trans g hf
        clear g
        replace h : EV F f 6 z6 66 [some (rf 0 (0)), some (.inl (c1)), some (.inl (c2)), some (.inr (.inr (u3))), some (.inl (u4)), y5] [.inr (.inr (u3))] σ (.inl (some (.inr (.inr w))), σ') := h
        have e := ei_aret h rfl
        cases e
        exact rfl
      · skip
        replace hp2 : ¬ ((120 : Int) ≤ (u4).toInt) := (not_congr ic_ge).mp hp2
        refine Or.inr ⟨hp2, ?_⟩
        replace hf := Nat.lt_trans g hf
        clear g
        replace h : EV F f 6 z6 24 [some (rf 0 (0)), some (.inl (c1)), some (.inl (c2)), some (.inr (.inr (u3))), some (.inl (u4)), y5] [] σ (.inl (some (.inr (.inr w))), σ') := h
        replace h := ei_p h rfl rfl rfl rfl
        obtain ⟨f, g, h⟩ := h
        replace hf := Nat.lt_trans g hf
        clear g
        replace h : EV F f 6 z6 25 [some (rf 0 (0)), some (.inl (c1)), some (.inl (c2)), some (.inr (.inr (u3))), some (.inl (u4)), y5] [rf 0 (0)] σ (.inl (some (.inr (.inr w))), σ') := h
        replace h := ei_get h rfl (HS_g0_0 hs)
        obtain ⟨f, g, h⟩ := h
        replace hf := Nat.lt_trans g hf
        clear g
        replace h : EV F f 6 z6 28 [some (rf 0 (0)), some (.inl (c1)), some (.inl (c2)), some (.inr (.inr (u3))), some (.inl (u4)), y5] [rf 17 (0)] σ (.inl (some (.inr (.inr w))), σ') := h
        replace h := ei_p h rfl rfl rfl rfl
        obtain ⟨f, g, h⟩ := h
        replace hf := Nat.lt_trans g hf
        clear g
        replace h : EV F f 6 z6 30 [some (rf 0 (0)), some (.inl (c1)), some (.inl (c2)), some (.inr (.inr (u3))), some (.inl (u4)), y5] [.inl (u4), rf 17 (0)] σ (.inl (some (.inr (.inr w))), σ') := h
        replace h := ei_ald h rfl (HS_a17 hs)
        obtain ⟨vp3, f, g, h⟩ := h
        replace hf := Nat.lt_trans g hf
        clear g
        replace h : EV F f 6 z6 31 [some (rf 0 (0)), some (.inl (c1)), some (.inl (c2)), some (.inr (.inr (u3))), some (.inl (u4)), y5] [rf 7 ((u4).toNatClampNeg)] σ (.inl (some (.inr (.inr w))), σ') := h
        refine ⟨HS_v17 hs vp3, ?_⟩
        replace h := ei_p h rfl rfl rfl rfl
        obtain ⟨f, g, h⟩ := h
        replace hf := Nat.lt_trans g hf
        clear g
        replace h : EV F f 6 z6 33 [some (rf 0 (0)), some (.inl (c1)), some (.inl (c2)), some (.inr (.inr (u3))), some (.inl (u4)), some (rf 7 ((u4).toNatClampNeg))] [] σ (.inl (some (.inr (.inr w))), σ') := h
        replace h := ei_p h rfl rfl rfl rfl
        obtain ⟨f, g, h⟩ := h
        replace hf := Nat.lt_trans g hf
        clear g
        replace h : EV F f 6 z6 35 [some (rf 0 (0)), some (.inl (c1)), some (.inl (c2)), some (.inr (.inr (u3))), some (.inl (u4)), some (rf 7 ((u4).toNatClampNeg))] [rf 7 ((u4).toNatClampNeg)] σ (.inl (some (.inr (.inr w))), σ') := h
        replace h := ei_p h rfl rfl rfl rfl
        obtain ⟨f, g, h⟩ := h
        replace hf := Nat.lt_trans g hf
        clear g
        replace h : EV F f 6 z6 36 [some (rf 0 (0)), some (.inl (c1)), some (.inl (c2)), some (.inr (.inr (u3))), some (.inl (u4)), some (rf 7 ((u4).toNatClampNeg))] [.inl (c1), rf 7 ((u4).toNatClampNeg)] σ (.inl (some (.inr (.inr w))), σ') := h
        replace h := ei_p h rfl rfl rfl rfl
        obtain ⟨f, g, h⟩ := h
        replace hf := Nat.lt_trans g hf
        clear g
        replace h : EV F f 6 z6 37 [some (rf 0 (0)), some (.inl (c1)), some (.inl (c2)), some (.inr (.inr (u3))), some (.inl (u4)), some (rf 7 ((u4).toNatClampNeg))] [.inl (c2), .inl (c1), rf 7 ((u4).toNatClampNeg)] σ (.inl (some (.inr (.inr w))), σ') := h
        replace h := bk_I (ei_v (as := [.inl (c2), .inl (c1)]) h rfl rfl rfl) rfl z100_at (Or.inr rfl)
        obtain ⟨v4, σ5, r6, f, g, h⟩ := h
        replace hf := Nat.lt_trans g hf
        clear g
        have er6 := ro_run rfl r6
        rw [er6] at h r6
        have p7 := x100 hs r6
        refine ⟨v4, p7, ?_⟩
        replace h : EV F f 6 z6 40 [some (rf 0 (0)), some (.inl (c1)), some (.inl (c2)), some (.inr (.inr (u3))), some (.inl (u4)), some (rf 7 ((u4).toNatClampNeg))] [.inl (v4)] σ (.inl (some (.inr (.inr w))), σ') := h
        replace h := ei_c h rfl rfl rfl
        rcases h with ⟨hp8, f, g, h⟩ | ⟨hp8, f, g, h⟩
        · skip
          replace hp8 : (v4).toInt = (0 : Int) := ic_eq.mp hp8
          refine Or.inl ⟨hp8, ?_⟩
          replace hf := Nat.lt_trans g hf
          clear g
          replace h : EV F f 6 z6 59 [some (rf 0 (0)), some (.inl (c1)), some (.inl (c2)), some (.inr (.inr (u3))), some (.inl (u4)), some (rf 7 ((u4).toNatClampNeg))] [] σ (.inl (some (.inr (.inr w))), σ') := h
          replace h := ei_p h rfl rfl rfl rfl
          obtain ⟨f, g, h⟩ := h
          replace hf := Nat.lt_trans g hf
          clear g
          replace h : EV F f 6 z6 62 [some (rf 0 (0)), some (.inl (c1)), some (.inl (c2)), some (.inr (.inr (u3))), some (.inl ((u4) + Int32.ofInt 1)), some (rf 7 ((u4).toNatClampNeg))] [] σ (.inl (some (.inr (.inr w))), σ') := h
          replace h := ei_p h rfl rfl rfl rfl
          obtain ⟨f, g, h⟩ := h
          replace hf := Nat.lt_trans g hf
          clear g
          replace h : EV F f 6 z6 5 [some (rf 0 (0)), some (.inl (c1)), some (.inl (c2)), some (.inr (.inr (u3))), some (.inl ((u4) + Int32.ofInt 1)), some (rf 7 ((u4).toNatClampNeg))] [] σ (.inl (some (.inr (.inr w))), σ') := h
          exact IH f hf (u3) ((u4) + Int32.ofInt 1) (some (rf 7 ((u4).toNatClampNeg))) h
        · skip
          replace hp8 : ¬ ((v4).toInt = (0 : Int)) := (not_congr ic_eq).mp hp8
          refine Or.inr ⟨hp8, ?_⟩
          replace hf := Nat.lt_trans g hf
          clear g
          replace h : EV F f 6 z6 43 [some (rf 0 (0)), some (.inl (c1)), some (.inl (c2)), some (.inr (.inr (u3))), some (.inl (u4)), some (rf 7 ((u4).toNatClampNeg))] [] σ (.inl (some (.inr (.inr w))), σ') := h
          replace h := ei_p h rfl rfl rfl rfl
          obtain ⟨f, g, h⟩ := h
          replace hf := Nat.lt_trans g hf
          clear g
          replace h : EV F f 6 z6 44 [some (rf 0 (0)), some (.inl (c1)), some (.inl (c2)), some (.inr (.inr (u3))), some (.inl (u4)), some (rf 7 ((u4).toNatClampNeg))] [.inr (.inr (u3))] σ (.inl (some (.inr (.inr w))), σ') := h
          rcases r_cs (u3) with e9 | ⟨q10, e9⟩
          · skip
            rw [e9] at h
            refine Or.inl ⟨e9, ?_⟩
            replace h : EV F f 6 z6 44 [some (rf 0 (0)), some (.inl (c1)), some (.inl (c2)), some (.inr (.inr none)), some (.inl (u4)), some (rf 7 ((u4).toNatClampNeg))] [.inr (.inr none)] σ (.inl (some (.inr (.inr w))), σ') := h
            replace h := ei_c h rfl rfl rfl
            rcases h with ⟨hp11, f, g, h⟩ | ⟨hp11, f, g, h⟩
            · skip
              replace hf := Nat.lt_trans g hf
              clear g
              replace h : EV F f 6 z6 56 [some (rf 0 (0)), some (.inl (c1)), some (.inl (c2)), some (.inr (.inr none)), some (.inl (u4)), some (rf 7 ((u4).toNatClampNeg))] [] σ (.inl (some (.inr (.inr w))), σ') := h
              replace h := ei_p h rfl rfl rfl rfl
              obtain ⟨f, g, h⟩ := h
              replace hf := Nat.lt_trans g hf
              clear g
              replace h : EV F f 6 z6 58 [some (rf 0 (0)), some (.inl (c1)), some (.inl (c2)), some (.inr (.inr none)), some (.inl (u4)), some (rf 7 ((u4).toNatClampNeg))] [rf 7 ((u4).toNatClampNeg)] σ (.inl (some (.inr (.inr w))), σ') := h
              replace h := ei_p h rfl rfl rfl rfl
              obtain ⟨f, g, h⟩ := h
              replace hf := Nat.lt_trans g hf
              clear g
              replace h : EV F f 6 z6 59 [some (rf 0 (0)), some (.inl (c1)), some (.inl (c2)), some (rf 7 ((u4).toNatClampNeg)), some (.inl (u4)), some (rf 7 ((u4).toNatClampNeg))] [] σ (.inl (some (.inr (.inr w))), σ') := h
              replace h := ei_p h rfl rfl rfl rfl
              obtain ⟨f, g, h⟩ := h
              replace hf := Nat.lt_trans g hf
              clear g
              replace h : EV F f 6 z6 62 [some (rf 0 (0)), some (.inl (c1)), some (.inl (c2)), some (rf 7 ((u4).toNatClampNeg)), some (.inl ((u4) + Int32.ofInt 1)), some (rf 7 ((u4).toNatClampNeg))] [] σ (.inl (some (.inr (.inr w))), σ') := h
              replace h := ei_p h rfl rfl rfl rfl
              obtain ⟨f, g, h⟩ := h
              replace hf := Nat.lt_trans g hf
              clear g
              replace h : EV F f 6 z6 5 [some (rf 0 (0)), some (.inl (c1)), some (.inl (c2)), some (rf 7 ((u4).toNatClampNeg)), some (.inl ((u4) + Int32.ofInt 1)), some (rf 7 ((u4).toNatClampNeg))] [] σ (.inl (some (.inr (.inr w))), σ') := h
              exact IH f hf (some (7, (u4).toNatClampNeg)) ((u4) + Int32.ofInt 1) (some (rf 7 ((u4).toNatClampNeg))) h
            · exact absurd rfl hp11
          · skip
            rw [e9] at h
            refine Or.inr ⟨q10, e9, ?_⟩
            replace h : EV F f 6 z6 44 [some (rf 0 (0)), some (.inl (c1)), some (.inl (c2)), some (.inr (.inr (some q10))), some (.inl (u4)), some (rf 7 ((u4).toNatClampNeg))] [.inr (.inr (some q10))] σ (.inl (some (.inr (.inr w))), σ') := h
            replace h := ei_c h rfl rfl rfl
            rcases h with ⟨hp12, f, g, h⟩ | ⟨hp12, f, g, h⟩
            · exact absurd hp12 (fun z => by cases z)
            · skip
              replace hf := Nat.lt_trans g hf
              clear g
              replace h : EV F f 6 z6 47 [some (rf 0 (0)), some (.inl (c1)), some (.inl (c2)), some (.inr (.inr (some q10))), some (.inl (u4)), some (rf 7 ((u4).toNatClampNeg))] [] σ (.inl (some (.inr (.inr w))), σ') := h
              replace h := ei_p h rfl rfl rfl rfl
              obtain ⟨f, g, h⟩ := h
              replace hf := Nat.lt_trans g hf
              clear g
              replace h : EV F f 6 z6 49 [some (rf 0 (0)), some (.inl (c1)), some (.inl (c2)), some (.inr (.inr (some q10))), some (.inl (u4)), some (rf 7 ((u4).toNatClampNeg))] [rf 7 ((u4).toNatClampNeg)] σ (.inl (some (.inr (.inr w))), σ') := h
              replace h := ei_p h rfl rfl rfl rfl
              obtain ⟨f, g, h⟩ := h
              replace hf := Nat.lt_trans g hf
              clear g
              replace h : EV F f 6 z6 50 [some (rf 0 (0)), some (.inl (c1)), some (.inl (c2)), some (.inr (.inr (some q10))), some (.inl (u4)), some (rf 7 ((u4).toNatClampNeg))] [.inr (.inr (some q10)), rf 7 ((u4).toNatClampNeg)] σ (.inl (some (.inr (.inr w))), σ') := h
              replace h := bk_I (ei_v (as := [.inr (.inr (some q10))]) h rfl rfl rfl) rfl z102_at (Or.inr rfl)
              obtain ⟨v13, σ14, r15, f, g, h⟩ := h
              replace hf := Nat.lt_trans g hf
              clear g
              have er15 := ro_run rfl r15
              rw [er15] at h r15
              have p16 := x102 hs r15
              refine ⟨v13, p16, ?_⟩
              replace h : EV F f 6 z6 53 [some (rf 0 (0)), some (.inl (c1)), some (.inl (c2)), some (.inr (.inr (some q10))), some (.inl (u4)), some (rf 7 ((u4).toNatClampNeg))] [.inl (v13)] σ (.inl (some (.inr (.inr w))), σ') := h
              replace h := ei_c h rfl rfl rfl
              rcases h with ⟨hp17, f, g, h⟩ | ⟨hp17, f, g, h⟩
              · skip
                replace hp17 : (v13).toInt = (0 : Int) := ic_eq.mp hp17
                refine Or.inl ⟨hp17, ?_⟩
                replace hf := Nat.lt_trans g hf
                clear g
                replace h : EV F f 6 z6 59 [some (rf 0 (0)), some (.inl (c1)), some (.inl (c2)), some (.inr (.inr (some q10))), some (.inl (u4)), some (rf 7 ((u4).toNatClampNeg))] [] σ (.inl (some (.inr (.inr w))), σ') := h
                replace h := ei_p h rfl rfl rfl rfl
                obtain ⟨f, g, h⟩ := h
                replace hf := Nat.lt_trans g hf
                clear g
                replace h : EV F f 6 z6 62 [some (rf 0 (0)), some (.inl (c1)), some (.inl (c2)), some (.inr (.inr (some q10))), some (.inl ((u4) + Int32.ofInt 1)), some (rf 7 ((u4).toNatClampNeg))] [] σ (.inl (some (.inr (.inr w))), σ') := h
                replace h := ei_p h rfl rfl rfl rfl
                obtain ⟨f, g, h⟩ := h
                replace hf := Nat.lt_trans g hf
                clear g
                replace h : EV F f 6 z6 5 [some (rf 0 (0)), some (.inl (c1)), some (.inl (c2)), some (.inr (.inr (some q10))), some (.inl ((u4) + Int32.ofInt 1)), some (rf 7 ((u4).toNatClampNeg))] [] σ (.inl (some (.inr (.inr w))), σ') := h
                exact IH f hf (some q10) ((u4) + Int32.ofInt 1) (some (rf 7 ((u4).toNatClampNeg))) h
              · skip
                replace hp17 : ¬ ((v13).toInt = (0 : Int)) := (not_congr ic_eq).mp hp17
                refine Or.inr ⟨hp17, ?_⟩
                replace hf := Nat.lt_trans g hf
                clear g
                replace h : EV F f 6 z6 56 [some (rf 0 (0)), some (.inl (c1)), some (.inl (c2)), some (.inr (.inr (some q10))), some (.inl (u4)), some (rf 7 ((u4).toNatClampNeg))] [] σ (.inl (some (.inr (.inr w))), σ') := h
                replace h := ei_p h rfl rfl rfl rfl
                obtain ⟨f, g, h⟩ := h
                replace hf := Nat.lt_trans g hf
                clear g
                replace h : EV F f 6 z6 58 [some (rf 0 (0)), some (.inl (c1)), some (.inl (c2)), some (.inr (.inr (some q10))), some (.inl (u4)), some (rf 7 ((u4).toNatClampNeg))] [rf 7 ((u4).toNatClampNeg)] σ (.inl (some (.inr (.inr w))), σ') := h
                replace h := ei_p h rfl rfl rfl rfl
                obtain ⟨f, g, h⟩ := h
                replace hf := Nat.lt_trans g hf
                clear g
                replace h : EV F f 6 z6 59 [some (rf 0 (0)), some (.inl (c1)), some (.inl (c2)), some (rf 7 ((u4).toNatClampNeg)), some (.inl (u4)), some (rf 7 ((u4).toNatClampNeg))] [] σ (.inl (some (.inr (.inr w))), σ') := h
                replace h := ei_p h rfl rfl rfl rfl
                obtain ⟨f, g, h⟩ := h
                replace hf := Nat.lt_trans g hf
                clear g
                replace h : EV F f 6 z6 62 [some (rf 0 (0)), some (.inl (c1)), some (.inl (c2)), some (rf 7 ((u4).toNatClampNeg)), some (.inl ((u4) + Int32.ofInt 1)), some (rf 7 ((u4).toNatClampNeg))] [] σ (.inl (some (.inr (.inr w))), σ') := h
                replace h := ei_p h rfl rfl rfl rfl
                obtain ⟨f, g, h⟩ := h
                replace hf := Nat.lt_trans g hf
                clear g
                replace h : EV F f 6 z6 5 [some (rf 0 (0)), some (.inl (c1)), some (.inl (c2)), some (rf 7 ((u4).toNatClampNeg)), some (.inl ((u4) + Int32.ofInt 1)), some (rf 7 ((u4).toNatClampNeg))] [] σ (.inl (some (.inr (.inr w))), σ') := h
                exact IH f hf (some (7, (u4).toNatClampNeg)) ((u4) + Int32.ofInt 1) (some (rf 7 ((u4).toNatClampNeg))) h
def P6 (σ : mS) (x1 : Int32) (x2 : Int32) (w : mR) : Prop := ∃ n, Q6_5 σ (x1) (x2) n none (Int32.ofInt 0) w
theorem x6 {σ σ' : mS} {x1 : Int32} {x2 : Int32} {w : mR} (hs : HS σ) (h : ev_run sm_all 6 [rf 0 (0), .inl (x1), .inl (x2)] σ (.inl (some (.inr (.inr w)))) σ') : P6 σ x1 x2 w := by
  unfold P6
  obtain ⟨F, f, h⟩ := ei_go h z6_at
  replace h : EV F f 6 z6 0 [some (rf 0 (0)), some (.inl (x1)), some (.inl (x2)), none, none, none] [] σ (.inl (some (.inr (.inr w))), σ') := h
  replace h := ei_p h rfl rfl rfl rfl
  obtain ⟨f, g, h⟩ := h
  clear g
  replace h : EV F f 6 z6 1 [some (rf 0 (0)), some (.inl (x1)), some (.inl (x2)), none, none, none] [.inr (.inr none)] σ (.inl (some (.inr (.inr w))), σ') := h
  replace h := ei_p h rfl rfl rfl rfl
  obtain ⟨f, g, h⟩ := h
  clear g
  replace h : EV F f 6 z6 2 [some (rf 0 (0)), some (.inl (x1)), some (.inl (x2)), some (.inr (.inr none)), none, none] [] σ (.inl (some (.inr (.inr w))), σ') := h
  replace h := ei_p h rfl rfl rfl rfl
  obtain ⟨f, g, h⟩ := h
  clear g
  replace h : EV F f 6 z6 3 [some (rf 0 (0)), some (.inl (x1)), some (.inl (x2)), some (.inr (.inr none)), none, none] [.inl (Int32.ofInt 0)] σ (.inl (some (.inr (.inr w))), σ') := h
  replace h := ei_p h rfl rfl rfl rfl
  obtain ⟨f, g, h⟩ := h
  clear g
  replace h : EV F f 6 z6 5 [some (rf 0 (0)), some (.inl (x1)), some (.inl (x2)), some (.inr (.inr none)), some (.inl (Int32.ofInt 0)), none] [] σ (.inl (some (.inr (.inr w))), σ') := h
  exact ⟨f + 1, q6_5 hs (f + 1) f (Nat.lt_succ_self f) none (Int32.ofInt 0) _ h⟩
def z7 : mAl := ((yX0_shownAt, cX0_shownAt, 7, (some .int), { frames := 1, cells := 0, slots := 0, locals := 22 }, []), rw_X0_shownAt, false)
theorem z7_at : m_alF[7]? = some z7 := rfl
def J7_69 (u4 : Int32) (σ : mS) (w : Int32) : Prop := w = (u4)
theorem j7_69 {F f : Nat} {σ σ' : mS} {u4 : Int32} {y0 : Option mV} {y1 : Option mV} {y2 : Option mV} {y3 : Option mV} {y5 : Option mV} {y6 : Option mV} {w : Int32} (hs : HS σ) (h : EV F f 7 z7 69 [y0, y1, y2, y3, some (.inl (u4)), y5, y6] [] σ (.inl (some (.inl w)), σ')) : J7_69 u4 σ w := by
  unfold J7_69
  replace h := ei_p h rfl rfl rfl rfl
  obtain ⟨f, g, h⟩ := h
  clear g
  replace h : EV F f 7 z7 71 [y0, y1, y2, y3, some (.inl (u4)), y5, y6] [.inl (u4)] σ (.inl (some (.inl w)), σ') := h
  have e := ei_iret h rfl
  cases e
  exact rfl
abbrev B7_6 (σ : mS) (c1 : Int32) (c2 : Int32) (c3 : Int32) (ih : Int32 → Int32 → Int32 → Prop) (u4 : Int32) (u5 : Int32) (w : Int32) : Prop := (((m_i σ 0 (0) 1).toInt ≤ (u5).toInt ∧ J7_69 (u4) σ w) ∨ (¬ ((m_i σ 0 (0) 1).toInt ≤ (u5).toInt) ∧ (((120 : Int) ≤ (u5).toInt ∧ J7_69 (u4) σ w) ∨ (¬ ((120 : Int) ≤ (u5).toInt) ∧ (0 ≤ (u5).toInt ∧ (u5).toInt < 120) ∧ ∃ v4, P100 σ ((u5).toNatClampNeg) (c1) (c2) v4 ∧ (((v4).toInt = (0 : Int) ∧ ih (u4) ((u5) + Int32.ofInt 1) w) ∨ (¬ ((v4).toInt = (0 : Int)) ∧ (((m_i σ 7 ((u5).toNatClampNeg) 4).toInt ≠ (c3).toInt ∧ ih (u4) ((u5) + Int32.ofInt 1) w) ∨ (¬ ((m_i σ 7 ((u5).toNatClampNeg) 4).toInt ≠ (c3).toInt) ∧ ∃ n10, n10 = (u4) + (m_i σ 7 ((u5).toNatClampNeg) 7) ∧ ih (n10) ((u5) + Int32.ofInt 1) w))))))))
def Q7_6 (σ : mS) (c1 : Int32) (c2 : Int32) (c3 : Int32) : Nat → Int32 → Int32 → Int32 → Prop
  | 0 => fun _ _ _ => False
  | n + 1 => B7_6 σ c1 c2 c3 (Q7_6 σ c1 c2 c3 n)
theorem q7_6 {F : Nat} {σ σ' : mS} {c1 : Int32} {c2 : Int32} {c3 : Int32} {w : Int32} (hs : HS σ) : ∀ N f, f < N → ∀ (u4 : Int32) (u5 : Int32) (y6 : Option mV), EV F f 7 z7 6 [some (rf 0 (0)), some (.inl (c1)), some (.inl (c2)), some (.inl (c3)), some (.inl (u4)), some (.inl (u5)), y6] [] σ (.inl (some (.inl w)), σ') → Q7_6 σ c1 c2 c3 N u4 u5 w := by
  intro N
  induction N with
  | zero => intro f hf; omega
  | succ N IH =>
    intro f hf0 u4 u5 y6 h
    have hf : f < N + 1 := hf0
    clear hf0
    show B7_6 σ c1 c2 c3 (Q7_6 σ c1 c2 c3 N) u4 u5 w
    replace h := ei_p h rfl rfl rfl rfl
    obtain ⟨f, g, h⟩ := h
    replace hf := Nat.lt_of_lt_of_le g (Nat.le_of_lt_succ hf)
    clear g
    replace h : EV F f 7 z7 8 [some (rf 0 (0)), some (.inl (c1)), some (.inl (c2)), some (.inl (c3)), some (.inl (u4)), some (.inl (u5)), y6] [.inl (u5)] σ (.inl (some (.inl w)), σ') := h
    replace h := ei_p h rfl rfl rfl rfl
    obtain ⟨f, g, h⟩ := h
    replace hf := Nat.lt_trans g hf
    clear g
    replace h : EV F f 7 z7 9 [some (rf 0 (0)), some (.inl (c1)), some (.inl (c2)), some (.inl (c3)), some (.inl (u4)), some (.inl (u5)), y6] [rf 0 (0), .inl (u5)] σ (.inl (some (.inl w)), σ') := h
    replace h := ei_get h rfl rfl
    obtain ⟨f, g, h⟩ := h
    replace hf := Nat.lt_trans g hf
    clear g
    replace h : EV F f 7 z7 12 [some (rf 0 (0)), some (.inl (c1)), some (.inl (c2)), some (.inl (c3)), some (.inl (u4)), some (.inl (u5)), y6] [.inl (m_i σ 0 (0) 1), .inl (u5)] σ (.inl (some (.inl w)), σ') := h
    replace h := ei_c h rfl rfl rfl
    rcases h with ⟨hp1, f, g, h⟩ | ⟨hp1, f, g, h⟩
    · skip
      replace hp1 : (m_i σ 0 (0) 1).toInt ≤ (u5).toInt := ic_ge.mp hp1
      refine Or.inl ⟨hp1, ?_⟩
      replace hf := Nat.lt_trans g hf
      clear g
      replace h : EV F f 7 z7 69 [some (rf 0 (0)), some (.inl (c1)), some (.inl (c2)), some (.inl (c3)), some (.inl (u4)), some (.inl (u5)), y6] [] σ (.inl (some (.inl w)), σ') := h
      exact j7_69 hs h
    · skip
      replace hp1 : ¬ ((m_i σ 0 (0) 1).toInt ≤ (u5).toInt) := (not_congr ic_ge).mp hp1
      refine Or.inr ⟨hp1, ?_⟩
      replace hf := Nat.lt_trans g hf
      clear g
      replace h : EV F f 7 z7 15 [some (rf 0 (0)), some (.inl (c1)), some (.inl (c2)), some (.inl (c3)), some (.inl (u4)), some (.inl (u5)), y6] [] σ (.inl (some (.inl w)), σ') := h
      replace h := ei_p h rfl rfl rfl rfl
      obtain ⟨f, g, h⟩ := h
      replace hf := Nat.lt_trans g hf
      clear g
      replace h : EV F f 7 z7 17 [some (rf 0 (0)), some (.inl (c1)), some (.inl (c2)), some (.inl (c3)), some (.inl (u4)), some (.inl (u5)), y6] [.inl (u5)] σ (.inl (some (.inl w)), σ') := h
      replace h := ei_p h rfl rfl rfl rfl
      obtain ⟨f, g, h⟩ := h
      replace hf := Nat.lt_trans g hf
      clear g
      replace h : EV F f 7 z7 18 [some (rf 0 (0)), some (.inl (c1)), some (.inl (c2)), some (.inl (c3)), some (.inl (u4)), some (.inl (u5)), y6] [rf 0 (0), .inl (u5)] σ (.inl (some (.inl w)), σ') := h
      replace h := ei_get h rfl (HS_g0_0 hs)
      obtain ⟨f, g, h⟩ := h
      replace hf := Nat.lt_trans g hf
      clear g
      replace h : EV F f 7 z7 21 [some (rf 0 (0)), some (.inl (c1)), some (.inl (c2)), some (.inl (c3)), some (.inl (u4)), some (.inl (u5)), y6] [rf 17 (0), .inl (u5)] σ (.inl (some (.inl w)), σ') := h
      replace h := ei_len h rfl (HS_l17_0 hs) ⟨Nat.le_of_ble_eq_true rfl, Nat.le_of_ble_eq_true rfl⟩
      obtain ⟨f, g, h⟩ := h
      replace hf := Nat.lt_trans g hf
      clear g
      replace h : EV F f 7 z7 22 [some (rf 0 (0)), some (.inl (c1)), some (.inl (c2)), some (.inl (c3)), some (.inl (u4)), some (.inl (u5)), y6] [.inl (Int32.ofInt 120), .inl (u5)] σ (.inl (some (.inl w)), σ') := h
      replace h := ei_c h rfl rfl rfl
      rcases h with ⟨hp2, f, g, h⟩ | ⟨hp2, f, g, h⟩
      · skip
        replace hp2 : (120 : Int) ≤ (u5).toInt := ic_ge.mp hp2
        refine Or.inl ⟨hp2, ?_⟩
        replace hf := Nat.lt_trans g hf
        clear g
        replace h : EV F f 7 z7 69 [some (rf 0 (0)), some (.inl (c1)), some (.inl (c2)), some (.inl (c3)), some (.inl (u4)), some (.inl (u5)), y6] [] σ (.inl (some (.inl w)), σ') := h
        exact j7_69 hs h
      · skip
        replace hp2 : ¬ ((120 : Int) ≤ (u5).toInt) := (not_congr ic_ge).mp hp2
        refine Or.inr ⟨hp2, ?_⟩
        replace hf := Nat.lt_trans g hf
        clear g
        replace h : EV F f 7 z7 25 [some (rf 0 (0)), some (.inl (c1)), some (.inl (c2)), some (.inl (c3)), some (.inl (u4)), some (.inl (u5)), y6] [] σ (.inl (some (.inl w)), σ') := h
        replace h := ei_p h rfl rfl rfl rfl
        obtain ⟨f, g, h⟩ := h
        replace hf := Nat.lt_trans g hf
        clear g
        replace h : EV F f 7 z7 26 [some (rf 0 (0)), some (.inl (c1)), some (.inl (c2)), some (.inl (c3)), some (.inl (u4)), some (.inl (u5)), y6] [rf 0 (0)] σ (.inl (some (.inl w)), σ') := h
        replace h := ei_get h rfl (HS_g0_0 hs)
        obtain ⟨f, g, h⟩ := h
        replace hf := Nat.lt_trans g hf
        clear g
        replace h : EV F f 7 z7 29 [some (rf 0 (0)), some (.inl (c1)), some (.inl (c2)), some (.inl (c3)), some (.inl (u4)), some (.inl (u5)), y6] [rf 17 (0)] σ (.inl (some (.inl w)), σ') := h
        replace h := ei_p h rfl rfl rfl rfl
        obtain ⟨f, g, h⟩ := h
        replace hf := Nat.lt_trans g hf
        clear g
        replace h : EV F f 7 z7 31 [some (rf 0 (0)), some (.inl (c1)), some (.inl (c2)), some (.inl (c3)), some (.inl (u4)), some (.inl (u5)), y6] [.inl (u5), rf 17 (0)] σ (.inl (some (.inl w)), σ') := h
        replace h := ei_ald h rfl (HS_a17 hs)
        obtain ⟨vp3, f, g, h⟩ := h
        replace hf := Nat.lt_trans g hf
        clear g
        replace h : EV F f 7 z7 32 [some (rf 0 (0)), some (.inl (c1)), some (.inl (c2)), some (.inl (c3)), some (.inl (u4)), some (.inl (u5)), y6] [rf 7 ((u5).toNatClampNeg)] σ (.inl (some (.inl w)), σ') := h
        refine ⟨HS_v17 hs vp3, ?_⟩
        replace h := ei_p h rfl rfl rfl rfl
        obtain ⟨f, g, h⟩ := h
        replace hf := Nat.lt_trans g hf
        clear g
        replace h : EV F f 7 z7 34 [some (rf 0 (0)), some (.inl (c1)), some (.inl (c2)), some (.inl (c3)), some (.inl (u4)), some (.inl (u5)), some (rf 7 ((u5).toNatClampNeg))] [] σ (.inl (some (.inl w)), σ') := h
        replace h := ei_p h rfl rfl rfl rfl
        obtain ⟨f, g, h⟩ := h
        replace hf := Nat.lt_trans g hf
        clear g
        replace h : EV F f 7 z7 36 [some (rf 0 (0)), some (.inl (c1)), some (.inl (c2)), some (.inl (c3)), some (.inl (u4)), some (.inl (u5)), some (rf 7 ((u5).toNatClampNeg))] [rf 7 ((u5).toNatClampNeg)] σ (.inl (some (.inl w)), σ') := h
        replace h := ei_p h rfl rfl rfl rfl
        obtain ⟨f, g, h⟩ := h
        replace hf := Nat.lt_trans g hf
        clear g
        replace h : EV F f 7 z7 37 [some (rf 0 (0)), some (.inl (c1)), some (.inl (c2)), some (.inl (c3)), some (.inl (u4)), some (.inl (u5)), some (rf 7 ((u5).toNatClampNeg))] [.inl (c1), rf 7 ((u5).toNatClampNeg)] σ (.inl (some (.inl w)), σ') := h
        replace h := ei_p h rfl rfl rfl rfl
        obtain ⟨f, g, h⟩ := h
        replace hf := Nat.lt_trans g hf
        clear g
        replace h : EV F f 7 z7 38 [some (rf 0 (0)), some (.inl (c1)), some (.inl (c2)), some (.inl (c3)), some (.inl (u4)), some (.inl (u5)), some (rf 7 ((u5).toNatClampNeg))] [.inl (c2), .inl (c1), rf 7 ((u5).toNatClampNeg)] σ (.inl (some (.inl w)), σ') := h
        replace h := bk_I (ei_v (as := [.inl (c2), .inl (c1)]) h rfl rfl rfl) rfl z100_at (Or.inr rfl)
        obtain ⟨v4, σ5, r6, f, g, h⟩ := h
        replace hf := Nat.lt_trans g hf
        clear g
        have er6 := ro_run rfl r6
        rw [er6] at h r6
        have p7 := x100 hs r6
        refine ⟨v4, p7, ?_⟩
        replace h : EV F f 7 z7 41 [some (rf 0 (0)), some (.inl (c1)), some (.inl (c2)), some (.inl (c3)), some (.inl (u4)), some (.inl (u5)), some (rf 7 ((u5).toNatClampNeg))] [.inl (v4)] σ (.inl (some (.inl w)), σ') := h
        replace h := ei_c h rfl rfl rfl
        rcases h with ⟨hp8, f, g, h⟩ | ⟨hp8, f, g, h⟩
        · skip
          replace hp8 : (v4).toInt = (0 : Int) := ic_eq.mp hp8
          refine Or.inl ⟨hp8, ?_⟩
          replace hf := Nat.lt_trans g hf
          clear g
          replace h : EV F f 7 z7 63 [some (rf 0 (0)), some (.inl (c1)), some (.inl (c2)), some (.inl (c3)), some (.inl (u4)), some (.inl (u5)), some (rf 7 ((u5).toNatClampNeg))] [] σ (.inl (some (.inl w)), σ') := h
          replace h := ei_p h rfl rfl rfl rfl
          obtain ⟨f, g, h⟩ := h
          replace hf := Nat.lt_trans g hf
          clear g
          replace h : EV F f 7 z7 66 [some (rf 0 (0)), some (.inl (c1)), some (.inl (c2)), some (.inl (c3)), some (.inl (u4)), some (.inl ((u5) + Int32.ofInt 1)), some (rf 7 ((u5).toNatClampNeg))] [] σ (.inl (some (.inl w)), σ') := h
          replace h := ei_p h rfl rfl rfl rfl
          obtain ⟨f, g, h⟩ := h
          replace hf := Nat.lt_trans g hf
          clear g
          replace h : EV F f 7 z7 6 [some (rf 0 (0)), some (.inl (c1)), some (.inl (c2)), some (.inl (c3)), some (.inl (u4)), some (.inl ((u5) + Int32.ofInt 1)), some (rf 7 ((u5).toNatClampNeg))] [] σ (.inl (some (.inl w)), σ') := h
          exact IH f hf (u4) ((u5) + Int32.ofInt 1) (some (rf 7 ((u5).toNatClampNeg))) h
        · skip
          replace hp8 : ¬ ((v4).toInt = (0 : Int)) := (not_congr ic_eq).mp hp8
          refine Or.inr ⟨hp8, ?_⟩
          replace hf := Nat.lt_trans g hf
          clear g
          replace h : EV F f 7 z7 44 [some (rf 0 (0)), some (.inl (c1)), some (.inl (c2)), some (.inl (c3)), some (.inl (u4)), some (.inl (u5)), some (rf 7 ((u5).toNatClampNeg))] [] σ (.inl (some (.inl w)), σ') := h
          replace h := ei_p h rfl rfl rfl rfl
          obtain ⟨f, g, h⟩ := h
          replace hf := Nat.lt_trans g hf
          clear g
          replace h : EV F f 7 z7 46 [some (rf 0 (0)), some (.inl (c1)), some (.inl (c2)), some (.inl (c3)), some (.inl (u4)), some (.inl (u5)), some (rf 7 ((u5).toNatClampNeg))] [rf 7 ((u5).toNatClampNeg)] σ (.inl (some (.inl w)), σ') := h
          replace h := ei_get h rfl rfl
          obtain ⟨f, g, h⟩ := h
          replace hf := Nat.lt_trans g hf
          clear g
          replace h : EV F f 7 z7 49 [some (rf 0 (0)), some (.inl (c1)), some (.inl (c2)), some (.inl (c3)), some (.inl (u4)), some (.inl (u5)), some (rf 7 ((u5).toNatClampNeg))] [.inl (m_i σ 7 ((u5).toNatClampNeg) 4)] σ (.inl (some (.inl w)), σ') := h
          replace h := ei_p h rfl rfl rfl rfl
          obtain ⟨f, g, h⟩ := h
          replace hf := Nat.lt_trans g hf
          clear g
          replace h : EV F f 7 z7 50 [some (rf 0 (0)), some (.inl (c1)), some (.inl (c2)), some (.inl (c3)), some (.inl (u4)), some (.inl (u5)), some (rf 7 ((u5).toNatClampNeg))] [.inl (c3), .inl (m_i σ 7 ((u5).toNatClampNeg) 4)] σ (.inl (some (.inl w)), σ') := h
          replace h := ei_c h rfl rfl rfl
          rcases h with ⟨hp9, f, g, h⟩ | ⟨hp9, f, g, h⟩
          · skip
            replace hp9 : (m_i σ 7 ((u5).toNatClampNeg) 4).toInt ≠ (c3).toInt := ic_ne.mp hp9
            refine Or.inl ⟨hp9, ?_⟩
            replace hf := Nat.lt_trans g hf
            clear g
            replace h : EV F f 7 z7 63 [some (rf 0 (0)), some (.inl (c1)), some (.inl (c2)), some (.inl (c3)), some (.inl (u4)), some (.inl (u5)), some (rf 7 ((u5).toNatClampNeg))] [] σ (.inl (some (.inl w)), σ') := h
            replace h := ei_p h rfl rfl rfl rfl
            obtain ⟨f, g, h⟩ := h
            replace hf := Nat.lt_trans g hf
            clear g
            replace h : EV F f 7 z7 66 [some (rf 0 (0)), some (.inl (c1)), some (.inl (c2)), some (.inl (c3)), some (.inl (u4)), some (.inl ((u5) + Int32.ofInt 1)), some (rf 7 ((u5).toNatClampNeg))] [] σ (.inl (some (.inl w)), σ') := h
            replace h := ei_p h rfl rfl rfl rfl
            obtain ⟨f, g, h⟩ := h
            replace hf := Nat.lt_trans g hf
            clear g
            replace h : EV F f 7 z7 6 [some (rf 0 (0)), some (.inl (c1)), some (.inl (c2)), some (.inl (c3)), some (.inl (u4)), some (.inl ((u5) + Int32.ofInt 1)), some (rf 7 ((u5).toNatClampNeg))] [] σ (.inl (some (.inl w)), σ') := h
            exact IH f hf (u4) ((u5) + Int32.ofInt 1) (some (rf 7 ((u5).toNatClampNeg))) h
          · skip
            replace hp9 : ¬ ((m_i σ 7 ((u5).toNatClampNeg) 4).toInt ≠ (c3).toInt) := (not_congr ic_ne).mp hp9
            refine Or.inr ⟨hp9, ?_⟩
            replace hf := Nat.lt_trans g hf
            clear g
            replace h : EV F f 7 z7 53 [some (rf 0 (0)), some (.inl (c1)), some (.inl (c2)), some (.inl (c3)), some (.inl (u4)), some (.inl (u5)), some (rf 7 ((u5).toNatClampNeg))] [] σ (.inl (some (.inl w)), σ') := h
            replace h := ei_p h rfl rfl rfl rfl
            obtain ⟨f, g, h⟩ := h
            replace hf := Nat.lt_trans g hf
            clear g
            replace h : EV F f 7 z7 55 [some (rf 0 (0)), some (.inl (c1)), some (.inl (c2)), some (.inl (c3)), some (.inl (u4)), some (.inl (u5)), some (rf 7 ((u5).toNatClampNeg))] [.inl (u4)] σ (.inl (some (.inl w)), σ') := h
            replace h := ei_p h rfl rfl rfl rfl
            obtain ⟨f, g, h⟩ := h
            replace hf := Nat.lt_trans g hf
            clear g
            replace h : EV F f 7 z7 57 [some (rf 0 (0)), some (.inl (c1)), some (.inl (c2)), some (.inl (c3)), some (.inl (u4)), some (.inl (u5)), some (rf 7 ((u5).toNatClampNeg))] [rf 7 ((u5).toNatClampNeg), .inl (u4)] σ (.inl (some (.inl w)), σ') := h
            replace h := ei_get h rfl rfl
            obtain ⟨f, g, h⟩ := h
            replace hf := Nat.lt_trans g hf
            clear g
            replace h : EV F f 7 z7 60 [some (rf 0 (0)), some (.inl (c1)), some (.inl (c2)), some (.inl (c3)), some (.inl (u4)), some (.inl (u5)), some (rf 7 ((u5).toNatClampNeg))] [.inl (m_i σ 7 ((u5).toNatClampNeg) 7), .inl (u4)] σ (.inl (some (.inl w)), σ') := h
            replace h := ei_p h rfl rfl rfl rfl
            obtain ⟨f, g, h⟩ := h
            replace hf := Nat.lt_trans g hf
            clear g
            replace h : EV F f 7 z7 61 [some (rf 0 (0)), some (.inl (c1)), some (.inl (c2)), some (.inl (c3)), some (.inl (u4)), some (.inl (u5)), some (rf 7 ((u5).toNatClampNeg))] [.inl ((u4) + (m_i σ 7 ((u5).toNatClampNeg) 7))] σ (.inl (some (.inl w)), σ') := h
            replace h := ei_p h rfl rfl rfl rfl
            obtain ⟨f, g, h⟩ := h
            replace hf := Nat.lt_trans g hf
            clear g
            replace h : EV F f 7 z7 63 [some (rf 0 (0)), some (.inl (c1)), some (.inl (c2)), some (.inl (c3)), some (.inl ((u4) + (m_i σ 7 ((u5).toNatClampNeg) 7))), some (.inl (u5)), some (rf 7 ((u5).toNatClampNeg))] [] σ (.inl (some (.inl w)), σ') := h
            obtain ⟨n10, e11⟩ : ∃ s, s = (u4) + (m_i σ 7 ((u5).toNatClampNeg) 7) := ⟨_, rfl⟩
            rw [← e11] at h
            refine ⟨n10, e11, ?_⟩
            replace h : EV F f 7 z7 63 [some (rf 0 (0)), some (.inl (c1)), some (.inl (c2)), some (.inl (c3)), some (.inl (n10)), some (.inl (u5)), some (rf 7 ((u5).toNatClampNeg))] [] σ (.inl (some (.inl w)), σ') := h
            replace h := ei_p h rfl rfl rfl rfl
            obtain ⟨f, g, h⟩ := h
            replace hf := Nat.lt_trans g hf
            clear g
            replace h : EV F f 7 z7 66 [some (rf 0 (0)), some (.inl (c1)), some (.inl (c2)), some (.inl (c3)), some (.inl (n10)), some (.inl ((u5) + Int32.ofInt 1)), some (rf 7 ((u5).toNatClampNeg))] [] σ (.inl (some (.inl w)), σ') := h
            replace h := ei_p h rfl rfl rfl rfl
            obtain ⟨f, g, h⟩ := h
            replace hf := Nat.lt_trans g hf
            clear g
            replace h : EV F f 7 z7 6 [some (rf 0 (0)), some (.inl (c1)), some (.inl (c2)), some (.inl (c3)), some (.inl (n10)), some (.inl ((u5) + Int32.ofInt 1)), some (rf 7 ((u5).toNatClampNeg))] [] σ (.inl (some (.inl w)), σ') := h
            exact IH f hf (n10) ((u5) + Int32.ofInt 1) (some (rf 7 ((u5).toNatClampNeg))) h
def P7 (σ : mS) (x1 : Int32) (x2 : Int32) (x3 : Int32) (w : Int32) : Prop := ∃ n, Q7_6 σ (x1) (x2) (x3) n (Int32.ofInt 0) (Int32.ofInt 0) w
theorem x7 {σ σ' : mS} {x1 : Int32} {x2 : Int32} {x3 : Int32} {w : Int32} (hs : HS σ) (h : ev_run sm_all 7 [rf 0 (0), .inl (x1), .inl (x2), .inl (x3)] σ (.inl (some (.inl w))) σ') : P7 σ x1 x2 x3 w := by
  unfold P7
  obtain ⟨F, f, h⟩ := ei_go h z7_at
  replace h : EV F f 7 z7 0 [some (rf 0 (0)), some (.inl (x1)), some (.inl (x2)), some (.inl (x3)), none, none, none] [] σ (.inl (some (.inl w)), σ') := h
  replace h := ei_p h rfl rfl rfl rfl
  obtain ⟨f, g, h⟩ := h
  clear g
  replace h : EV F f 7 z7 1 [some (rf 0 (0)), some (.inl (x1)), some (.inl (x2)), some (.inl (x3)), none, none, none] [.inl (Int32.ofInt 0)] σ (.inl (some (.inl w)), σ') := h
  replace h := ei_p h rfl rfl rfl rfl
  obtain ⟨f, g, h⟩ := h
  clear g
  replace h : EV F f 7 z7 3 [some (rf 0 (0)), some (.inl (x1)), some (.inl (x2)), some (.inl (x3)), some (.inl (Int32.ofInt 0)), none, none] [] σ (.inl (some (.inl w)), σ') := h
  replace h := ei_p h rfl rfl rfl rfl
  obtain ⟨f, g, h⟩ := h
  clear g
  replace h : EV F f 7 z7 4 [some (rf 0 (0)), some (.inl (x1)), some (.inl (x2)), some (.inl (x3)), some (.inl (Int32.ofInt 0)), none, none] [.inl (Int32.ofInt 0)] σ (.inl (some (.inl w)), σ') := h
  replace h := ei_p h rfl rfl rfl rfl
  obtain ⟨f, g, h⟩ := h
  clear g
  replace h : EV F f 7 z7 6 [some (rf 0 (0)), some (.inl (x1)), some (.inl (x2)), some (.inl (x3)), some (.inl (Int32.ofInt 0)), some (.inl (Int32.ofInt 0)), none] [] σ (.inl (some (.inl w)), σ') := h
  exact ⟨f + 1, q7_6 hs (f + 1) f (Nat.lt_succ_self f) (Int32.ofInt 0) (Int32.ofInt 0) _ h⟩
def z103 : mAl := ((yX7_isGoodFor, cX7_isGoodFor, 2, (some .boolean), { frames := 0, cells := 0, slots := 0, locals := 0 }, []), rw_X7_isGoodFor, false)
theorem z103_at : m_alF[103]? = some z103 := rfl
def P103 (σ : mS) (a : Nat) (x1 : Int32) (w : Int32) : Prop := (((m_i σ 7 (a) 3).toInt ≠ (0 : Int) ∧ (((x1).toInt < (m_i σ 7 (a) 4).toInt ∧ w = (Int32.ofInt 0)) ∨ (¬ ((x1).toInt < (m_i σ 7 (a) 4).toInt) ∧ w = (Int32.ofInt 1)))) ∨ (¬ ((m_i σ 7 (a) 3).toInt ≠ (0 : Int)) ∧ (((m_i σ 7 (a) 4).toInt < (x1).toInt ∧ w = (Int32.ofInt 0)) ∨ (¬ ((m_i σ 7 (a) 4).toInt < (x1).toInt) ∧ w = (Int32.ofInt 1)))))
theorem x103 {σ σ' : mS} {a : Nat} {x1 : Int32} {w : Int32} (hs : HS σ) (h : ev_run sm_all 103 [rf 7 (a), .inl (x1)] σ (.inl (some (.inl w))) σ') : P103 σ a x1 w := by
  unfold P103
  obtain ⟨F, f, h⟩ := ei_go h z103_at
  replace h : EV F f 103 z103 0 [some (rf 7 (a)), some (.inl (x1))] [] σ (.inl (some (.inl w)), σ') := h
  replace h := ei_p h rfl rfl rfl rfl
  obtain ⟨f, g, h⟩ := h
  clear g
  replace h : EV F f 103 z103 1 [some (rf 7 (a)), some (.inl (x1))] [rf 7 (a)] σ (.inl (some (.inl w)), σ') := h
  replace h := ei_get h rfl rfl
  obtain ⟨f, g, h⟩ := h
  clear g
  replace h : EV F f 103 z103 4 [some (rf 7 (a)), some (.inl (x1))] [.inl (m_i σ 7 (a) 3)] σ (.inl (some (.inl w)), σ') := h
  replace h := ei_c h rfl rfl rfl
  rcases h with ⟨hp1, f, g, h⟩ | ⟨hp1, f, g, h⟩
  · skip
    replace hp1 : (m_i σ 7 (a) 3).toInt ≠ (0 : Int) := ic_ne.mp hp1
    refine Or.inl ⟨hp1, ?_⟩
    clear g
    replace h : EV F f 103 z103 23 [some (rf 7 (a)), some (.inl (x1))] [] σ (.inl (some (.inl w)), σ') := h
    replace h := ei_p h rfl rfl rfl rfl
    obtain ⟨f, g, h⟩ := h
    clear g
    replace h : EV F f 103 z103 24 [some (rf 7 (a)), some (.inl (x1))] [rf 7 (a)] σ (.inl (some (.inl w)), σ') := h
    replace h := ei_get h rfl rfl
    obtain ⟨f, g, h⟩ := h
    clear g
    replace h : EV F f 103 z103 27 [some (rf 7 (a)), some (.inl (x1))] [.inl (m_i σ 7 (a) 4)] σ (.inl (some (.inl w)), σ') := h
    replace h := ei_p h rfl rfl rfl rfl
    obtain ⟨f, g, h⟩ := h
    clear g
    replace h : EV F f 103 z103 28 [some (rf 7 (a)), some (.inl (x1))] [.inl (x1), .inl (m_i σ 7 (a) 4)] σ (.inl (some (.inl w)), σ') := h
    replace h := ei_c h rfl rfl rfl
    rcases h with ⟨hp2, f, g, h⟩ | ⟨hp2, f, g, h⟩
    · skip
      replace hp2 : (x1).toInt < (m_i σ 7 (a) 4).toInt := ic_gt.mp hp2
      refine Or.inl ⟨hp2, ?_⟩
      clear g
      replace h : EV F f 103 z103 35 [some (rf 7 (a)), some (.inl (x1))] [] σ (.inl (some (.inl w)), σ') := h
      replace h := ei_p h rfl rfl rfl rfl
      obtain ⟨f, g, h⟩ := h
      clear g
      replace h : EV F f 103 z103 36 [some (rf 7 (a)), some (.inl (x1))] [.inl (Int32.ofInt 0)] σ (.inl (some (.inl w)), σ') := h
      have e := ei_iret h rfl
      cases e
      exact rfl
    · skip
      replace hp2 : ¬ ((x1).toInt < (m_i σ 7 (a) 4).toInt) := (not_congr ic_gt).mp hp2
      refine Or.inr ⟨hp2, ?_⟩
      clear g
      replace h : EV F f 103 z103 31 [some (rf 7 (a)), some (.inl (x1))] [] σ (.inl (some (.inl w)), σ') := h
      replace h := ei_p h rfl rfl rfl rfl
      obtain ⟨f, g, h⟩ := h
      clear g
      replace h : EV F f 103 z103 32 [some (rf 7 (a)), some (.inl (x1))] [.inl (Int32.ofInt 1)] σ (.inl (some (.inl w)), σ') := h
      replace h := ei_p h rfl rfl rfl rfl
      obtain ⟨f, g, h⟩ := h
      clear g
      replace h : EV F f 103 z103 36 [some (rf 7 (a)), some (.inl (x1))] [.inl (Int32.ofInt 1)] σ (.inl (some (.inl w)), σ') := h
      have e := ei_iret h rfl
      cases e
      exact rfl
  · skip
    replace hp1 : ¬ ((m_i σ 7 (a) 3).toInt ≠ (0 : Int)) := (not_congr ic_ne).mp hp1
    refine Or.inr ⟨hp1, ?_⟩
    clear g
    replace h : EV F f 103 z103 7 [some (rf 7 (a)), some (.inl (x1))] [] σ (.inl (some (.inl w)), σ') := h
    replace h := ei_p h rfl rfl rfl rfl
    obtain ⟨f, g, h⟩ := h
    clear g
    replace h : EV F f 103 z103 8 [some (rf 7 (a)), some (.inl (x1))] [rf 7 (a)] σ (.inl (some (.inl w)), σ') := h
    replace h := ei_get h rfl rfl
    obtain ⟨f, g, h⟩ := h
    clear g
    replace h : EV F f 103 z103 11 [some (rf 7 (a)), some (.inl (x1))] [.inl (m_i σ 7 (a) 4)] σ (.inl (some (.inl w)), σ') := h
    replace h := ei_p h rfl rfl rfl rfl
    obtain ⟨f, g, h⟩ := h
    clear g
    replace h : EV F f 103 z103 12 [some (rf 7 (a)), some (.inl (x1))] [.inl (x1), .inl (m_i σ 7 (a) 4)] σ (.inl (some (.inl w)), σ') := h
    replace h := ei_c h rfl rfl rfl
    rcases h with ⟨hp3, f, g, h⟩ | ⟨hp3, f, g, h⟩
    · skip
      replace hp3 : (m_i σ 7 (a) 4).toInt < (x1).toInt := ic_lt.mp hp3
      refine Or.inl ⟨hp3, ?_⟩
      clear g
      replace h : EV F f 103 z103 19 [some (rf 7 (a)), some (.inl (x1))] [] σ (.inl (some (.inl w)), σ') := h
      replace h := ei_p h rfl rfl rfl rfl
      obtain ⟨f, g, h⟩ := h
      clear g
      replace h : EV F f 103 z103 20 [some (rf 7 (a)), some (.inl (x1))] [.inl (Int32.ofInt 0)] σ (.inl (some (.inl w)), σ') := h
      replace h := ei_p h rfl rfl rfl rfl
      obtain ⟨f, g, h⟩ := h
      clear g
      replace h : EV F f 103 z103 36 [some (rf 7 (a)), some (.inl (x1))] [.inl (Int32.ofInt 0)] σ (.inl (some (.inl w)), σ') := h
      have e := ei_iret h rfl
      cases e
      exact rfl
    · skip
      replace hp3 : ¬ ((m_i σ 7 (a) 4).toInt < (x1).toInt) := (not_congr ic_lt).mp hp3
      refine Or.inr ⟨hp3, ?_⟩
      clear g
      replace h : EV F f 103 z103 15 [some (rf 7 (a)), some (.inl (x1))] [] σ (.inl (some (.inl w)), σ') := h
      replace h := ei_p h rfl rfl rfl rfl
      obtain ⟨f, g, h⟩ := h
      clear g
      replace h : EV F f 103 z103 16 [some (rf 7 (a)), some (.inl (x1))] [.inl (Int32.ofInt 1)] σ (.inl (some (.inl w)), σ') := h
      replace h := ei_p h rfl rfl rfl rfl
      obtain ⟨f, g, h⟩ := h
      clear g
      replace h : EV F f 103 z103 36 [some (rf 7 (a)), some (.inl (x1))] [.inl (Int32.ofInt 1)] σ (.inl (some (.inl w)), σ') := h
      have e := ei_iret h rfl
      cases e
      exact rfl
def z8 : mAl := ((yX0_sumGoodFor, cX0_sumGoodFor, 8, (some .int), { frames := 1, cells := 0, slots := 0, locals := 22 }, []), rw_X0_sumGoodFor, false)
theorem z8_at : m_alF[8]? = some z8 := rfl
def J8_79 (u5 : Int32) (σ : mS) (w : Int32) : Prop := w = (u5)
theorem j8_79 {F f : Nat} {σ σ' : mS} {u5 : Int32} {y0 : Option mV} {y1 : Option mV} {y2 : Option mV} {y3 : Option mV} {y4 : Option mV} {y6 : Option mV} {y7 : Option mV} {w : Int32} (hs : HS σ) (h : EV F f 8 z8 79 [y0, y1, y2, y3, y4, some (.inl (u5)), y6, y7] [] σ (.inl (some (.inl w)), σ')) : J8_79 u5 σ w := by
  unfold J8_79
  replace h := ei_p h rfl rfl rfl rfl
  obtain ⟨f, g, h⟩ := h
  clear g
  replace h : EV F f 8 z8 81 [y0, y1, y2, y3, y4, some (.inl (u5)), y6, y7] [.inl (u5)] σ (.inl (some (.inl w)), σ') := h
  have e := ei_iret h rfl
  cases e
  exact rfl
abbrev B8_6 (σ : mS) (c1 : Int32) (c2 : Int32) (c3 : Int32) (c4 : Int32) (ih : Int32 → Int32 → Int32 → Prop) (u5 : Int32) (u6 : Int32) (w : Int32) : Prop := (((m_i σ 0 (0) 1).toInt ≤ (u6).toInt ∧ J8_79 (u5) σ w) ∨ (¬ ((m_i σ 0 (0) 1).toInt ≤ (u6).toInt) ∧ (((120 : Int) ≤ (u6).toInt ∧ J8_79 (u5) σ w) ∨ (¬ ((120 : Int) ≤ (u6).toInt) ∧ (0 ≤ (u6).toInt ∧ (u6).toInt < 120) ∧ ∃ v4, P100 σ ((u6).toNatClampNeg) (c1) (c2) v4 ∧ (((v4).toInt = (0 : Int) ∧ ih (u5) ((u6) + Int32.ofInt 1) w) ∨ (¬ ((v4).toInt = (0 : Int)) ∧ ∃ v9, P103 σ ((u6).toNatClampNeg) (c3) v9 ∧ (((v9).toInt = (0 : Int) ∧ ih (u5) ((u6) + Int32.ofInt 1) w) ∨ (¬ ((v9).toInt = (0 : Int)) ∧ (((m_i σ 7 ((u6).toNatClampNeg) 1).toInt = (c4).toInt ∧ ih (u5) ((u6) + Int32.ofInt 1) w) ∨ (¬ ((m_i σ 7 ((u6).toNatClampNeg) 1).toInt = (c4).toInt) ∧ ∃ n15, n15 = (u5) + (m_i σ 7 ((u6).toNatClampNeg) 6) ∧ ih (n15) ((u6) + Int32.ofInt 1) w))))))))))
def Q8_6 (σ : mS) (c1 : Int32) (c2 : Int32) (c3 : Int32) (c4 : Int32) : Nat → Int32 → Int32 → Int32 → Prop
  | 0 => fun _ _ _ => False
  | n + 1 => B8_6 σ c1 c2 c3 c4 (Q8_6 σ c1 c2 c3 c4 n)
theorem q8_6 {F : Nat} {σ σ' : mS} {c1 : Int32} {c2 : Int32} {c3 : Int32} {c4 : Int32} {w : Int32} (hs : HS σ) : ∀ N f, f < N → ∀ (u5 : Int32) (u6 : Int32) (y7 : Option mV), EV F f 8 z8 6 [some (rf 0 (0)), some (.inl (c1)), some (.inl (c2)), some (.inl (c3)), some (.inl (c4)), some (.inl (u5)), some (.inl (u6)), y7] [] σ (.inl (some (.inl w)), σ') → Q8_6 σ c1 c2 c3 c4 N u5 u6 w := by
  intro N
  induction N with
  | zero => intro f hf; omega
  | succ N IH =>
    intro f hf0 u5 u6 y7 h
    have hf : f < N + 1 := hf0
    clear hf0
    show B8_6 σ c1 c2 c3 c4 (Q8_6 σ c1 c2 c3 c4 N) u5 u6 w
    replace h := ei_p h rfl rfl rfl rfl
    obtain ⟨f, g, h⟩ := h
    replace hf := Nat.lt_of_lt_of_le g (Nat.le_of_lt_succ hf)
    clear g
    replace h : EV F f 8 z8 8 [some (rf 0 (0)), some (.inl (c1)), some (.inl (c2)), some (.inl (c3)), some (.inl (c4)), some (.inl (u5)), some (.inl (u6)), y7] [.inl (u6)] σ (.inl (some (.inl w)), σ') := h
    replace h := ei_p h rfl rfl rfl rfl
    obtain ⟨f, g, h⟩ := h
    replace hf := Nat.lt_trans g hf
    clear g
    replace h : EV F f 8 z8 9 [some (rf 0 (0)), some (.inl (c1)), some (.inl (c2)), some (.inl (c3)), some (.inl (c4)), some (.inl (u5)), some (.inl (u6)), y7] [rf 0 (0), .inl (u6)] σ (.inl (some (.inl w)), σ') := h
    replace h := ei_get h rfl rfl
    obtain ⟨f, g, h⟩ := h
    replace hf := Nat.lt_trans g hf
    clear g
    replace h : EV F f 8 z8 12 [some (rf 0 (0)), some (.inl (c1)), some (.inl (c2)), some (.inl (c3)), some (.inl (c4)), some (.inl (u5)), some (.inl (u6)), y7] [.inl (m_i σ 0 (0) 1), .inl (u6)] σ (.inl (some (.inl w)), σ') := h
    replace h := ei_c h rfl rfl rfl
    rcases h with ⟨hp1, f, g, h⟩ | ⟨hp1, f, g, h⟩
    · skip
      replace hp1 : (m_i σ 0 (0) 1).toInt ≤ (u6).toInt := ic_ge.mp hp1
      refine Or.inl ⟨hp1, ?_⟩
      replace hf := Nat.lt_trans g hf
      clear g
      replace h : EV F f 8 z8 79 [some (rf 0 (0)), some (.inl (c1)), some (.inl (c2)), some (.inl (c3)), some (.inl (c4)), some (.inl (u5)), some (.inl (u6)), y7] [] σ (.inl (some (.inl w)), σ') := h
      exact j8_79 hs h
    · skip
      replace hp1 : ¬ ((m_i σ 0 (0) 1).toInt ≤ (u6).toInt) := (not_congr ic_ge).mp hp1
      refine Or.inr ⟨hp1, ?_⟩
      replace hf := Nat.lt_trans g hf
      clear g
      replace h : EV F f 8 z8 15 [some (rf 0 (0)), some (.inl (c1)), some (.inl (c2)), some (.inl (c3)), some (.inl (c4)), some (.inl (u5)), some (.inl (u6)), y7] [] σ (.inl (some (.inl w)), σ') := h
      replace h := ei_p h rfl rfl rfl rfl
      obtain ⟨f, g, h⟩ := h
      replace hf := Nat.lt_trans g hf
      clear g
      replace h : EV F f 8 z8 17 [some (rf 0 (0)), some (.inl (c1)), some (.inl (c2)), some (.inl (c3)), some (.inl (c4)), some (.inl (u5)), some (.inl (u6)), y7] [.inl (u6)] σ (.inl (some (.inl w)), σ') := h
      replace h := ei_p h rfl rfl rfl rfl
      obtain ⟨f, g, h⟩ := h
      replace hf := Nat.lt_trans g hf
      clear g
      replace h : EV F f 8 z8 18 [some (rf 0 (0)), some (.inl (c1)), some (.inl (c2)), some (.inl (c3)), some (.inl (c4)), some (.inl (u5)), some (.inl (u6)), y7] [rf 0 (0), .inl (u6)] σ (.inl (some (.inl w)), σ') := h
      replace h := ei_get h rfl (HS_g0_0 hs)
      obtain ⟨f, g, h⟩ := h
      replace hf := Nat.lt_trans g hf
      clear g
      replace h : EV F f 8 z8 21 [some (rf 0 (0)), some (.inl (c1)), some (.inl (c2)), some (.inl (c3)), some (.inl (c4)), some (.inl (u5)), some (.inl (u6)), y7] [rf 17 (0), .inl (u6)] σ (.inl (some (.inl w)), σ') := h
      replace h := ei_len h rfl (HS_l17_0 hs) ⟨Nat.le_of_ble_eq_true rfl, Nat.le_of_ble_eq_true rfl⟩
      obtain ⟨f, g, h⟩ := h
      replace hf := Nat.lt_trans g hf
      clear g
      replace h : EV F f 8 z8 22 [some (rf 0 (0)), some (.inl (c1)), some (.inl (c2)), some (.inl (c3)), some (.inl (c4)), some (.inl (u5)), some (.inl (u6)), y7] [.inl (Int32.ofInt 120), .inl (u6)] σ (.inl (some (.inl w)), σ') := h
      replace h := ei_c h rfl rfl rfl
      rcases h with ⟨hp2, f, g, h⟩ | ⟨hp2, f, g, h⟩
      · skip
        replace hp2 : (120 : Int) ≤ (u6).toInt := ic_ge.mp hp2
        refine Or.inl ⟨hp2, ?_⟩
        replace hf := Nat.lt_trans g hf
        clear g
        replace h : EV F f 8 z8 79 [some (rf 0 (0)), some (.inl (c1)), some (.inl (c2)), some (.inl (c3)), some (.inl (c4)), some (.inl (u5)), some (.inl (u6)), y7] [] σ (.inl (some (.inl w)), σ') := h
        exact j8_79 hs h
      · skip
        replace hp2 : ¬ ((120 : Int) ≤ (u6).toInt) := (not_congr ic_ge).mp hp2
        refine Or.inr ⟨hp2, ?_⟩
        replace hf := Nat.lt_trans g hf
        clear g
        replace h : EV F f 8 z8 25 [some (rf 0 (0)), some (.inl (c1)), some (.inl (c2)), some (.inl (c3)), some (.inl (c4)), some (.inl (u5)), some (.inl (u6)), y7] [] σ (.inl (some (.inl w)), σ') := h
        replace h := ei_p h rfl rfl rfl rfl
        obtain ⟨f, g, h⟩ := h
        replace hf := Nat.lt_trans g hf
        clear g
        replace h : EV F f 8 z8 26 [some (rf 0 (0)), some (.inl (c1)), some (.inl (c2)), some (.inl (c3)), some (.inl (c4)), some (.inl (u5)), some (.inl (u6)), y7] [rf 0 (0)] σ (.inl (some (.inl w)), σ') := h
        replace h := ei_get h rfl (HS_g0_0 hs)
        obtain ⟨f, g, h⟩ := h
        replace hf := Nat.lt_trans g hf
        clear g
        replace h : EV F f 8 z8 29 [some (rf 0 (0)), some (.inl (c1)), some (.inl (c2)), some (.inl (c3)), some (.inl (c4)), some (.inl (u5)), some (.inl (u6)), y7] [rf 17 (0)] σ (.inl (some (.inl w)), σ') := h
        replace h := ei_p h rfl rfl rfl rfl
        obtain ⟨f, g, h⟩ := h
        replace hf := Nat.lt_trans g hf
        clear g
        replace h : EV F f 8 z8 31 [some (rf 0 (0)), some (.inl (c1)), some (.inl (c2)), some (.inl (c3)), some (.inl (c4)), some (.inl (u5)), some (.inl (u6)), y7] [.inl (u6), rf 17 (0)] σ (.inl (some (.inl w)), σ') := h
        replace h := ei_ald h rfl (HS_a17 hs)
        obtain ⟨vp3, f, g, h⟩ := h
        replace hf := Nat.lt_trans g hf
        clear g
        replace h : EV F f 8 z8 32 [some (rf 0 (0)), some (.inl (c1)), some (.inl (c2)), some (.inl (c3)), some (.inl (c4)), some (.inl (u5)), some (.inl (u6)), y7] [rf 7 ((u6).toNatClampNeg)] σ (.inl (some (.inl w)), σ') := h
        refine ⟨HS_v17 hs vp3, ?_⟩
        replace h := ei_p h rfl rfl rfl rfl
        obtain ⟨f, g, h⟩ := h
        replace hf := Nat.lt_trans g hf
        clear g
        replace h : EV F f 8 z8 34 [some (rf 0 (0)), some (.inl (c1)), some (.inl (c2)), some (.inl (c3)), some (.inl (c4)), some (.inl (u5)), some (.inl (u6)), some (rf 7 ((u6).toNatClampNeg))] [] σ (.inl (some (.inl w)), σ') := h
        replace h := ei_p h rfl rfl rfl rfl
        obtain ⟨f, g, h⟩ := h
        replace hf := Nat.lt_trans g hf
        clear g
        replace h : EV F f 8 z8 36 [some (rf 0 (0)), some (.inl (c1)), some (.inl (c2)), some (.inl (c3)), some (.inl (c4)), some (.inl (u5)), some (.inl (u6)), some (rf 7 ((u6).toNatClampNeg))] [rf 7 ((u6).toNatClampNeg)] σ (.inl (some (.inl w)), σ') := h
        replace h := ei_p h rfl rfl rfl rfl
        obtain ⟨f, g, h⟩ := h
        replace hf := Nat.lt_trans g hf
        clear g
        replace h : EV F f 8 z8 37 [some (rf 0 (0)), some (.inl (c1)), some (.inl (c2)), some (.inl (c3)), some (.inl (c4)), some (.inl (u5)), some (.inl (u6)), some (rf 7 ((u6).toNatClampNeg))] [.inl (c1), rf 7 ((u6).toNatClampNeg)] σ (.inl (some (.inl w)), σ') := h
        replace h := ei_p h rfl rfl rfl rfl
        obtain ⟨f, g, h⟩ := h
        replace hf := Nat.lt_trans g hf
        clear g
        replace h : EV F f 8 z8 38 [some (rf 0 (0)), some (.inl (c1)), some (.inl (c2)), some (.inl (c3)), some (.inl (c4)), some (.inl (u5)), some (.inl (u6)), some (rf 7 ((u6).toNatClampNeg))] [.inl (c2), .inl (c1), rf 7 ((u6).toNatClampNeg)] σ (.inl (some (.inl w)), σ') := h
        replace h := bk_I (ei_v (as := [.inl (c2), .inl (c1)]) h rfl rfl rfl) rfl z100_at (Or.inr rfl)
        obtain ⟨v4, σ5, r6, f, g, h⟩ := h
        replace hf := Nat.lt_trans g hf
        clear g
        have er6 := ro_run rfl r6
        rw [er6] at h r6
        have p7 := x100 hs r6
        refine ⟨v4, p7, ?_⟩
        replace h : EV F f 8 z8 41 [some (rf 0 (0)), some (.inl (c1)), some (.inl (c2)), some (.inl (c3)), some (.inl (c4)), some (.inl (u5)), some (.inl (u6)), some (rf 7 ((u6).toNatClampNeg))] [.inl (v4)] σ (.inl (some (.inl w)), σ') := h
        replace h := ei_c h rfl rfl rfl
        rcases h with ⟨hp8, f, g, h⟩ | ⟨hp8, f, g, h⟩
        · skip
          replace hp8 : (v4).toInt = (0 : Int) := ic_eq.mp hp8
          refine Or.inl ⟨hp8, ?_⟩
          replace hf := Nat.lt_trans g hf
          clear g
          replace h : EV F f 8 z8 73 [some (rf 0 (0)), some (.inl (c1)), some (.inl (c2)), some (.inl (c3)), some (.inl (c4)), some (.inl (u5)), some (.inl (u6)), some (rf 7 ((u6).toNatClampNeg))] [] σ (.inl (some (.inl w)), σ') := h
          replace h := ei_p h rfl rfl rfl rfl
          obtain ⟨f, g, h⟩ := h
          replace hf := Nat.lt_trans g hf
          clear g
          replace h : EV F f 8 z8 76 [some (rf 0 (0)), some (.inl (c1)), some (.inl (c2)), some (.inl (c3)), some (.inl (c4)), some (.inl (u5)), some (.inl ((u6) + Int32.ofInt 1)), some (rf 7 ((u6).toNatClampNeg))] [] σ (.inl (some (.inl w)), σ') := h
          replace h := ei_p h rfl rfl rfl rfl
          obtain ⟨f, g, h⟩ := h
          replace hf := Nat.lt_trans g hf
          clear g
          replace h : EV F f 8 z8 6 [some (rf 0 (0)), some (.inl (c1)), some (.inl (c2)), some (.inl (c3)), some (.inl (c4)), some (.inl (u5)), some (.inl ((u6) + Int32.ofInt 1)), some (rf 7 ((u6).toNatClampNeg))] [] σ (.inl (some (.inl w)), σ') := h
          exact IH f hf (u5) ((u6) + Int32.ofInt 1) (some (rf 7 ((u6).toNatClampNeg))) h
        · skip
          replace hp8 : ¬ ((v4).toInt = (0 : Int)) := (not_congr ic_eq).mp hp8
          refine Or.inr ⟨hp8, ?_⟩
          replace hf := Nat.lt_trans g hf
          clear g
          replace h : EV F f 8 z8 44 [some (rf 0 (0)), some (.inl (c1)), some (.inl (c2)), some (.inl (c3)), some (.inl (c4)), some (.inl (u5)), some (.inl (u6)), some (rf 7 ((u6).toNatClampNeg))] [] σ (.inl (some (.inl w)), σ') := h
          replace h := ei_p h rfl rfl rfl rfl
          obtain ⟨f, g, h⟩ := h
          replace hf := Nat.lt_trans g hf
          clear g
          replace h : EV F f 8 z8 46 [some (rf 0 (0)), some (.inl (c1)), some (.inl (c2)), some (.inl (c3)), some (.inl (c4)), some (.inl (u5)), some (.inl (u6)), some (rf 7 ((u6).toNatClampNeg))] [rf 7 ((u6).toNatClampNeg)] σ (.inl (some (.inl w)), σ') := h
          replace h := ei_p h rfl rfl rfl rfl
          obtain ⟨f, g, h⟩ := h
          replace hf := Nat.lt_trans g hf
          clear g
          replace h : EV F f 8 z8 47 [some (rf 0 (0)), some (.inl (c1)), some (.inl (c2)), some (.inl (c3)), some (.inl (c4)), some (.inl (u5)), some (.inl (u6)), some (rf 7 ((u6).toNatClampNeg))] [.inl (c3), rf 7 ((u6).toNatClampNeg)] σ (.inl (some (.inl w)), σ') := h
          replace h := bk_I (ei_v (as := [.inl (c3)]) h rfl rfl rfl) rfl z103_at (Or.inr rfl)
          obtain ⟨v9, σ10, r11, f, g, h⟩ := h
          replace hf := Nat.lt_trans g hf
          clear g
          have er11 := ro_run rfl r11
          rw [er11] at h r11
          have p12 := x103 hs r11
          refine ⟨v9, p12, ?_⟩
          replace h : EV F f 8 z8 50 [some (rf 0 (0)), some (.inl (c1)), some (.inl (c2)), some (.inl (c3)), some (.inl (c4)), some (.inl (u5)), some (.inl (u6)), some (rf 7 ((u6).toNatClampNeg))] [.inl (v9)] σ (.inl (some (.inl w)), σ') := h
          replace h := ei_c h rfl rfl rfl
          rcases h with ⟨hp13, f, g, h⟩ | ⟨hp13, f, g, h⟩
          · skip
            replace hp13 : (v9).toInt = (0 : Int) := ic_eq.mp hp13
            refine Or.inl ⟨hp13, ?_⟩
            replace hf := Nat.lt_trans g hf
            clear g
            replace h : EV F f 8 z8 73 [some (rf 0 (0)), some (.inl (c1)), some (.inl (c2)), some (.inl (c3)), some (.inl (c4)), some (.inl (u5)), some (.inl (u6)), some (rf 7 ((u6).toNatClampNeg))] [] σ (.inl (some (.inl w)), σ') := h
            replace h := ei_p h rfl rfl rfl rfl
            obtain ⟨f, g, h⟩ := h
            replace hf := Nat.lt_trans g hf
            clear g
            replace h : EV F f 8 z8 76 [some (rf 0 (0)), some (.inl (c1)), some (.inl (c2)), some (.inl (c3)), some (.inl (c4)), some (.inl (u5)), some (.inl ((u6) + Int32.ofInt 1)), some (rf 7 ((u6).toNatClampNeg))] [] σ (.inl (some (.inl w)), σ') := h
            replace h := ei_p h rfl rfl rfl rfl
            obtain ⟨f, g, h⟩ := h
            replace hf := Nat.lt_trans g hf
            clear g
            replace h : EV F f 8 z8 6 [some (rf 0 (0)), some (.inl (c1)), some (.inl (c2)), some (.inl (c3)), some (.inl (c4)), some (.inl (u5)), some (.inl ((u6) + Int32.ofInt 1)), some (rf 7 ((u6).toNatClampNeg))] [] σ (.inl (some (.inl w)), σ') := h
            exact IH f hf (u5) ((u6) + Int32.ofInt 1) (some (rf 7 ((u6).toNatClampNeg))) h
          · skip
            replace hp13 : ¬ ((v9).toInt = (0 : Int)) := (not_congr ic_eq).mp hp13
            refine Or.inr ⟨hp13, ?_⟩
            replace hf := Nat.lt_trans g hf
            clear g
            replace h : EV F f 8 z8 53 [some (rf 0 (0)), some (.inl (c1)), some (.inl (c2)), some (.inl (c3)), some (.inl (c4)), some (.inl (u5)), some (.inl (u6)), some (rf 7 ((u6).toNatClampNeg))] [] σ (.inl (some (.inl w)), σ') := h
            replace h := ei_p h rfl rfl rfl rfl
            obtain ⟨f, g, h⟩ := h
            replace hf := Nat.lt_trans g hf
            clear g
            replace h : EV F f 8 z8 55 [some (rf 0 (0)), some (.inl (c1)), some (.inl (c2)), some (.inl (c3)), some (.inl (c4)), some (.inl (u5)), some (.inl (u6)), some (rf 7 ((u6).toNatClampNeg))] [rf 7 ((u6).toNatClampNeg)] σ (.inl (some (.inl w)), σ') := h
            replace h := ei_get h rfl rfl
            obtain ⟨f, g, h⟩ := h
            replace hf := Nat.lt_trans g hf
            clear g
            replace h : EV F f 8 z8 58 [some (rf 0 (0)), some (.inl (c1)), some (.inl (c2)), some (.inl (c3)), some (.inl (c4)), some (.inl (u5)), some (.inl (u6)), some (rf 7 ((u6).toNatClampNeg))] [.inl (m_i σ 7 ((u6).toNatClampNeg) 1)] σ (.inl (some (.inl w)), σ') := h
            replace h := ei_p h rfl rfl rfl rfl
            obtain ⟨f, g, h⟩ := h
            replace hf := Nat.lt_trans g hf
            clear g
            replace h : EV F f 8 z8 60 [some (rf 0 (0)), some (.inl (c1)), some (.inl (c2)), some (.inl (c3)), some (.inl (c4)), some (.inl (u5)), some (.inl (u6)), some (rf 7 ((u6).toNatClampNeg))] [.inl (c4), .inl (m_i σ 7 ((u6).toNatClampNeg) 1)] σ (.inl (some (.inl w)), σ') := h
            replace h := ei_c h rfl rfl rfl
            rcases h with ⟨hp14, f, g, h⟩ | ⟨hp14, f, g, h⟩
            · skip
              replace hp14 : (m_i σ 7 ((u6).toNatClampNeg) 1).toInt = (c4).toInt := ic_eq.mp hp14
              refine Or.inl ⟨hp14, ?_⟩
              replace hf := Nat.lt_trans g hf
              clear g
              replace h : EV F f 8 z8 73 [some (rf 0 (0)), some (.inl (c1)), some (.inl (c2)), some (.inl (c3)), some (.inl (c4)), some (.inl (u5)), some (.inl (u6)), some (rf 7 ((u6).toNatClampNeg))] [] σ (.inl (some (.inl w)), σ') := h
              replace h := ei_p h rfl rfl rfl rfl
              obtain ⟨f, g, h⟩ := h
              replace hf := Nat.lt_trans g hf
              clear g
              replace h : EV F f 8 z8 76 [some (rf 0 (0)), some (.inl (c1)), some (.inl (c2)), some (.inl (c3)), some (.inl (c4)), some (.inl (u5)), some (.inl ((u6) + Int32.ofInt 1)), some (rf 7 ((u6).toNatClampNeg))] [] σ (.inl (some (.inl w)), σ') := h
              replace h := ei_p h rfl rfl rfl rfl
              obtain ⟨f, g, h⟩ := h
              replace hf := Nat.lt_trans g hf
              clear g
              replace h : EV F f 8 z8 6 [some (rf 0 (0)), some (.inl (c1)), some (.inl (c2)), some (.inl (c3)), some (.inl (c4)), some (.inl (u5)), some (.inl ((u6) + Int32.ofInt 1)), some (rf 7 ((u6).toNatClampNeg))] [] σ (.inl (some (.inl w)), σ') := h
              exact IH f hf (u5) ((u6) + Int32.ofInt 1) (some (rf 7 ((u6).toNatClampNeg))) h
            · skip
              replace hp14 : ¬ ((m_i σ 7 ((u6).toNatClampNeg) 1).toInt = (c4).toInt) := (not_congr ic_eq).mp hp14
              refine Or.inr ⟨hp14, ?_⟩
              replace hf := Nat.lt_trans g hf
              clear g
              replace h : EV F f 8 z8 63 [some (rf 0 (0)), some (.inl (c1)), some (.inl (c2)), some (.inl (c3)), some (.inl (c4)), some (.inl (u5)), some (.inl (u6)), some (rf 7 ((u6).toNatClampNeg))] [] σ (.inl (some (.inl w)), σ') := h
              replace h := ei_p h rfl rfl rfl rfl
              obtain ⟨f, g, h⟩ := h
              replace hf := Nat.lt_trans g hf
              clear g
              replace h : EV F f 8 z8 65 [some (rf 0 (0)), some (.inl (c1)), some (.inl (c2)), some (.inl (c3)), some (.inl (c4)), some (.inl (u5)), some (.inl (u6)), some (rf 7 ((u6).toNatClampNeg))] [.inl (u5)] σ (.inl (some (.inl w)), σ') := h
              replace h := ei_p h rfl rfl rfl rfl
              obtain ⟨f, g, h⟩ := h
              replace hf := Nat.lt_trans g hf
              clear g
              replace h : EV F f 8 z8 67 [some (rf 0 (0)), some (.inl (c1)), some (.inl (c2)), some (.inl (c3)), some (.inl (c4)), some (.inl (u5)), some (.inl (u6)), some (rf 7 ((u6).toNatClampNeg))] [rf 7 ((u6).toNatClampNeg), .inl (u5)] σ (.inl (some (.inl w)), σ') := h
              replace h := ei_get h rfl rfl
              obtain ⟨f, g, h⟩ := h
              replace hf := Nat.lt_trans g hf
              clear g
              replace h : EV F f 8 z8 70 [some (rf 0 (0)), some (.inl (c1)), some (.inl (c2)), some (.inl (c3)), some (.inl (c4)), some (.inl (u5)), some (.inl (u6)), some (rf 7 ((u6).toNatClampNeg))] [.inl (m_i σ 7 ((u6).toNatClampNeg) 6), .inl (u5)] σ (.inl (some (.inl w)), σ') := h
              replace h := ei_p h rfl rfl rfl rfl
              obtain ⟨f, g, h⟩ := h
              replace hf := Nat.lt_trans g hf
              clear g
              replace h : EV F f 8 z8 71 [some (rf 0 (0)), some (.inl (c1)), some (.inl (c2)), some (.inl (c3)), some (.inl (c4)), some (.inl (u5)), some (.inl (u6)), some (rf 7 ((u6).toNatClampNeg))] [.inl ((u5) + (m_i σ 7 ((u6).toNatClampNeg) 6))] σ (.inl (some (.inl w)), σ') := h
              replace h := ei_p h rfl rfl rfl rfl
              obtain ⟨f, g, h⟩ := h
              replace hf := Nat.lt_trans g hf
              clear g
              replace h : EV F f 8 z8 73 [some (rf 0 (0)), some (.inl (c1)), some (.inl (c2)), some (.inl (c3)), some (.inl (c4)), some (.inl ((u5) + (m_i σ 7 ((u6).toNatClampNeg) 6))), some (.inl (u6)), some (rf 7 ((u6).toNatClampNeg))] [] σ (.inl (some (.inl w)), σ') := h
              obtain ⟨n15, e16⟩ : ∃ s, s = (u5) + (m_i σ 7 ((u6).toNatClampNeg) 6) := ⟨_, rfl⟩
              rw [← e16] at h
              refine ⟨n15, e16, ?_⟩
              replace h : EV F f 8 z8 73 [some (rf 0 (0)), some (.inl (c1)), some (.inl (c2)), some (.inl (c3)), some (.inl (c4)), some (.inl (n15)), some (.inl (u6)), some (rf 7 ((u6).toNatClampNeg))] [] σ (.inl (some (.inl w)), σ') := h
              replace h := ei_p h rfl rfl rfl rfl
              obtain ⟨f, g, h⟩ := h
              replace hf := Nat.lt_trans g hf
              clear g
              replace h : EV F f 8 z8 76 [some (rf 0 (0)), some (.inl (c1)), some (.inl (c2)), some (.inl (c3)), some (.inl (c4)), some (.inl (n15)), some (.inl ((u6) + Int32.ofInt 1)), some (rf 7 ((u6).toNatClampNeg))] [] σ (.inl (some (.inl w)), σ') := h
              replace h := ei_p h rfl rfl rfl rfl
              obtain ⟨f, g, h⟩ := h
              replace hf := Nat.lt_trans g hf
              clear g
              replace h : EV F f 8 z8 6 [some (rf 0 (0)), some (.inl (c1)), some (.inl (c2)), some (.inl (c3)), some (.inl (c4)), some (.inl (n15)), some (.inl ((u6) + Int32.ofInt 1)), some (rf 7 ((u6).toNatClampNeg))] [] σ (.inl (some (.inl w)), σ') := h
              exact IH f hf (n15) ((u6) + Int32.ofInt 1) (some (rf 7 ((u6).toNatClampNeg))) h
def P8 (σ : mS) (x1 : Int32) (x2 : Int32) (x3 : Int32) (x4 : Int32) (w : Int32) : Prop := ∃ n, Q8_6 σ (x1) (x2) (x3) (x4) n (Int32.ofInt 0) (Int32.ofInt 0) w
theorem x8 {σ σ' : mS} {x1 : Int32} {x2 : Int32} {x3 : Int32} {x4 : Int32} {w : Int32} (hs : HS σ) (h : ev_run sm_all 8 [rf 0 (0), .inl (x1), .inl (x2), .inl (x3), .inl (x4)] σ (.inl (some (.inl w))) σ') : P8 σ x1 x2 x3 x4 w := by
  unfold P8
  obtain ⟨F, f, h⟩ := ei_go h z8_at
  replace h : EV F f 8 z8 0 [some (rf 0 (0)), some (.inl (x1)), some (.inl (x2)), some (.inl (x3)), some (.inl (x4)), none, none, none] [] σ (.inl (some (.inl w)), σ') := h
  replace h := ei_p h rfl rfl rfl rfl
  obtain ⟨f, g, h⟩ := h
  clear g
  replace h : EV F f 8 z8 1 [some (rf 0 (0)), some (.inl (x1)), some (.inl (x2)), some (.inl (x3)), some (.inl (x4)), none, none, none] [.inl (Int32.ofInt 0)] σ (.inl (some (.inl w)), σ') := h
  replace h := ei_p h rfl rfl rfl rfl
  obtain ⟨f, g, h⟩ := h
  clear g
  replace h : EV F f 8 z8 3 [some (rf 0 (0)), some (.inl (x1)), some (.inl (x2)), some (.inl (x3)), some (.inl (x4)), some (.inl (Int32.ofInt 0)), none, none] [] σ (.inl (some (.inl w)), σ') := h
  replace h := ei_p h rfl rfl rfl rfl
  obtain ⟨f, g, h⟩ := h
  clear g
  replace h : EV F f 8 z8 4 [some (rf 0 (0)), some (.inl (x1)), some (.inl (x2)), some (.inl (x3)), some (.inl (x4)), some (.inl (Int32.ofInt 0)), none, none] [.inl (Int32.ofInt 0)] σ (.inl (some (.inl w)), σ') := h
  replace h := ei_p h rfl rfl rfl rfl
  obtain ⟨f, g, h⟩ := h
  clear g
  replace h : EV F f 8 z8 6 [some (rf 0 (0)), some (.inl (x1)), some (.inl (x2)), some (.inl (x3)), some (.inl (x4)), some (.inl (Int32.ofInt 0)), some (.inl (Int32.ofInt 0)), none] [] σ (.inl (some (.inl w)), σ') := h
  exact ⟨f + 1, q8_6 hs (f + 1) f (Nat.lt_succ_self f) (Int32.ofInt 0) (Int32.ofInt 0) _ h⟩
def z9 : mAl := ((yX0_mostAt, cX0_mostAt, 3, (some .int), { frames := 2, cells := 0, slots := 0, locals := 49 }, []), rw_X0_mostAt, false)
theorem z9_at : m_alF[9]? = some z9 := rfl
def P9 (σ : mS) (x1 : Int32) (x2 : Int32) (w : Int32) : Prop := ∃ v1, P8 σ (x1) (Int32.ofInt 0) (x2) (Int32.ofInt (-1)) v1 ∧ ∃ v5, P8 σ (x1) (Int32.ofInt 1) (x2) (Int32.ofInt (-1)) v5 ∧ w = (jmin (v1) (v5))
theorem x9 {σ σ' : mS} {x1 : Int32} {x2 : Int32} {w : Int32} (hs : HS σ) (h : ev_run sm_all 9 [rf 0 (0), .inl (x1), .inl (x2)] σ (.inl (some (.inl w))) σ') : P9 σ x1 x2 w := by
  unfold P9
  obtain ⟨F, f, h⟩ := ei_go h z9_at
  replace h : EV F f 9 z9 0 [some (rf 0 (0)), some (.inl (x1)), some (.inl (x2))] [] σ (.inl (some (.inl w)), σ') := h
  replace h := ei_p h rfl rfl rfl rfl
  obtain ⟨f, g, h⟩ := h
  clear g
  replace h : EV F f 9 z9 1 [some (rf 0 (0)), some (.inl (x1)), some (.inl (x2))] [rf 0 (0)] σ (.inl (some (.inl w)), σ') := h
  replace h := ei_p h rfl rfl rfl rfl
  obtain ⟨f, g, h⟩ := h
  clear g
  replace h : EV F f 9 z9 2 [some (rf 0 (0)), some (.inl (x1)), some (.inl (x2))] [.inl (x1), rf 0 (0)] σ (.inl (some (.inl w)), σ') := h
  replace h := ei_p h rfl rfl rfl rfl
  obtain ⟨f, g, h⟩ := h
  clear g
  replace h : EV F f 9 z9 3 [some (rf 0 (0)), some (.inl (x1)), some (.inl (x2))] [.inl (Int32.ofInt 0), .inl (x1), rf 0 (0)] σ (.inl (some (.inl w)), σ') := h
  replace h := ei_p h rfl rfl rfl rfl
  obtain ⟨f, g, h⟩ := h
  clear g
  replace h : EV F f 9 z9 4 [some (rf 0 (0)), some (.inl (x1)), some (.inl (x2))] [.inl (x2), .inl (Int32.ofInt 0), .inl (x1), rf 0 (0)] σ (.inl (some (.inl w)), σ') := h
  replace h := ei_p h rfl rfl rfl rfl
  obtain ⟨f, g, h⟩ := h
  clear g
  replace h : EV F f 9 z9 5 [some (rf 0 (0)), some (.inl (x1)), some (.inl (x2))] [.inl (Int32.ofInt (-1)), .inl (x2), .inl (Int32.ofInt 0), .inl (x1), rf 0 (0)] σ (.inl (some (.inl w)), σ') := h
  replace h := bk_I (ei_v (as := [.inl (Int32.ofInt (-1)), .inl (x2), .inl (Int32.ofInt 0), .inl (x1)]) h rfl rfl rfl) rfl z8_at (Or.inl rfl)
  obtain ⟨v1, σ2, r3, f, g, h⟩ := h
  clear g
  have er3 := ro_run rfl r3
  rw [er3] at h r3
  have p4 := x8 hs r3
  refine ⟨v1, p4, ?_⟩
  replace h : EV F f 9 z9 8 [some (rf 0 (0)), some (.inl (x1)), some (.inl (x2))] [.inl (v1)] σ (.inl (some (.inl w)), σ') := h
  replace h := ei_p h rfl rfl rfl rfl
  obtain ⟨f, g, h⟩ := h
  clear g
  replace h : EV F f 9 z9 9 [some (rf 0 (0)), some (.inl (x1)), some (.inl (x2))] [rf 0 (0), .inl (v1)] σ (.inl (some (.inl w)), σ') := h
  replace h := ei_p h rfl rfl rfl rfl
  obtain ⟨f, g, h⟩ := h
  clear g
  replace h : EV F f 9 z9 10 [some (rf 0 (0)), some (.inl (x1)), some (.inl (x2))] [.inl (x1), rf 0 (0), .inl (v1)] σ (.inl (some (.inl w)), σ') := h
  replace h := ei_p h rfl rfl rfl rfl
  obtain ⟨f, g, h⟩ := h
  clear g
  replace h : EV F f 9 z9 11 [some (rf 0 (0)), some (.inl (x1)), some (.inl (x2))] [.inl (Int32.ofInt 1), .inl (x1), rf 0 (0), .inl (v1)] σ (.inl (some (.inl w)), σ') := h
  replace h := ei_p h rfl rfl rfl rfl
  obtain ⟨f, g, h⟩ := h
  clear g
  replace h : EV F f 9 z9 12 [some (rf 0 (0)), some (.inl (x1)), some (.inl (x2))] [.inl (x2), .inl (Int32.ofInt 1), .inl (x1), rf 0 (0), .inl (v1)] σ (.inl (some (.inl w)), σ') := h
  replace h := ei_p h rfl rfl rfl rfl
  obtain ⟨f, g, h⟩ := h
  clear g
  replace h : EV F f 9 z9 13 [some (rf 0 (0)), some (.inl (x1)), some (.inl (x2))] [.inl (Int32.ofInt (-1)), .inl (x2), .inl (Int32.ofInt 1), .inl (x1), rf 0 (0), .inl (v1)] σ (.inl (some (.inl w)), σ') := h
  replace h := bk_I (ei_v (as := [.inl (Int32.ofInt (-1)), .inl (x2), .inl (Int32.ofInt 1), .inl (x1)]) h rfl rfl rfl) rfl z8_at (Or.inl rfl)
  obtain ⟨v5, σ6, r7, f, g, h⟩ := h
  clear g
  have er7 := ro_run rfl r7
  rw [er7] at h r7
  have p8 := x8 hs r7
  refine ⟨v5, p8, ?_⟩
  replace h : EV F f 9 z9 16 [some (rf 0 (0)), some (.inl (x1)), some (.inl (x2))] [.inl (v5), .inl (v1)] σ (.inl (some (.inl w)), σ') := h
  replace h := ei_m (st' := [.inl (jmin (v1) (v5))]) h rfl (Nat.le_of_ble_eq_true rfl) (fun w hw => (Option.some.inj (ev_if_some.mp hw).2).symm)
  obtain ⟨f, g, h⟩ := h
  clear g
  replace h : EV F f 9 z9 19 [some (rf 0 (0)), some (.inl (x1)), some (.inl (x2))] [.inl (jmin (v1) (v5))] σ (.inl (some (.inl w)), σ') := h
  have e := ei_iret h rfl
  cases e
  exact rfl
def P99 (σ : mS) (a : Nat) (w : Int32) : Prop := (((m_i σ 7 (a) 9).toInt ≠ (1 : Int) ∧ w = (Int32.ofInt 0)) ∨ (¬ ((m_i σ 7 (a) 9).toInt ≠ (1 : Int)) ∧ w = (Int32.ofInt 1)))
theorem x99 {σ σ' : mS} {a : Nat} {w : Int32} (hs : HS σ) (h : ev_run sm_all 99 [rf 7 (a)] σ (.inl (some (.inl w))) σ') : P99 σ a w := by
  unfold P99
  obtain ⟨F, f, h⟩ := ei_go h z99_at
  replace h : EV F f 99 z99 0 [some (rf 7 (a))] [] σ (.inl (some (.inl w)), σ') := h
  replace h := ei_p h rfl rfl rfl rfl
  obtain ⟨f, g, h⟩ := h
  clear g
  replace h : EV F f 99 z99 1 [some (rf 7 (a))] [rf 7 (a)] σ (.inl (some (.inl w)), σ') := h
  replace h := ei_get h rfl rfl
  obtain ⟨f, g, h⟩ := h
  clear g
  replace h : EV F f 99 z99 4 [some (rf 7 (a))] [.inl (m_i σ 7 (a) 9)] σ (.inl (some (.inl w)), σ') := h
  replace h := ei_p h rfl rfl rfl rfl
  obtain ⟨f, g, h⟩ := h
  clear g
  replace h : EV F f 99 z99 5 [some (rf 7 (a))] [.inl (Int32.ofInt 1), .inl (m_i σ 7 (a) 9)] σ (.inl (some (.inl w)), σ') := h
  replace h := ei_c h rfl rfl rfl
  rcases h with ⟨hp1, f, g, h⟩ | ⟨hp1, f, g, h⟩
  · skip
    replace hp1 : (m_i σ 7 (a) 9).toInt ≠ (1 : Int) := ic_ne.mp hp1
    refine Or.inl ⟨hp1, ?_⟩
    clear g
    replace h : EV F f 99 z99 12 [some (rf 7 (a))] [] σ (.inl (some (.inl w)), σ') := h
    replace h := ei_p h rfl rfl rfl rfl
    obtain ⟨f, g, h⟩ := h
    clear g
    replace h : EV F f 99 z99 13 [some (rf 7 (a))] [.inl (Int32.ofInt 0)] σ (.inl (some (.inl w)), σ') := h
    have e := ei_iret h rfl
    cases e
    exact rfl
  · skip
    replace hp1 : ¬ ((m_i σ 7 (a) 9).toInt ≠ (1 : Int)) := (not_congr ic_ne).mp hp1
    refine Or.inr ⟨hp1, ?_⟩
    clear g
    replace h : EV F f 99 z99 8 [some (rf 7 (a))] [] σ (.inl (some (.inl w)), σ') := h
    replace h := ei_p h rfl rfl rfl rfl
    obtain ⟨f, g, h⟩ := h
    clear g
    replace h : EV F f 99 z99 9 [some (rf 7 (a))] [.inl (Int32.ofInt 1)] σ (.inl (some (.inl w)), σ') := h
    replace h := ei_p h rfl rfl rfl rfl
    obtain ⟨f, g, h⟩ := h
    clear g
    replace h : EV F f 99 z99 13 [some (rf 7 (a))] [.inl (Int32.ofInt 1)] σ (.inl (some (.inl w)), σ') := h
    have e := ei_iret h rfl
    cases e
    exact rfl
