/-! the class's methods as relations: 22 memberAt, 23 holderAt, 25 tradeAt, 26 hasFailed, 27 isContinuous, 28 hasRoomFor, 29 payDeposit, 30 payShare, 31 addScenario, 95 rate, 91 take, 114 tradedAt, 32 makeTrade, 33 canBeBroken -/
def z22 : mAl := ((yX2_memberAt, cX2_memberAt, 2, (some (.object "NettingHall$Member")), { frames := 0, cells := 0, slots := 0, locals := 0 }, []), rw_X2_memberAt, false)
theorem z22_at : m_alF[22]? = some z22 := rfl
def P22 (σ : mS) (x1 : Int32) (w : mR) : Prop := (((x1).toInt < (0 : Int) ∧ w = none) ∨ (¬ ((x1).toInt < (0 : Int)) ∧ (((x1).toInt < (5 : Int) ∧ (0 ≤ (x1).toInt ∧ (x1).toInt < 5) ∧ w = (some (6, (x1).toNatClampNeg + 1))) ∨ (¬ ((x1).toInt < (5 : Int)) ∧ w = none))))
theorem x22 {σ σ' : mS} {x1 : Int32} {w : mR} (hs : HS σ) (h : ev_run sm_all 22 [rf 2 (0), .inl (x1)] σ (.inl (some (.inr (.inr w)))) σ') : P22 σ x1 w := by
  unfold P22
  obtain ⟨F, f, h⟩ := ei_go h z22_at
  replace h : EV F f 22 z22 0 [some (rf 2 (0)), some (.inl (x1))] [] σ (.inl (some (.inr (.inr w))), σ') := h
  replace h := ei_p h rfl rfl rfl rfl
  obtain ⟨f, g, h⟩ := h
  clear g
  replace h : EV F f 22 z22 1 [some (rf 2 (0)), some (.inl (x1))] [.inl (x1)] σ (.inl (some (.inr (.inr w))), σ') := h
  replace h := ei_c h rfl rfl rfl
  rcases h with ⟨hp1, f, g, h⟩ | ⟨hp1, f, g, h⟩
  · skip
    replace hp1 : (x1).toInt < (0 : Int) := ic_lt.mp hp1
    refine Or.inl ⟨hp1, ?_⟩
    clear g
    replace h : EV F f 22 z22 13 [some (rf 2 (0)), some (.inl (x1))] [] σ (.inl (some (.inr (.inr w))), σ') := h
    replace h := ei_p h rfl rfl rfl rfl
    obtain ⟨f, g, h⟩ := h
    clear g
    replace h : EV F f 22 z22 14 [some (rf 2 (0)), some (.inl (x1))] [.inr (.inr none)] σ (.inl (some (.inr (.inr w))), σ') := h
    replace h := ei_p h rfl rfl rfl rfl
    obtain ⟨f, g, h⟩ := h
    clear g
    replace h : EV F f 22 z22 23 [some (rf 2 (0)), some (.inl (x1))] [.inr (.inr none)] σ (.inl (some (.inr (.inr w))), σ') := h
    have e := ei_aret h rfl
    cases e
    exact rfl
  · skip
    replace hp1 : ¬ ((x1).toInt < (0 : Int)) := (not_congr ic_lt).mp hp1
    refine Or.inr ⟨hp1, ?_⟩
    clear g
    replace h : EV F f 22 z22 4 [some (rf 2 (0)), some (.inl (x1))] [] σ (.inl (some (.inr (.inr w))), σ') := h
    replace h := ei_p h rfl rfl rfl rfl
    obtain ⟨f, g, h⟩ := h
    clear g
    replace h : EV F f 22 z22 5 [some (rf 2 (0)), some (.inl (x1))] [.inl (x1)] σ (.inl (some (.inr (.inr w))), σ') := h
    replace h := ei_p h rfl rfl rfl rfl
    obtain ⟨f, g, h⟩ := h
    clear g
    replace h : EV F f 22 z22 6 [some (rf 2 (0)), some (.inl (x1))] [rf 2 (0), .inl (x1)] σ (.inl (some (.inr (.inr w))), σ') := h
    replace h := ei_get h rfl (HS_g2_0 hs)
    obtain ⟨f, g, h⟩ := h
    clear g
    replace h : EV F f 22 z22 9 [some (rf 2 (0)), some (.inl (x1))] [rf 16 (0), .inl (x1)] σ (.inl (some (.inr (.inr w))), σ') := h
    replace h := ei_len h rfl (HS_l16_0 hs) ⟨Nat.le_of_ble_eq_true rfl, Nat.le_of_ble_eq_true rfl⟩
    obtain ⟨f, g, h⟩ := h
    clear g
    replace h : EV F f 22 z22 10 [some (rf 2 (0)), some (.inl (x1))] [.inl (Int32.ofInt 5), .inl (x1)] σ (.inl (some (.inr (.inr w))), σ') := h
    replace h := ei_c h rfl rfl rfl
    rcases h with ⟨hp2, f, g, h⟩ | ⟨hp2, f, g, h⟩
    · skip
      replace hp2 : (x1).toInt < (5 : Int) := ic_lt.mp hp2
      refine Or.inl ⟨hp2, ?_⟩
      clear g
      replace h : EV F f 22 z22 17 [some (rf 2 (0)), some (.inl (x1))] [] σ (.inl (some (.inr (.inr w))), σ') := h
      replace h := ei_p h rfl rfl rfl rfl
      obtain ⟨f, g, h⟩ := h
      clear g
      replace h : EV F f 22 z22 18 [some (rf 2 (0)), some (.inl (x1))] [rf 2 (0)] σ (.inl (some (.inr (.inr w))), σ') := h
      replace h := ei_get h rfl (HS_g2_0 hs)
      obtain ⟨f, g, h⟩ := h
      clear g
      replace h : EV F f 22 z22 21 [some (rf 2 (0)), some (.inl (x1))] [rf 16 (0)] σ (.inl (some (.inr (.inr w))), σ') := h
      replace h := ei_p h rfl rfl rfl rfl
      obtain ⟨f, g, h⟩ := h
      clear g
      replace h : EV F f 22 z22 22 [some (rf 2 (0)), some (.inl (x1))] [.inl (x1), rf 16 (0)] σ (.inl (some (.inr (.inr w))), σ') := h
      replace h := ei_ald h rfl (HS_a16 hs)
      obtain ⟨vp3, f, g, h⟩ := h
      clear g
      replace h : EV F f 22 z22 23 [some (rf 2 (0)), some (.inl (x1))] [rf 6 ((x1).toNatClampNeg + 1)] σ (.inl (some (.inr (.inr w))), σ') := h
      refine ⟨HS_v16 hs vp3, ?_⟩
      have e := ei_aret h rfl
      cases e
      exact rfl
    · skip
      replace hp2 : ¬ ((x1).toInt < (5 : Int)) := (not_congr ic_lt).mp hp2
      refine Or.inr ⟨hp2, ?_⟩
      clear g
      replace h : EV F f 22 z22 13 [some (rf 2 (0)), some (.inl (x1))] [] σ (.inl (some (.inr (.inr w))), σ') := h
      replace h := ei_p h rfl rfl rfl rfl
      obtain ⟨f, g, h⟩ := h
      clear g
      replace h : EV F f 22 z22 14 [some (rf 2 (0)), some (.inl (x1))] [.inr (.inr none)] σ (.inl (some (.inr (.inr w))), σ') := h
      replace h := ei_p h rfl rfl rfl rfl
      obtain ⟨f, g, h⟩ := h
      clear g
      replace h : EV F f 22 z22 23 [some (rf 2 (0)), some (.inl (x1))] [.inr (.inr none)] σ (.inl (some (.inr (.inr w))), σ') := h
      have e := ei_aret h rfl
      cases e
      exact rfl
def z23 : mAl := ((yX2_holderAt, cX2_holderAt, 2, (some (.object "NettingHall$Member")), { frames := 1, cells := 0, slots := 0, locals := 21 }, []), rw_X2_holderAt, false)
theorem z23_at : m_alF[23]? = some z23 := rfl
def P23 (σ : mS) (x1 : Int32) (w : mR) : Prop := (((x1).toInt ≠ (-1 : Int) ∧ ∃ v2, P22 σ (x1) v2 ∧ w = (v2)) ∨ (¬ ((x1).toInt ≠ (-1 : Int)) ∧ w = (some (6, 0))))
theorem x23 {σ σ' : mS} {x1 : Int32} {w : mR} (hs : HS σ) (h : ev_run sm_all 23 [rf 2 (0), .inl (x1)] σ (.inl (some (.inr (.inr w)))) σ') : P23 σ x1 w := by
  unfold P23
  obtain ⟨F, f, h⟩ := ei_go h z23_at
  replace h : EV F f 23 z23 0 [some (rf 2 (0)), some (.inl (x1))] [] σ (.inl (some (.inr (.inr w))), σ') := h
  replace h := ei_p h rfl rfl rfl rfl
  obtain ⟨f, g, h⟩ := h
  clear g
  replace h : EV F f 23 z23 1 [some (rf 2 (0)), some (.inl (x1))] [.inl (x1)] σ (.inl (some (.inr (.inr w))), σ') := h
  replace h := ei_p h rfl rfl rfl rfl
  obtain ⟨f, g, h⟩ := h
  clear g
  replace h : EV F f 23 z23 2 [some (rf 2 (0)), some (.inl (x1))] [.inl (Int32.ofInt (-1)), .inl (x1)] σ (.inl (some (.inr (.inr w))), σ') := h
  replace h := ei_c h rfl rfl rfl
  rcases h with ⟨hp1, f, g, h⟩ | ⟨hp1, f, g, h⟩
  · skip
    replace hp1 : (x1).toInt ≠ (-1 : Int) := ic_ne.mp hp1
    refine Or.inl ⟨hp1, ?_⟩
    clear g
    replace h : EV F f 23 z23 12 [some (rf 2 (0)), some (.inl (x1))] [] σ (.inl (some (.inr (.inr w))), σ') := h
    replace h := ei_p h rfl rfl rfl rfl
    obtain ⟨f, g, h⟩ := h
    clear g
    replace h : EV F f 23 z23 13 [some (rf 2 (0)), some (.inl (x1))] [rf 2 (0)] σ (.inl (some (.inr (.inr w))), σ') := h
    replace h := ei_p h rfl rfl rfl rfl
    obtain ⟨f, g, h⟩ := h
    clear g
    replace h : EV F f 23 z23 14 [some (rf 2 (0)), some (.inl (x1))] [.inl (x1), rf 2 (0)] σ (.inl (some (.inr (.inr w))), σ') := h
    replace h := bk_R (ei_v (as := [.inl (x1)]) h rfl rfl rfl) rfl z22_at rfl
    obtain ⟨v2, σ3, r4, f, g, h⟩ := h
    clear g
    have er4 := ro_run rfl r4
    rw [er4] at h r4
    have p5 := x22 hs r4
    refine ⟨v2, p5, ?_⟩
    replace h : EV F f 23 z23 17 [some (rf 2 (0)), some (.inl (x1))] [.inr (.inr (v2))] σ (.inl (some (.inr (.inr w))), σ') := h
    have e := ei_aret h rfl
    cases e
    exact rfl
  · skip
    replace hp1 : ¬ ((x1).toInt ≠ (-1 : Int)) := (not_congr ic_ne).mp hp1
    refine Or.inr ⟨hp1, ?_⟩
    clear g
    replace h : EV F f 23 z23 5 [some (rf 2 (0)), some (.inl (x1))] [] σ (.inl (some (.inr (.inr w))), σ') := h
    replace h := ei_p h rfl rfl rfl rfl
    obtain ⟨f, g, h⟩ := h
    clear g
    replace h : EV F f 23 z23 6 [some (rf 2 (0)), some (.inl (x1))] [rf 2 (0)] σ (.inl (some (.inr (.inr w))), σ') := h
    replace h := ei_get h rfl (HS_g2_1 hs)
    obtain ⟨f, g, h⟩ := h
    clear g
    replace h : EV F f 23 z23 9 [some (rf 2 (0)), some (.inl (x1))] [rf 6 (0)] σ (.inl (some (.inr (.inr w))), σ') := h
    replace h := ei_p h rfl rfl rfl rfl
    obtain ⟨f, g, h⟩ := h
    clear g
    replace h : EV F f 23 z23 17 [some (rf 2 (0)), some (.inl (x1))] [rf 6 (0)] σ (.inl (some (.inr (.inr w))), σ') := h
    have e := ei_aret h rfl
    cases e
    exact rfl
def z25 : mAl := ((yX2_tradeAt, cX2_tradeAt, 2, (some (.object "NettingHall$Trade")), { frames := 0, cells := 0, slots := 0, locals := 0 }, []), rw_X2_tradeAt, false)
theorem z25_at : m_alF[25]? = some z25 := rfl
def P25 (σ : mS) (x1 : Int32) (w : mR) : Prop := (((x1).toInt < (0 : Int) ∧ w = none) ∨ (¬ ((x1).toInt < (0 : Int)) ∧ (((m_i σ 2 (0) 5).toInt ≤ (x1).toInt ∧ w = none) ∨ (¬ ((m_i σ 2 (0) 5).toInt ≤ (x1).toInt) ∧ (((x1).toInt < (200 : Int) ∧ (0 ≤ (x1).toInt ∧ (x1).toInt < 200) ∧ w = (some (10, (x1).toNatClampNeg))) ∨ (¬ ((x1).toInt < (200 : Int)) ∧ w = none))))))
theorem x25 {σ σ' : mS} {x1 : Int32} {w : mR} (hs : HS σ) (h : ev_run sm_all 25 [rf 2 (0), .inl (x1)] σ (.inl (some (.inr (.inr w)))) σ') : P25 σ x1 w := by
  unfold P25
  obtain ⟨F, f, h⟩ := ei_go h z25_at
  replace h : EV F f 25 z25 0 [some (rf 2 (0)), some (.inl (x1))] [] σ (.inl (some (.inr (.inr w))), σ') := h
  replace h := ei_p h rfl rfl rfl rfl
  obtain ⟨f, g, h⟩ := h
  clear g
  replace h : EV F f 25 z25 1 [some (rf 2 (0)), some (.inl (x1))] [.inl (x1)] σ (.inl (some (.inr (.inr w))), σ') := h
  replace h := ei_c h rfl rfl rfl
  rcases h with ⟨hp1, f, g, h⟩ | ⟨hp1, f, g, h⟩
  · skip
    replace hp1 : (x1).toInt < (0 : Int) := ic_lt.mp hp1
    refine Or.inl ⟨hp1, ?_⟩
    clear g
    replace h : EV F f 25 z25 21 [some (rf 2 (0)), some (.inl (x1))] [] σ (.inl (some (.inr (.inr w))), σ') := h
    replace h := ei_p h rfl rfl rfl rfl
    obtain ⟨f, g, h⟩ := h
    clear g
    replace h : EV F f 25 z25 22 [some (rf 2 (0)), some (.inl (x1))] [.inr (.inr none)] σ (.inl (some (.inr (.inr w))), σ') := h
    replace h := ei_p h rfl rfl rfl rfl
    obtain ⟨f, g, h⟩ := h
    clear g
    replace h : EV F f 25 z25 31 [some (rf 2 (0)), some (.inl (x1))] [.inr (.inr none)] σ (.inl (some (.inr (.inr w))), σ') := h
    have e := ei_aret h rfl
    cases e
    exact rfl
  · skip
    replace hp1 : ¬ ((x1).toInt < (0 : Int)) := (not_congr ic_lt).mp hp1
    refine Or.inr ⟨hp1, ?_⟩
    clear g
    replace h : EV F f 25 z25 4 [some (rf 2 (0)), some (.inl (x1))] [] σ (.inl (some (.inr (.inr w))), σ') := h
    replace h := ei_p h rfl rfl rfl rfl
    obtain ⟨f, g, h⟩ := h
    clear g
    replace h : EV F f 25 z25 5 [some (rf 2 (0)), some (.inl (x1))] [.inl (x1)] σ (.inl (some (.inr (.inr w))), σ') := h
    replace h := ei_p h rfl rfl rfl rfl
    obtain ⟨f, g, h⟩ := h
    clear g
    replace h : EV F f 25 z25 6 [some (rf 2 (0)), some (.inl (x1))] [rf 2 (0), .inl (x1)] σ (.inl (some (.inr (.inr w))), σ') := h
    replace h := ei_get h rfl rfl
    obtain ⟨f, g, h⟩ := h
    clear g
    replace h : EV F f 25 z25 9 [some (rf 2 (0)), some (.inl (x1))] [.inl (m_i σ 2 (0) 5), .inl (x1)] σ (.inl (some (.inr (.inr w))), σ') := h
    replace h := ei_c h rfl rfl rfl
    rcases h with ⟨hp2, f, g, h⟩ | ⟨hp2, f, g, h⟩
    · skip
      replace hp2 : (m_i σ 2 (0) 5).toInt ≤ (x1).toInt := ic_ge.mp hp2
      refine Or.inl ⟨hp2, ?_⟩
      clear g
      replace h : EV F f 25 z25 21 [some (rf 2 (0)), some (.inl (x1))] [] σ (.inl (some (.inr (.inr w))), σ') := h
      replace h := ei_p h rfl rfl rfl rfl
      obtain ⟨f, g, h⟩ := h
      clear g
      replace h : EV F f 25 z25 22 [some (rf 2 (0)), some (.inl (x1))] [.inr (.inr none)] σ (.inl (some (.inr (.inr w))), σ') := h
      replace h := ei_p h rfl rfl rfl rfl
      obtain ⟨f, g, h⟩ := h
      clear g
      replace h : EV F f 25 z25 31 [some (rf 2 (0)), some (.inl (x1))] [.inr (.inr none)] σ (.inl (some (.inr (.inr w))), σ') := h
      have e := ei_aret h rfl
      cases e
      exact rfl
    · skip
      replace hp2 : ¬ ((m_i σ 2 (0) 5).toInt ≤ (x1).toInt) := (not_congr ic_ge).mp hp2
      refine Or.inr ⟨hp2, ?_⟩
      clear g
      replace h : EV F f 25 z25 12 [some (rf 2 (0)), some (.inl (x1))] [] σ (.inl (some (.inr (.inr w))), σ') := h
      replace h := ei_p h rfl rfl rfl rfl
      obtain ⟨f, g, h⟩ := h
      clear g
      replace h : EV F f 25 z25 13 [some (rf 2 (0)), some (.inl (x1))] [.inl (x1)] σ (.inl (some (.inr (.inr w))), σ') := h
      replace h := ei_p h rfl rfl rfl rfl
      obtain ⟨f, g, h⟩ := h
      clear g
      replace h : EV F f 25 z25 14 [some (rf 2 (0)), some (.inl (x1))] [rf 2 (0), .inl (x1)] σ (.inl (some (.inr (.inr w))), σ') := h
      replace h := ei_get h rfl (HS_g2_3 hs)
      obtain ⟨f, g, h⟩ := h
      clear g
      replace h : EV F f 25 z25 17 [some (rf 2 (0)), some (.inl (x1))] [rf 20 (0), .inl (x1)] σ (.inl (some (.inr (.inr w))), σ') := h
      replace h := ei_len h rfl (HS_l20_0 hs) ⟨Nat.le_of_ble_eq_true rfl, Nat.le_of_ble_eq_true rfl⟩
      obtain ⟨f, g, h⟩ := h
      clear g
      replace h : EV F f 25 z25 18 [some (rf 2 (0)), some (.inl (x1))] [.inl (Int32.ofInt 200), .inl (x1)] σ (.inl (some (.inr (.inr w))), σ') := h
      replace h := ei_c h rfl rfl rfl
      rcases h with ⟨hp3, f, g, h⟩ | ⟨hp3, f, g, h⟩
      · skip
        replace hp3 : (x1).toInt < (200 : Int) := ic_lt.mp hp3
        refine Or.inl ⟨hp3, ?_⟩
        clear g
        replace h : EV F f 25 z25 25 [some (rf 2 (0)), some (.inl (x1))] [] σ (.inl (some (.inr (.inr w))), σ') := h
        replace h := ei_p h rfl rfl rfl rfl
        obtain ⟨f, g, h⟩ := h
        clear g
        replace h : EV F f 25 z25 26 [some (rf 2 (0)), some (.inl (x1))] [rf 2 (0)] σ (.inl (some (.inr (.inr w))), σ') := h
        replace h := ei_get h rfl (HS_g2_3 hs)
        obtain ⟨f, g, h⟩ := h
        clear g
        replace h : EV F f 25 z25 29 [some (rf 2 (0)), some (.inl (x1))] [rf 20 (0)] σ (.inl (some (.inr (.inr w))), σ') := h
        replace h := ei_p h rfl rfl rfl rfl
        obtain ⟨f, g, h⟩ := h
        clear g
        replace h : EV F f 25 z25 30 [some (rf 2 (0)), some (.inl (x1))] [.inl (x1), rf 20 (0)] σ (.inl (some (.inr (.inr w))), σ') := h
        replace h := ei_ald h rfl (HS_a20 hs)
        obtain ⟨vp4, f, g, h⟩ := h
        clear g
        replace h : EV F f 25 z25 31 [some (rf 2 (0)), some (.inl (x1))] [rf 10 ((x1).toNatClampNeg)] σ (.inl (some (.inr (.inr w))), σ') := h
        refine ⟨HS_v20 hs vp4, ?_⟩
        have e := ei_aret h rfl
        cases e
        exact rfl
      · skip
        replace hp3 : ¬ ((x1).toInt < (200 : Int)) := (not_congr ic_lt).mp hp3
        refine Or.inr ⟨hp3, ?_⟩
        clear g
        replace h : EV F f 25 z25 21 [some (rf 2 (0)), some (.inl (x1))] [] σ (.inl (some (.inr (.inr w))), σ') := h
        replace h := ei_p h rfl rfl rfl rfl
        obtain ⟨f, g, h⟩ := h
        clear g
        replace h : EV F f 25 z25 22 [some (rf 2 (0)), some (.inl (x1))] [.inr (.inr none)] σ (.inl (some (.inr (.inr w))), σ') := h
        replace h := ei_p h rfl rfl rfl rfl
        obtain ⟨f, g, h⟩ := h
        clear g
        replace h : EV F f 25 z25 31 [some (rf 2 (0)), some (.inl (x1))] [.inr (.inr none)] σ (.inl (some (.inr (.inr w))), σ') := h
        have e := ei_aret h rfl
        cases e
        exact rfl
def z26 : mAl := ((yX2_hasFailed, cX2_hasFailed, 3, (some .boolean), { frames := 1, cells := 0, slots := 0, locals := 21 }, []), rw_X2_hasFailed, false)
theorem z26_at : m_alF[26]? = some z26 := rfl
def P26 (σ : mS) (x1 : Int32) (w : Int32) : Prop := ∃ v1, P22 σ (x1) v1 ∧ ((v1 = none ∧ w = (Int32.ofInt 0)) ∨ (∃ q6, v1 = some q6 ∧ ∃ i9, (some q6 : mR) = some (6, i9) ∧ (((m_i σ 6 (i9) 9).toInt = (0 : Int) ∧ w = (Int32.ofInt 0)) ∨ (¬ ((m_i σ 6 (i9) 9).toInt = (0 : Int)) ∧ w = (Int32.ofInt 1)))))
theorem x26 {σ σ' : mS} {x1 : Int32} {w : Int32} (hs : HS σ) (h : ev_run sm_all 26 [rf 2 (0), .inl (x1)] σ (.inl (some (.inl w))) σ') : P26 σ x1 w := by
  unfold P26
  obtain ⟨F, f, h⟩ := ei_go h z26_at
  replace h : EV F f 26 z26 0 [some (rf 2 (0)), some (.inl (x1)), none] [] σ (.inl (some (.inl w)), σ') := h
  replace h := ei_p h rfl rfl rfl rfl
  obtain ⟨f, g, h⟩ := h
  clear g
  replace h : EV F f 26 z26 1 [some (rf 2 (0)), some (.inl (x1)), none] [rf 2 (0)] σ (.inl (some (.inl w)), σ') := h
  replace h := ei_p h rfl rfl rfl rfl
  obtain ⟨f, g, h⟩ := h
  clear g
  replace h : EV F f 26 z26 2 [some (rf 2 (0)), some (.inl (x1)), none] [.inl (x1), rf 2 (0)] σ (.inl (some (.inl w)), σ') := h
  replace h := bk_R (ei_v (as := [.inl (x1)]) h rfl rfl rfl) rfl z22_at rfl
  obtain ⟨v1, σ2, r3, f, g, h⟩ := h
  clear g
  have er3 := ro_run rfl r3
  rw [er3] at h r3
  have p4 := x22 hs r3
  refine ⟨v1, p4, ?_⟩
  replace h : EV F f 26 z26 5 [some (rf 2 (0)), some (.inl (x1)), none] [.inr (.inr (v1))] σ (.inl (some (.inl w)), σ') := h
  replace h := ei_p h rfl rfl rfl rfl
  obtain ⟨f, g, h⟩ := h
  clear g
  replace h : EV F f 26 z26 6 [some (rf 2 (0)), some (.inl (x1)), some (.inr (.inr (v1)))] [] σ (.inl (some (.inl w)), σ') := h
  replace h := ei_p h rfl rfl rfl rfl
  obtain ⟨f, g, h⟩ := h
  clear g
  replace h : EV F f 26 z26 7 [some (rf 2 (0)), some (.inl (x1)), some (.inr (.inr (v1)))] [.inr (.inr (v1))] σ (.inl (some (.inl w)), σ') := h
  rcases r_cs (v1) with e5 | ⟨q6, e5⟩
  · skip
    rw [e5] at h
    refine Or.inl ⟨e5, ?_⟩
    replace h : EV F f 26 z26 7 [some (rf 2 (0)), some (.inl (x1)), some (.inr (.inr none))] [.inr (.inr none)] σ (.inl (some (.inl w)), σ') := h
    replace h := ei_c h rfl rfl rfl
    rcases h with ⟨hp7, f, g, h⟩ | ⟨hp7, f, g, h⟩
    · skip
      clear g
      replace h : EV F f 26 z26 21 [some (rf 2 (0)), some (.inl (x1)), some (.inr (.inr none))] [] σ (.inl (some (.inl w)), σ') := h
      replace h := ei_p h rfl rfl rfl rfl
      obtain ⟨f, g, h⟩ := h
      clear g
      replace h : EV F f 26 z26 22 [some (rf 2 (0)), some (.inl (x1)), some (.inr (.inr none))] [.inl (Int32.ofInt 0)] σ (.inl (some (.inl w)), σ') := h
      have e := ei_iret h rfl
      cases e
      exact rfl
    · exact absurd rfl hp7
  · skip
    rw [e5] at h
    refine Or.inr ⟨q6, e5, ?_⟩
    replace h : EV F f 26 z26 7 [some (rf 2 (0)), some (.inl (x1)), some (.inr (.inr (some q6)))] [.inr (.inr (some q6))] σ (.inl (some (.inl w)), σ') := h
    replace h := ei_c h rfl rfl rfl
    rcases h with ⟨hp8, f, g, h⟩ | ⟨hp8, f, g, h⟩
    · exact absurd hp8 (fun z => by cases z)
    · skip
      clear g
      replace h : EV F f 26 z26 10 [some (rf 2 (0)), some (.inl (x1)), some (.inr (.inr (some q6)))] [] σ (.inl (some (.inl w)), σ') := h
      replace h := ei_p h rfl rfl rfl rfl
      obtain ⟨f, g, h⟩ := h
      clear g
      replace h : EV F f 26 z26 11 [some (rf 2 (0)), some (.inl (x1)), some (.inr (.inr (some q6)))] [.inr (.inr (some q6))] σ (.inl (some (.inl w)), σ') := h
      obtain ⟨i9, e10⟩ := ei_gp h rfl
      rw [Option.some.inj e10] at h
      refine ⟨i9, e10, ?_⟩
      replace h : EV F f 26 z26 11 [some (rf 2 (0)), some (.inl (x1)), some (rf 6 (i9))] [rf 6 (i9)] σ (.inl (some (.inl w)), σ') := h
      replace h := ei_get h rfl rfl
      obtain ⟨f, g, h⟩ := h
      clear g
      replace h : EV F f 26 z26 14 [some (rf 2 (0)), some (.inl (x1)), some (rf 6 (i9))] [.inl (m_i σ 6 (i9) 9)] σ (.inl (some (.inl w)), σ') := h
      replace h := ei_c h rfl rfl rfl
      rcases h with ⟨hp11, f, g, h⟩ | ⟨hp11, f, g, h⟩
      · skip
        replace hp11 : (m_i σ 6 (i9) 9).toInt = (0 : Int) := ic_eq.mp hp11
        refine Or.inl ⟨hp11, ?_⟩
        clear g
        replace h : EV F f 26 z26 21 [some (rf 2 (0)), some (.inl (x1)), some (rf 6 (i9))] [] σ (.inl (some (.inl w)), σ') := h
        replace h := ei_p h rfl rfl rfl rfl
        obtain ⟨f, g, h⟩ := h
        clear g
        replace h : EV F f 26 z26 22 [some (rf 2 (0)), some (.inl (x1)), some (rf 6 (i9))] [.inl (Int32.ofInt 0)] σ (.inl (some (.inl w)), σ') := h
        have e := ei_iret h rfl
        cases e
        exact rfl
      · skip
        replace hp11 : ¬ ((m_i σ 6 (i9) 9).toInt = (0 : Int)) := (not_congr ic_eq).mp hp11
        refine Or.inr ⟨hp11, ?_⟩
        clear g
        replace h : EV F f 26 z26 17 [some (rf 2 (0)), some (.inl (x1)), some (rf 6 (i9))] [] σ (.inl (some (.inl w)), σ') := h
        replace h := ei_p h rfl rfl rfl rfl
        obtain ⟨f, g, h⟩ := h
        clear g
        replace h : EV F f 26 z26 18 [some (rf 2 (0)), some (.inl (x1)), some (rf 6 (i9))] [.inl (Int32.ofInt 1)] σ (.inl (some (.inl w)), σ') := h
        replace h := ei_p h rfl rfl rfl rfl
        obtain ⟨f, g, h⟩ := h
        clear g
        replace h : EV F f 26 z26 22 [some (rf 2 (0)), some (.inl (x1)), some (rf 6 (i9))] [.inl (Int32.ofInt 1)] σ (.inl (some (.inl w)), σ') := h
        have e := ei_iret h rfl
        cases e
        exact rfl
def z27 : mAl := ((yX2_isContinuous, cX2_isContinuous, 3, (some .boolean), { frames := 1, cells := 0, slots := 0, locals := 21 }, []), rw_X2_isContinuous, false)
theorem z27_at : m_alF[27]? = some z27 := rfl
def P27 (σ : mS) (x1 : Int32) (w : Int32) : Prop := ∃ v1, P24 σ (x1) v1 ∧ ((v1 = none ∧ w = (Int32.ofInt 0)) ∨ (∃ q6, v1 = some q6 ∧ ∃ i9, (some q6 : mR) = some (8, i9) ∧ (((m_i σ 8 (i9) 1).toInt ≠ (0 : Int) ∧ w = (Int32.ofInt 0)) ∨ (¬ ((m_i σ 8 (i9) 1).toInt ≠ (0 : Int)) ∧ w = (Int32.ofInt 1)))))
theorem x27 {σ σ' : mS} {x1 : Int32} {w : Int32} (hs : HS σ) (h : ev_run sm_all 27 [rf 2 (0), .inl (x1)] σ (.inl (some (.inl w))) σ') : P27 σ x1 w := by
  unfold P27
  obtain ⟨F, f, h⟩ := ei_go h z27_at
  replace h : EV F f 27 z27 0 [some (rf 2 (0)), some (.inl (x1)), none] [] σ (.inl (some (.inl w)), σ') := h
  replace h := ei_p h rfl rfl rfl rfl
  obtain ⟨f, g, h⟩ := h
  clear g
  replace h : EV F f 27 z27 1 [some (rf 2 (0)), some (.inl (x1)), none] [rf 2 (0)] σ (.inl (some (.inl w)), σ') := h
  replace h := ei_p h rfl rfl rfl rfl
  obtain ⟨f, g, h⟩ := h
  clear g
  replace h : EV F f 27 z27 2 [some (rf 2 (0)), some (.inl (x1)), none] [.inl (x1), rf 2 (0)] σ (.inl (some (.inl w)), σ') := h
  replace h := bk_R (ei_v (as := [.inl (x1)]) h rfl rfl rfl) rfl z24_at rfl
  obtain ⟨v1, σ2, r3, f, g, h⟩ := h
  clear g
  have er3 := ro_run rfl r3
  rw [er3] at h r3
  have p4 := x24 hs r3
  refine ⟨v1, p4, ?_⟩
  replace h : EV F f 27 z27 5 [some (rf 2 (0)), some (.inl (x1)), none] [.inr (.inr (v1))] σ (.inl (some (.inl w)), σ') := h
  replace h := ei_p h rfl rfl rfl rfl
  obtain ⟨f, g, h⟩ := h
  clear g
  replace h : EV F f 27 z27 6 [some (rf 2 (0)), some (.inl (x1)), some (.inr (.inr (v1)))] [] σ (.inl (some (.inl w)), σ') := h
  replace h := ei_p h rfl rfl rfl rfl
  obtain ⟨f, g, h⟩ := h
  clear g
  replace h : EV F f 27 z27 7 [some (rf 2 (0)), some (.inl (x1)), some (.inr (.inr (v1)))] [.inr (.inr (v1))] σ (.inl (some (.inl w)), σ') := h
  rcases r_cs (v1) with e5 | ⟨q6, e5⟩
  · skip
    rw [e5] at h
    refine Or.inl ⟨e5, ?_⟩
    replace h : EV F f 27 z27 7 [some (rf 2 (0)), some (.inl (x1)), some (.inr (.inr none))] [.inr (.inr none)] σ (.inl (some (.inl w)), σ') := h
    replace h := ei_c h rfl rfl rfl
    rcases h with ⟨hp7, f, g, h⟩ | ⟨hp7, f, g, h⟩
    · skip
      clear g
      replace h : EV F f 27 z27 21 [some (rf 2 (0)), some (.inl (x1)), some (.inr (.inr none))] [] σ (.inl (some (.inl w)), σ') := h
      replace h := ei_p h rfl rfl rfl rfl
      obtain ⟨f, g, h⟩ := h
      clear g
      replace h : EV F f 27 z27 22 [some (rf 2 (0)), some (.inl (x1)), some (.inr (.inr none))] [.inl (Int32.ofInt 0)] σ (.inl (some (.inl w)), σ') := h
      have e := ei_iret h rfl
      cases e
      exact rfl
    · exact absurd rfl hp7
  · skip
    rw [e5] at h
    refine Or.inr ⟨q6, e5, ?_⟩
    replace h : EV F f 27 z27 7 [some (rf 2 (0)), some (.inl (x1)), some (.inr (.inr (some q6)))] [.inr (.inr (some q6))] σ (.inl (some (.inl w)), σ') := h
    replace h := ei_c h rfl rfl rfl
    rcases h with ⟨hp8, f, g, h⟩ | ⟨hp8, f, g, h⟩
    · exact absurd hp8 (fun z => by cases z)
    · skip
      clear g
      replace h : EV F f 27 z27 10 [some (rf 2 (0)), some (.inl (x1)), some (.inr (.inr (some q6)))] [] σ (.inl (some (.inl w)), σ') := h
      replace h := ei_p h rfl rfl rfl rfl
      obtain ⟨f, g, h⟩ := h
      clear g
      replace h : EV F f 27 z27 11 [some (rf 2 (0)), some (.inl (x1)), some (.inr (.inr (some q6)))] [.inr (.inr (some q6))] σ (.inl (some (.inl w)), σ') := h
      obtain ⟨i9, e10⟩ := ei_gp h rfl
      rw [Option.some.inj e10] at h
      refine ⟨i9, e10, ?_⟩
      replace h : EV F f 27 z27 11 [some (rf 2 (0)), some (.inl (x1)), some (rf 8 (i9))] [rf 8 (i9)] σ (.inl (some (.inl w)), σ') := h
      replace h := ei_get h rfl rfl
      obtain ⟨f, g, h⟩ := h
      clear g
      replace h : EV F f 27 z27 14 [some (rf 2 (0)), some (.inl (x1)), some (rf 8 (i9))] [.inl (m_i σ 8 (i9) 1)] σ (.inl (some (.inl w)), σ') := h
      replace h := ei_c h rfl rfl rfl
      rcases h with ⟨hp11, f, g, h⟩ | ⟨hp11, f, g, h⟩
      · skip
        replace hp11 : (m_i σ 8 (i9) 1).toInt ≠ (0 : Int) := ic_ne.mp hp11
        refine Or.inl ⟨hp11, ?_⟩
        clear g
        replace h : EV F f 27 z27 21 [some (rf 2 (0)), some (.inl (x1)), some (rf 8 (i9))] [] σ (.inl (some (.inl w)), σ') := h
        replace h := ei_p h rfl rfl rfl rfl
        obtain ⟨f, g, h⟩ := h
        clear g
        replace h : EV F f 27 z27 22 [some (rf 2 (0)), some (.inl (x1)), some (rf 8 (i9))] [.inl (Int32.ofInt 0)] σ (.inl (some (.inl w)), σ') := h
        have e := ei_iret h rfl
        cases e
        exact rfl
      · skip
        replace hp11 : ¬ ((m_i σ 8 (i9) 1).toInt ≠ (0 : Int)) := (not_congr ic_ne).mp hp11
        refine Or.inr ⟨hp11, ?_⟩
        clear g
        replace h : EV F f 27 z27 17 [some (rf 2 (0)), some (.inl (x1)), some (rf 8 (i9))] [] σ (.inl (some (.inl w)), σ') := h
        replace h := ei_p h rfl rfl rfl rfl
        obtain ⟨f, g, h⟩ := h
        clear g
        replace h : EV F f 27 z27 18 [some (rf 2 (0)), some (.inl (x1)), some (rf 8 (i9))] [.inl (Int32.ofInt 1)] σ (.inl (some (.inl w)), σ') := h
        replace h := ei_p h rfl rfl rfl rfl
        obtain ⟨f, g, h⟩ := h
        clear g
        replace h : EV F f 27 z27 22 [some (rf 2 (0)), some (.inl (x1)), some (rf 8 (i9))] [.inl (Int32.ofInt 1)] σ (.inl (some (.inl w)), σ') := h
        have e := ei_iret h rfl
        cases e
        exact rfl
def z28 : mAl := ((yX2_hasRoomFor, cX2_hasRoomFor, 2, (some .boolean), { frames := 0, cells := 0, slots := 0, locals := 0 }, []), rw_X2_hasRoomFor, false)
theorem z28_at : m_alF[28]? = some z28 := rfl
def P28 (σ : mS) (x1 : Int32) (w : Int32) : Prop := (((200 : Int) < ((m_i σ 2 (0) 5) + (x1)).toInt ∧ w = (Int32.ofInt 0)) ∨ (¬ ((200 : Int) < ((m_i σ 2 (0) 5) + (x1)).toInt) ∧ w = (Int32.ofInt 1)))
theorem x28 {σ σ' : mS} {x1 : Int32} {w : Int32} (hs : HS σ) (h : ev_run sm_all 28 [rf 2 (0), .inl (x1)] σ (.inl (some (.inl w))) σ') : P28 σ x1 w := by
  unfold P28
  obtain ⟨F, f, h⟩ := ei_go h z28_at
  replace h : EV F f 28 z28 0 [some (rf 2 (0)), some (.inl (x1))] [] σ (.inl (some (.inl w)), σ') := h
  replace h := ei_p h rfl rfl rfl rfl
  obtain ⟨f, g, h⟩ := h
  clear g
  replace h : EV F f 28 z28 1 [some (rf 2 (0)), some (.inl (x1))] [rf 2 (0)] σ (.inl (some (.inl w)), σ') := h
  replace h := ei_get h rfl rfl
  obtain ⟨f, g, h⟩ := h
  clear g
  replace h : EV F f 28 z28 4 [some (rf 2 (0)), some (.inl (x1))] [.inl (m_i σ 2 (0) 5)] σ (.inl (some (.inl w)), σ') := h
  replace h := ei_p h rfl rfl rfl rfl
  obtain ⟨f, g, h⟩ := h
  clear g
  replace h : EV F f 28 z28 5 [some (rf 2 (0)), some (.inl (x1))] [.inl (x1), .inl (m_i σ 2 (0) 5)] σ (.inl (some (.inl w)), σ') := h
  replace h := ei_p h rfl rfl rfl rfl
  obtain ⟨f, g, h⟩ := h
  clear g
  replace h : EV F f 28 z28 6 [some (rf 2 (0)), some (.inl (x1))] [.inl ((m_i σ 2 (0) 5) + (x1))] σ (.inl (some (.inl w)), σ') := h
  replace h := ei_p h rfl rfl rfl rfl
  obtain ⟨f, g, h⟩ := h
  clear g
  replace h : EV F f 28 z28 7 [some (rf 2 (0)), some (.inl (x1))] [rf 2 (0), .inl ((m_i σ 2 (0) 5) + (x1))] σ (.inl (some (.inl w)), σ') := h
  replace h := ei_get h rfl (HS_g2_3 hs)
  obtain ⟨f, g, h⟩ := h
  clear g
  replace h : EV F f 28 z28 10 [some (rf 2 (0)), some (.inl (x1))] [rf 20 (0), .inl ((m_i σ 2 (0) 5) + (x1))] σ (.inl (some (.inl w)), σ') := h
  replace h := ei_len h rfl (HS_l20_0 hs) ⟨Nat.le_of_ble_eq_true rfl, Nat.le_of_ble_eq_true rfl⟩
  obtain ⟨f, g, h⟩ := h
  clear g
  replace h : EV F f 28 z28 11 [some (rf 2 (0)), some (.inl (x1))] [.inl (Int32.ofInt 200), .inl ((m_i σ 2 (0) 5) + (x1))] σ (.inl (some (.inl w)), σ') := h
  replace h := ei_c h rfl rfl rfl
  rcases h with ⟨hp1, f, g, h⟩ | ⟨hp1, f, g, h⟩
  · skip
    replace hp1 : (200 : Int) < ((m_i σ 2 (0) 5) + (x1)).toInt := ic_gt.mp hp1
    refine Or.inl ⟨hp1, ?_⟩
    clear g
    replace h : EV F f 28 z28 18 [some (rf 2 (0)), some (.inl (x1))] [] σ (.inl (some (.inl w)), σ') := h
    replace h := ei_p h rfl rfl rfl rfl
    obtain ⟨f, g, h⟩ := h
    clear g
    replace h : EV F f 28 z28 19 [some (rf 2 (0)), some (.inl (x1))] [.inl (Int32.ofInt 0)] σ (.inl (some (.inl w)), σ') := h
    have e := ei_iret h rfl
    cases e
    exact rfl
  · skip
    replace hp1 : ¬ ((200 : Int) < ((m_i σ 2 (0) 5) + (x1)).toInt) := (not_congr ic_gt).mp hp1
    refine Or.inr ⟨hp1, ?_⟩
    clear g
    replace h : EV F f 28 z28 14 [some (rf 2 (0)), some (.inl (x1))] [] σ (.inl (some (.inl w)), σ') := h
    replace h := ei_p h rfl rfl rfl rfl
    obtain ⟨f, g, h⟩ := h
    clear g
    replace h : EV F f 28 z28 15 [some (rf 2 (0)), some (.inl (x1))] [.inl (Int32.ofInt 1)] σ (.inl (some (.inl w)), σ') := h
    replace h := ei_p h rfl rfl rfl rfl
    obtain ⟨f, g, h⟩ := h
    clear g
    replace h : EV F f 28 z28 19 [some (rf 2 (0)), some (.inl (x1))] [.inl (Int32.ofInt 1)] σ (.inl (some (.inl w)), σ') := h
    have e := ei_iret h rfl
    cases e
    exact rfl
def z29 : mAl := ((yX2_payDeposit, cX2_payDeposit, 4, (some .long), { frames := 1, cells := 0, slots := 0, locals := 21 }, []), rw_X2_payDeposit, false)
theorem z29_at : m_alF[29]? = some z29 := rfl
abbrev L29 : List (Nat × Nat) := [(6, 3)]
abbrev w29 : Nat → Nat → Bool := wl L29
def S29 : List Nat := [22, 29]
theorem W29 : fw_S w29 S29 = true := by decide +kernel
def P29 (σ : mS) (x1 : Int32) (x2 : Int32) (w : Int64) (σ' : mS) : Prop := ∃ v1, P22 σ (x1) v1 ∧ ((v1 = none ∧ w = (Int64.ofNat 0) ∧ σ' = σ) ∨ (∃ q6, v1 = some q6 ∧ ∃ i9, (some q6 : mR) = some (6, i9) ∧ ∃ σ12, σ12 = m_set σ 6 (i9) (3) (.inr (.inl ((m_l σ 6 (i9) 3) + ((x2).toInt64)))) ∧ w = (m_l σ12 6 (i9) 3) ∧ σ' = σ12))
theorem x29 {σ σ' : mS} {x1 : Int32} {x2 : Int32} {w : Int64} (hs : HS σ) (h : ev_run sm_all 29 [rf 2 (0), .inl (x1), .inl (x2)] σ (.inl (some (.inr (.inl w)))) σ') : P29 σ x1 x2 w σ' := by
  unfold P29
  obtain ⟨F, f, h⟩ := ei_go h z29_at
  replace h : EV F f 29 z29 0 [some (rf 2 (0)), some (.inl (x1)), some (.inl (x2)), none] [] σ (.inl (some (.inr (.inl w))), σ') := h
  replace h := ei_p h rfl rfl rfl rfl
  obtain ⟨f, g, h⟩ := h
  clear g
  replace h : EV F f 29 z29 1 [some (rf 2 (0)), some (.inl (x1)), some (.inl (x2)), none] [rf 2 (0)] σ (.inl (some (.inr (.inl w))), σ') := h
  replace h := ei_p h rfl rfl rfl rfl
  obtain ⟨f, g, h⟩ := h
  clear g
  replace h : EV F f 29 z29 2 [some (rf 2 (0)), some (.inl (x1)), some (.inl (x2)), none] [.inl (x1), rf 2 (0)] σ (.inl (some (.inr (.inl w))), σ') := h
  replace h := bk_R (ei_v (as := [.inl (x1)]) h rfl rfl rfl) rfl z22_at rfl
  obtain ⟨v1, σ2, r3, f, g, h⟩ := h
  clear g
  have er3 := ro_run rfl r3
  rw [er3] at h r3
  have p4 := x22 hs r3
  refine ⟨v1, p4, ?_⟩
  replace h : EV F f 29 z29 5 [some (rf 2 (0)), some (.inl (x1)), some (.inl (x2)), none] [.inr (.inr (v1))] σ (.inl (some (.inr (.inl w))), σ') := h
  replace h := ei_p h rfl rfl rfl rfl
  obtain ⟨f, g, h⟩ := h
  clear g
  replace h : EV F f 29 z29 6 [some (rf 2 (0)), some (.inl (x1)), some (.inl (x2)), some (.inr (.inr (v1)))] [] σ (.inl (some (.inr (.inl w))), σ') := h
  replace h := ei_p h rfl rfl rfl rfl
  obtain ⟨f, g, h⟩ := h
  clear g
  replace h : EV F f 29 z29 7 [some (rf 2 (0)), some (.inl (x1)), some (.inl (x2)), some (.inr (.inr (v1)))] [.inr (.inr (v1))] σ (.inl (some (.inr (.inl w))), σ') := h
  rcases r_cs (v1) with e5 | ⟨q6, e5⟩
  · skip
    rw [e5] at h
    refine Or.inl ⟨e5, ?_⟩
    replace h : EV F f 29 z29 7 [some (rf 2 (0)), some (.inl (x1)), some (.inl (x2)), some (.inr (.inr none))] [.inr (.inr none)] σ (.inl (some (.inr (.inl w))), σ') := h
    replace h := ei_c h rfl rfl rfl
    rcases h with ⟨hp7, f, g, h⟩ | ⟨hp7, f, g, h⟩
    · exact absurd rfl hp7
    · skip
      clear g
      replace h : EV F f 29 z29 10 [some (rf 2 (0)), some (.inl (x1)), some (.inl (x2)), some (.inr (.inr none))] [] σ (.inl (some (.inr (.inl w))), σ') := h
      replace h := ei_p h rfl rfl rfl rfl
      obtain ⟨f, g, h⟩ := h
      clear g
      replace h : EV F f 29 z29 11 [some (rf 2 (0)), some (.inl (x1)), some (.inl (x2)), some (.inr (.inr none))] [.inr (.inl (Int64.ofNat 0))] σ (.inl (some (.inr (.inl w))), σ') := h
      have e := ei_lret h rfl
      cases e
      exact ⟨rfl, rfl⟩
  · skip
    rw [e5] at h
    refine Or.inr ⟨q6, e5, ?_⟩
    replace h : EV F f 29 z29 7 [some (rf 2 (0)), some (.inl (x1)), some (.inl (x2)), some (.inr (.inr (some q6)))] [.inr (.inr (some q6))] σ (.inl (some (.inr (.inl w))), σ') := h
    replace h := ei_c h rfl rfl rfl
    rcases h with ⟨hp8, f, g, h⟩ | ⟨hp8, f, g, h⟩
    · skip
      clear g
      replace h : EV F f 29 z29 12 [some (rf 2 (0)), some (.inl (x1)), some (.inl (x2)), some (.inr (.inr (some q6)))] [] σ (.inl (some (.inr (.inl w))), σ') := h
      replace h := ei_p h rfl rfl rfl rfl
      obtain ⟨f, g, h⟩ := h
      clear g
      replace h : EV F f 29 z29 13 [some (rf 2 (0)), some (.inl (x1)), some (.inl (x2)), some (.inr (.inr (some q6)))] [.inr (.inr (some q6))] σ (.inl (some (.inr (.inl w))), σ') := h
      replace h := ei_p h rfl rfl rfl rfl
      obtain ⟨f, g, h⟩ := h
      clear g
      replace h : EV F f 29 z29 14 [some (rf 2 (0)), some (.inl (x1)), some (.inl (x2)), some (.inr (.inr (some q6)))] [.inr (.inr (some q6)), .inr (.inr (some q6))] σ (.inl (some (.inr (.inl w))), σ') := h
      obtain ⟨i9, e10⟩ := ei_gp h rfl
      rw [Option.some.inj e10] at h
      refine ⟨i9, e10, ?_⟩
      replace h : EV F f 29 z29 14 [some (rf 2 (0)), some (.inl (x1)), some (.inl (x2)), some (rf 6 (i9))] [rf 6 (i9), rf 6 (i9)] σ (.inl (some (.inr (.inl w))), σ') := h
      replace h := ei_get h rfl rfl
      obtain ⟨f, g, h⟩ := h
      clear g
      replace h : EV F f 29 z29 17 [some (rf 2 (0)), some (.inl (x1)), some (.inl (x2)), some (rf 6 (i9))] [.inr (.inl (m_l σ 6 (i9) 3)), rf 6 (i9)] σ (.inl (some (.inr (.inl w))), σ') := h
      replace h := ei_p h rfl rfl rfl rfl
      obtain ⟨f, g, h⟩ := h
      clear g
      replace h : EV F f 29 z29 18 [some (rf 2 (0)), some (.inl (x1)), some (.inl (x2)), some (rf 6 (i9))] [.inl (x2), .inr (.inl (m_l σ 6 (i9) 3)), rf 6 (i9)] σ (.inl (some (.inr (.inl w))), σ') := h
      replace h := ei_p h rfl rfl rfl rfl
      obtain ⟨f, g, h⟩ := h
      clear g
      replace h : EV F f 29 z29 19 [some (rf 2 (0)), some (.inl (x1)), some (.inl (x2)), some (rf 6 (i9))] [.inr (.inl ((x2).toInt64)), .inr (.inl (m_l σ 6 (i9) 3)), rf 6 (i9)] σ (.inl (some (.inr (.inl w))), σ') := h
      replace h := ei_p h rfl rfl rfl rfl
      obtain ⟨f, g, h⟩ := h
      clear g
      replace h : EV F f 29 z29 20 [some (rf 2 (0)), some (.inl (x1)), some (.inl (x2)), some (rf 6 (i9))] [.inr (.inl ((m_l σ 6 (i9) 3) + ((x2).toInt64))), rf 6 (i9)] σ (.inl (some (.inr (.inl w))), σ') := h
      replace h := ei_put h rfl
      obtain ⟨ht11, f, g, h⟩ := h
      clear g
      obtain ⟨σ12, e13⟩ : ∃ s, s = m_set σ 6 (i9) (3) (.inr (.inl ((m_l σ 6 (i9) 3) + ((x2).toInt64)))) := ⟨_, rfl⟩
      rw [← e13] at h
      have hsσ12 : HS σ12 := by rw [e13]; exact HS_set hs rfl
      refine ⟨σ12, e13, ?_⟩
      replace h : EV F f 29 z29 23 [some (rf 2 (0)), some (.inl (x1)), some (.inl (x2)), some (rf 6 (i9))] [] σ12 (.inl (some (.inr (.inl w))), σ') := h
      replace h := ei_p h rfl rfl rfl rfl
      obtain ⟨f, g, h⟩ := h
      clear g
      replace h : EV F f 29 z29 24 [some (rf 2 (0)), some (.inl (x1)), some (.inl (x2)), some (rf 6 (i9))] [rf 6 (i9)] σ12 (.inl (some (.inr (.inl w))), σ') := h
      replace h := ei_get h rfl rfl
      obtain ⟨f, g, h⟩ := h
      clear g
      replace h : EV F f 29 z29 27 [some (rf 2 (0)), some (.inl (x1)), some (.inl (x2)), some (rf 6 (i9))] [.inr (.inl (m_l σ12 6 (i9) 3))] σ12 (.inl (some (.inr (.inl w))), σ') := h
      have e := ei_lret h rfl
      cases e
      exact ⟨rfl, rfl⟩
    · exact absurd (fun z => by cases z) hp8
def z30 : mAl := ((yX2_payShare, cX2_payShare, 4, (some .long), { frames := 2, cells := 0, slots := 0, locals := 42 }, []), rw_X2_payShare, false)
theorem z30_at : m_alF[30]? = some z30 := rfl
abbrev L30 : List (Nat × Nat) := [(6, 4)]
abbrev w30 : Nat → Nat → Bool := wl L30
def S30 : List Nat := [22, 23, 30]
theorem W30 : fw_S w30 S30 = true := by decide +kernel
def P30 (σ : mS) (x1 : Int32) (x2 : Int32) (w : Int64) (σ' : mS) : Prop := ∃ v1, P23 σ (x1) v1 ∧ ((v1 = none ∧ w = (Int64.ofNat 0) ∧ σ' = σ) ∨ (∃ q6, v1 = some q6 ∧ ∃ i9, (some q6 : mR) = some (6, i9) ∧ ∃ σ12, σ12 = m_set σ 6 (i9) (4) (.inr (.inl ((m_l σ 6 (i9) 4) + ((x2).toInt64)))) ∧ w = (m_l σ12 6 (i9) 4) ∧ σ' = σ12))
theorem x30 {σ σ' : mS} {x1 : Int32} {x2 : Int32} {w : Int64} (hs : HS σ) (h : ev_run sm_all 30 [rf 2 (0), .inl (x1), .inl (x2)] σ (.inl (some (.inr (.inl w)))) σ') : P30 σ x1 x2 w σ' := by
  unfold P30
  obtain ⟨F, f, h⟩ := ei_go h z30_at
  replace h : EV F f 30 z30 0 [some (rf 2 (0)), some (.inl (x1)), some (.inl (x2)), none] [] σ (.inl (some (.inr (.inl w))), σ') := h
  replace h := ei_p h rfl rfl rfl rfl
  obtain ⟨f, g, h⟩ := h
  clear g
  replace h : EV F f 30 z30 1 [some (rf 2 (0)), some (.inl (x1)), some (.inl (x2)), none] [rf 2 (0)] σ (.inl (some (.inr (.inl w))), σ') := h
  replace h := ei_p h rfl rfl rfl rfl
  obtain ⟨f, g, h⟩ := h
  clear g
  replace h : EV F f 30 z30 2 [some (rf 2 (0)), some (.inl (x1)), some (.inl (x2)), none] [.inl (x1), rf 2 (0)] σ (.inl (some (.inr (.inl w))), σ') := h
  replace h := bk_R (ei_v (as := [.inl (x1)]) h rfl rfl rfl) rfl z23_at rfl
  obtain ⟨v1, σ2, r3, f, g, h⟩ := h
  clear g
  have er3 := ro_run rfl r3
  rw [er3] at h r3
  have p4 := x23 hs r3
  refine ⟨v1, p4, ?_⟩
  replace h : EV F f 30 z30 5 [some (rf 2 (0)), some (.inl (x1)), some (.inl (x2)), none] [.inr (.inr (v1))] σ (.inl (some (.inr (.inl w))), σ') := h
  replace h := ei_p h rfl rfl rfl rfl
  obtain ⟨f, g, h⟩ := h
  clear g
  replace h : EV F f 30 z30 6 [some (rf 2 (0)), some (.inl (x1)), some (.inl (x2)), some (.inr (.inr (v1)))] [] σ (.inl (some (.inr (.inl w))), σ') := h
  replace h := ei_p h rfl rfl rfl rfl
  obtain ⟨f, g, h⟩ := h
  clear g
  replace h : EV F f 30 z30 7 [some (rf 2 (0)), some (.inl (x1)), some (.inl (x2)), some (.inr (.inr (v1)))] [.inr (.inr (v1))] σ (.inl (some (.inr (.inl w))), σ') := h
  rcases r_cs (v1) with e5 | ⟨q6, e5⟩
  · skip
    rw [e5] at h
    refine Or.inl ⟨e5, ?_⟩
    replace h : EV F f 30 z30 7 [some (rf 2 (0)), some (.inl (x1)), some (.inl (x2)), some (.inr (.inr none))] [.inr (.inr none)] σ (.inl (some (.inr (.inl w))), σ') := h
    replace h := ei_c h rfl rfl rfl
    rcases h with ⟨hp7, f, g, h⟩ | ⟨hp7, f, g, h⟩
    · exact absurd rfl hp7
    · skip
      clear g
      replace h : EV F f 30 z30 10 [some (rf 2 (0)), some (.inl (x1)), some (.inl (x2)), some (.inr (.inr none))] [] σ (.inl (some (.inr (.inl w))), σ') := h
      replace h := ei_p h rfl rfl rfl rfl
      obtain ⟨f, g, h⟩ := h
      clear g
      replace h : EV F f 30 z30 11 [some (rf 2 (0)), some (.inl (x1)), some (.inl (x2)), some (.inr (.inr none))] [.inr (.inl (Int64.ofNat 0))] σ (.inl (some (.inr (.inl w))), σ') := h
      have e := ei_lret h rfl
      cases e
      exact ⟨rfl, rfl⟩
  · skip
    rw [e5] at h
    refine Or.inr ⟨q6, e5, ?_⟩
    replace h : EV F f 30 z30 7 [some (rf 2 (0)), some (.inl (x1)), some (.inl (x2)), some (.inr (.inr (some q6)))] [.inr (.inr (some q6))] σ (.inl (some (.inr (.inl w))), σ') := h
    replace h := ei_c h rfl rfl rfl
    rcases h with ⟨hp8, f, g, h⟩ | ⟨hp8, f, g, h⟩
    · skip
      clear g
      replace h : EV F f 30 z30 12 [some (rf 2 (0)), some (.inl (x1)), some (.inl (x2)), some (.inr (.inr (some q6)))] [] σ (.inl (some (.inr (.inl w))), σ') := h
      replace h := ei_p h rfl rfl rfl rfl
      obtain ⟨f, g, h⟩ := h
      clear g
      replace h : EV F f 30 z30 13 [some (rf 2 (0)), some (.inl (x1)), some (.inl (x2)), some (.inr (.inr (some q6)))] [.inr (.inr (some q6))] σ (.inl (some (.inr (.inl w))), σ') := h
      replace h := ei_p h rfl rfl rfl rfl
      obtain ⟨f, g, h⟩ := h
      clear g
      replace h : EV F f 30 z30 14 [some (rf 2 (0)), some (.inl (x1)), some (.inl (x2)), some (.inr (.inr (some q6)))] [.inr (.inr (some q6)), .inr (.inr (some q6))] σ (.inl (some (.inr (.inl w))), σ') := h
      obtain ⟨i9, e10⟩ := ei_gp h rfl
      rw [Option.some.inj e10] at h
      refine ⟨i9, e10, ?_⟩
      replace h : EV F f 30 z30 14 [some (rf 2 (0)), some (.inl (x1)), some (.inl (x2)), some (rf 6 (i9))] [rf 6 (i9), rf 6 (i9)] σ (.inl (some (.inr (.inl w))), σ') := h
      replace h := ei_get h rfl rfl
      obtain ⟨f, g, h⟩ := h
      clear g
      replace h : EV F f 30 z30 17 [some (rf 2 (0)), some (.inl (x1)), some (.inl (x2)), some (rf 6 (i9))] [.inr (.inl (m_l σ 6 (i9) 4)), rf 6 (i9)] σ (.inl (some (.inr (.inl w))), σ') := h
      replace h := ei_p h rfl rfl rfl rfl
      obtain ⟨f, g, h⟩ := h
      clear g
      replace h : EV F f 30 z30 18 [some (rf 2 (0)), some (.inl (x1)), some (.inl (x2)), some (rf 6 (i9))] [.inl (x2), .inr (.inl (m_l σ 6 (i9) 4)), rf 6 (i9)] σ (.inl (some (.inr (.inl w))), σ') := h
      replace h := ei_p h rfl rfl rfl rfl
      obtain ⟨f, g, h⟩ := h
      clear g
      replace h : EV F f 30 z30 19 [some (rf 2 (0)), some (.inl (x1)), some (.inl (x2)), some (rf 6 (i9))] [.inr (.inl ((x2).toInt64)), .inr (.inl (m_l σ 6 (i9) 4)), rf 6 (i9)] σ (.inl (some (.inr (.inl w))), σ') := h
      replace h := ei_p h rfl rfl rfl rfl
      obtain ⟨f, g, h⟩ := h
      clear g
      replace h : EV F f 30 z30 20 [some (rf 2 (0)), some (.inl (x1)), some (.inl (x2)), some (rf 6 (i9))] [.inr (.inl ((m_l σ 6 (i9) 4) + ((x2).toInt64))), rf 6 (i9)] σ (.inl (some (.inr (.inl w))), σ') := h
      replace h := ei_put h rfl
      obtain ⟨ht11, f, g, h⟩ := h
      clear g
      obtain ⟨σ12, e13⟩ : ∃ s, s = m_set σ 6 (i9) (4) (.inr (.inl ((m_l σ 6 (i9) 4) + ((x2).toInt64)))) := ⟨_, rfl⟩
      rw [← e13] at h
      have hsσ12 : HS σ12 := by rw [e13]; exact HS_set hs rfl
      refine ⟨σ12, e13, ?_⟩
      replace h : EV F f 30 z30 23 [some (rf 2 (0)), some (.inl (x1)), some (.inl (x2)), some (rf 6 (i9))] [] σ12 (.inl (some (.inr (.inl w))), σ') := h
      replace h := ei_p h rfl rfl rfl rfl
      obtain ⟨f, g, h⟩ := h
      clear g
      replace h : EV F f 30 z30 24 [some (rf 2 (0)), some (.inl (x1)), some (.inl (x2)), some (rf 6 (i9))] [rf 6 (i9)] σ12 (.inl (some (.inr (.inl w))), σ') := h
      replace h := ei_get h rfl rfl
      obtain ⟨f, g, h⟩ := h
      clear g
      replace h : EV F f 30 z30 27 [some (rf 2 (0)), some (.inl (x1)), some (.inl (x2)), some (rf 6 (i9))] [.inr (.inl (m_l σ12 6 (i9) 4))] σ12 (.inl (some (.inr (.inl w))), σ') := h
      have e := ei_lret h rfl
      cases e
      exact ⟨rfl, rfl⟩
    · exact absurd (fun z => by cases z) hp8
def z31 : mAl := ((yX2_addScenario, cX2_addScenario, 5, (some .int), { frames := 0, cells := 0, slots := 0, locals := 0 }, []), rw_X2_addScenario, false)
theorem z31_at : m_alF[31]? = some z31 := rfl
abbrev L31 : List (Nat × Nat) := [(2, 6), (13, 0)]
abbrev w31 : Nat → Nat → Bool := wl L31
def S31 : List Nat := [31]
theorem W31 : fw_S w31 S31 = true := by decide +kernel
def P31 (σ : mS) (x1 : Int32) (x2 : Int32) (x3 : Int32) (w : Int32) (σ' : mS) : Prop := (((m_i σ 2 (0) 6).toInt < (0 : Int) ∧ w = (m_i σ 2 (0) 6) ∧ σ' = σ) ∨ (¬ ((m_i σ 2 (0) 6).toInt < (0 : Int)) ∧ (((m_i σ 2 (0) 6).toInt < (4 : Int) ∧ (0 ≤ (m_i σ 2 (0) 6).toInt ∧ (m_i σ 2 (0) 6).toInt < 4) ∧ ∃ σ5, σ5 = m_set σ 13 ((m_i σ 2 (0) 6).toNatClampNeg) ((Int32.ofInt 0).toNatClampNeg) (.inl (x1)) ∧ (0 ≤ (0 : Int) ∧ (0 : Int) < (σ.2.1 13 ((m_i σ 2 (0) 6).toNatClampNeg) : Int)) ∧ ∃ σ8, σ8 = m_set σ5 13 ((m_i σ 2 (0) 6).toNatClampNeg) ((Int32.ofInt 1).toNatClampNeg) (.inl (x2)) ∧ (0 ≤ (1 : Int) ∧ (1 : Int) < (σ5.2.1 13 ((m_i σ 2 (0) 6).toNatClampNeg) : Int)) ∧ ∃ σ11, σ11 = m_set σ8 13 ((m_i σ 2 (0) 6).toNatClampNeg) ((Int32.ofInt 2).toNatClampNeg) (.inl (x3)) ∧ (0 ≤ (2 : Int) ∧ (2 : Int) < (σ8.2.1 13 ((m_i σ 2 (0) 6).toNatClampNeg) : Int)) ∧ ∃ σ14, σ14 = m_set σ11 2 (0) (6) (.inl ((m_i σ11 2 (0) 6) + (Int32.ofInt 1))) ∧ w = (m_i σ14 2 (0) 6) ∧ σ' = σ14) ∨ (¬ ((m_i σ 2 (0) 6).toInt < (4 : Int)) ∧ w = (m_i σ 2 (0) 6) ∧ σ' = σ))))
theorem x31 {σ σ' : mS} {x1 : Int32} {x2 : Int32} {x3 : Int32} {w : Int32} (hs : HS σ) (h : ev_run sm_all 31 [rf 2 (0), .inl (x1), .inl (x2), .inl (x3)] σ (.inl (some (.inl w))) σ') : P31 σ x1 x2 x3 w σ' := by
  unfold P31
  obtain ⟨F, f, h⟩ := ei_go h z31_at
  replace h : EV F f 31 z31 0 [some (rf 2 (0)), some (.inl (x1)), some (.inl (x2)), some (.inl (x3)), none] [] σ (.inl (some (.inl w)), σ') := h
  replace h := ei_p h rfl rfl rfl rfl
  obtain ⟨f, g, h⟩ := h
  clear g
  replace h : EV F f 31 z31 1 [some (rf 2 (0)), some (.inl (x1)), some (.inl (x2)), some (.inl (x3)), none] [rf 2 (0)] σ (.inl (some (.inl w)), σ') := h
  replace h := ei_get h rfl rfl
  obtain ⟨f, g, h⟩ := h
  clear g
  replace h : EV F f 31 z31 4 [some (rf 2 (0)), some (.inl (x1)), some (.inl (x2)), some (.inl (x3)), none] [.inl (m_i σ 2 (0) 6)] σ (.inl (some (.inl w)), σ') := h
  replace h := ei_c h rfl rfl rfl
  rcases h with ⟨hp1, f, g, h⟩ | ⟨hp1, f, g, h⟩
  · skip
    replace hp1 : (m_i σ 2 (0) 6).toInt < (0 : Int) := ic_lt.mp hp1
    refine Or.inl ⟨hp1, ?_⟩
    clear g
    replace h : EV F f 31 z31 15 [some (rf 2 (0)), some (.inl (x1)), some (.inl (x2)), some (.inl (x3)), none] [] σ (.inl (some (.inl w)), σ') := h
    replace h := ei_p h rfl rfl rfl rfl
    obtain ⟨f, g, h⟩ := h
    clear g
    replace h : EV F f 31 z31 16 [some (rf 2 (0)), some (.inl (x1)), some (.inl (x2)), some (.inl (x3)), none] [rf 2 (0)] σ (.inl (some (.inl w)), σ') := h
    replace h := ei_get h rfl rfl
    obtain ⟨f, g, h⟩ := h
    clear g
    replace h : EV F f 31 z31 19 [some (rf 2 (0)), some (.inl (x1)), some (.inl (x2)), some (.inl (x3)), none] [.inl (m_i σ 2 (0) 6)] σ (.inl (some (.inl w)), σ') := h
    have e := ei_iret h rfl
    cases e
    exact ⟨rfl, rfl⟩
  · skip
    replace hp1 : ¬ ((m_i σ 2 (0) 6).toInt < (0 : Int)) := (not_congr ic_lt).mp hp1
    refine Or.inr ⟨hp1, ?_⟩
    clear g
    replace h : EV F f 31 z31 7 [some (rf 2 (0)), some (.inl (x1)), some (.inl (x2)), some (.inl (x3)), none] [] σ (.inl (some (.inl w)), σ') := h
    replace h := ei_p h rfl rfl rfl rfl
    obtain ⟨f, g, h⟩ := h
    clear g
    replace h : EV F f 31 z31 8 [some (rf 2 (0)), some (.inl (x1)), some (.inl (x2)), some (.inl (x3)), none] [rf 2 (0)] σ (.inl (some (.inl w)), σ') := h
    replace h := ei_get h rfl rfl
    obtain ⟨f, g, h⟩ := h
    clear g
    replace h : EV F f 31 z31 11 [some (rf 2 (0)), some (.inl (x1)), some (.inl (x2)), some (.inl (x3)), none] [.inl (m_i σ 2 (0) 6)] σ (.inl (some (.inl w)), σ') := h
    replace h := ei_p h rfl rfl rfl rfl
    obtain ⟨f, g, h⟩ := h
    clear g
    replace h : EV F f 31 z31 12 [some (rf 2 (0)), some (.inl (x1)), some (.inl (x2)), some (.inl (x3)), none] [.inl (Int32.ofInt 4), .inl (m_i σ 2 (0) 6)] σ (.inl (some (.inl w)), σ') := h
    replace h := ei_c h rfl rfl rfl
    rcases h with ⟨hp2, f, g, h⟩ | ⟨hp2, f, g, h⟩
    · skip
      replace hp2 : (m_i σ 2 (0) 6).toInt < (4 : Int) := ic_lt.mp hp2
      refine Or.inl ⟨hp2, ?_⟩
      clear g
      replace h : EV F f 31 z31 20 [some (rf 2 (0)), some (.inl (x1)), some (.inl (x2)), some (.inl (x3)), none] [] σ (.inl (some (.inl w)), σ') := h
      replace h := ei_p h rfl rfl rfl rfl
      obtain ⟨f, g, h⟩ := h
      clear g
      replace h : EV F f 31 z31 21 [some (rf 2 (0)), some (.inl (x1)), some (.inl (x2)), some (.inl (x3)), none] [rf 2 (0)] σ (.inl (some (.inl w)), σ') := h
      replace h := ei_get h rfl (HS_g2_4 hs)
      obtain ⟨f, g, h⟩ := h
      clear g
      replace h : EV F f 31 z31 24 [some (rf 2 (0)), some (.inl (x1)), some (.inl (x2)), some (.inl (x3)), none] [rf 21 (0)] σ (.inl (some (.inl w)), σ') := h
      replace h := ei_p h rfl rfl rfl rfl
      obtain ⟨f, g, h⟩ := h
      clear g
      replace h : EV F f 31 z31 25 [some (rf 2 (0)), some (.inl (x1)), some (.inl (x2)), some (.inl (x3)), none] [rf 2 (0), rf 21 (0)] σ (.inl (some (.inl w)), σ') := h
      replace h := ei_get h rfl rfl
      obtain ⟨f, g, h⟩ := h
      clear g
      replace h : EV F f 31 z31 28 [some (rf 2 (0)), some (.inl (x1)), some (.inl (x2)), some (.inl (x3)), none] [.inl (m_i σ 2 (0) 6), rf 21 (0)] σ (.inl (some (.inl w)), σ') := h
      replace h := ei_ald h rfl (HS_a21 hs)
      obtain ⟨vp3, f, g, h⟩ := h
      clear g
      replace h : EV F f 31 z31 29 [some (rf 2 (0)), some (.inl (x1)), some (.inl (x2)), some (.inl (x3)), none] [rf 13 ((m_i σ 2 (0) 6).toNatClampNeg)] σ (.inl (some (.inl w)), σ') := h
      refine ⟨HS_v21 hs vp3, ?_⟩
      replace h := ei_p h rfl rfl rfl rfl
      obtain ⟨f, g, h⟩ := h
      clear g
      replace h : EV F f 31 z31 31 [some (rf 2 (0)), some (.inl (x1)), some (.inl (x2)), some (.inl (x3)), some (rf 13 ((m_i σ 2 (0) 6).toNatClampNeg))] [] σ (.inl (some (.inl w)), σ') := h
      replace h := ei_p h rfl rfl rfl rfl
      obtain ⟨f, g, h⟩ := h
      clear g
      replace h : EV F f 31 z31 33 [some (rf 2 (0)), some (.inl (x1)), some (.inl (x2)), some (.inl (x3)), some (rf 13 ((m_i σ 2 (0) 6).toNatClampNeg))] [rf 13 ((m_i σ 2 (0) 6).toNatClampNeg)] σ (.inl (some (.inl w)), σ') := h
      replace h := ei_p h rfl rfl rfl rfl
      obtain ⟨f, g, h⟩ := h
      clear g
      replace h : EV F f 31 z31 34 [some (rf 2 (0)), some (.inl (x1)), some (.inl (x2)), some (.inl (x3)), some (rf 13 ((m_i σ 2 (0) 6).toNatClampNeg))] [.inl (Int32.ofInt 0), rf 13 ((m_i σ 2 (0) 6).toNatClampNeg)] σ (.inl (some (.inl w)), σ') := h
      replace h := ei_p h rfl rfl rfl rfl
      obtain ⟨f, g, h⟩ := h
      clear g
      replace h : EV F f 31 z31 35 [some (rf 2 (0)), some (.inl (x1)), some (.inl (x2)), some (.inl (x3)), some (rf 13 ((m_i σ 2 (0) 6).toNatClampNeg))] [.inl (x1), .inl (Int32.ofInt 0), rf 13 ((m_i σ 2 (0) 6).toNatClampNeg)] σ (.inl (some (.inl w)), σ') := h
      replace h := ei_iast h rfl
      obtain ⟨ht4, f, g, h⟩ := h
      clear g
      obtain ⟨σ5, e6⟩ : ∃ s, s = m_set σ 13 ((m_i σ 2 (0) 6).toNatClampNeg) ((Int32.ofInt 0).toNatClampNeg) (.inl (x1)) := ⟨_, rfl⟩
      rw [← e6] at h
      have hsσ5 : HS σ5 := by rw [e6]; exact HS_set hs rfl
      refine ⟨σ5, e6, ?_⟩
      replace h : EV F f 31 z31 36 [some (rf 2 (0)), some (.inl (x1)), some (.inl (x2)), some (.inl (x3)), some (rf 13 ((m_i σ 2 (0) 6).toNatClampNeg))] [] σ5 (.inl (some (.inl w)), σ') := h
      refine ⟨vp_2 ht4, ?_⟩
      replace h := ei_p h rfl rfl rfl rfl
      obtain ⟨f, g, h⟩ := h
      clear g
      replace h : EV F f 31 z31 38 [some (rf 2 (0)), some (.inl (x1)), some (.inl (x2)), some (.inl (x3)), some (rf 13 ((m_i σ 2 (0) 6).toNatClampNeg))] [rf 13 ((m_i σ 2 (0) 6).toNatClampNeg)] σ5 (.inl (some (.inl w)), σ') := h
      replace h := ei_p h rfl rfl rfl rfl
      obtain ⟨f, g, h⟩ := h
      clear g
      replace h : EV F f 31 z31 39 [some (rf 2 (0)), some (.inl (x1)), some (.inl (x2)), some (.inl (x3)), some (rf 13 ((m_i σ 2 (0) 6).toNatClampNeg))] [.inl (Int32.ofInt 1), rf 13 ((m_i σ 2 (0) 6).toNatClampNeg)] σ5 (.inl (some (.inl w)), σ') := h
      replace h := ei_p h rfl rfl rfl rfl
      obtain ⟨f, g, h⟩ := h
      clear g
      replace h : EV F f 31 z31 40 [some (rf 2 (0)), some (.inl (x1)), some (.inl (x2)), some (.inl (x3)), some (rf 13 ((m_i σ 2 (0) 6).toNatClampNeg))] [.inl (x2), .inl (Int32.ofInt 1), rf 13 ((m_i σ 2 (0) 6).toNatClampNeg)] σ5 (.inl (some (.inl w)), σ') := h
      replace h := ei_iast h rfl
      obtain ⟨ht7, f, g, h⟩ := h
      clear g
      obtain ⟨σ8, e9⟩ : ∃ s, s = m_set σ5 13 ((m_i σ 2 (0) 6).toNatClampNeg) ((Int32.ofInt 1).toNatClampNeg) (.inl (x2)) := ⟨_, rfl⟩
      rw [← e9] at h
      have hsσ8 : HS σ8 := by rw [e9]; exact HS_set hsσ5 rfl
      refine ⟨σ8, e9, ?_⟩
      replace h : EV F f 31 z31 41 [some (rf 2 (0)), some (.inl (x1)), some (.inl (x2)), some (.inl (x3)), some (rf 13 ((m_i σ 2 (0) 6).toNatClampNeg))] [] σ8 (.inl (some (.inl w)), σ') := h
      refine ⟨vp_2 ht7, ?_⟩
      replace h := ei_p h rfl rfl rfl rfl
      obtain ⟨f, g, h⟩ := h
      clear g
      replace h : EV F f 31 z31 43 [some (rf 2 (0)), some (.inl (x1)), some (.inl (x2)), some (.inl (x3)), some (rf 13 ((m_i σ 2 (0) 6).toNatClampNeg))] [rf 13 ((m_i σ 2 (0) 6).toNatClampNeg)] σ8 (.inl (some (.inl w)), σ') := h
      replace h := ei_p h rfl rfl rfl rfl
      obtain ⟨f, g, h⟩ := h
      clear g
      replace h : EV F f 31 z31 44 [some (rf 2 (0)), some (.inl (x1)), some (.inl (x2)), some (.inl (x3)), some (rf 13 ((m_i σ 2 (0) 6).toNatClampNeg))] [.inl (Int32.ofInt 2), rf 13 ((m_i σ 2 (0) 6).toNatClampNeg)] σ8 (.inl (some (.inl w)), σ') := h
      replace h := ei_p h rfl rfl rfl rfl
      obtain ⟨f, g, h⟩ := h
      clear g
      replace h : EV F f 31 z31 45 [some (rf 2 (0)), some (.inl (x1)), some (.inl (x2)), some (.inl (x3)), some (rf 13 ((m_i σ 2 (0) 6).toNatClampNeg))] [.inl (x3), .inl (Int32.ofInt 2), rf 13 ((m_i σ 2 (0) 6).toNatClampNeg)] σ8 (.inl (some (.inl w)), σ') := h
      replace h := ei_iast h rfl
      obtain ⟨ht10, f, g, h⟩ := h
      clear g
      obtain ⟨σ11, e12⟩ : ∃ s, s = m_set σ8 13 ((m_i σ 2 (0) 6).toNatClampNeg) ((Int32.ofInt 2).toNatClampNeg) (.inl (x3)) := ⟨_, rfl⟩
      rw [← e12] at h
      have hsσ11 : HS σ11 := by rw [e12]; exact HS_set hsσ8 rfl
      refine ⟨σ11, e12, ?_⟩
      replace h : EV F f 31 z31 46 [some (rf 2 (0)), some (.inl (x1)), some (.inl (x2)), some (.inl (x3)), some (rf 13 ((m_i σ 2 (0) 6).toNatClampNeg))] [] σ11 (.inl (some (.inl w)), σ') := h
      refine ⟨vp_2 ht10, ?_⟩
      replace h := ei_p h rfl rfl rfl rfl
      obtain ⟨f, g, h⟩ := h
      clear g
      replace h : EV F f 31 z31 47 [some (rf 2 (0)), some (.inl (x1)), some (.inl (x2)), some (.inl (x3)), some (rf 13 ((m_i σ 2 (0) 6).toNatClampNeg))] [rf 2 (0)] σ11 (.inl (some (.inl w)), σ') := h
      replace h := ei_p h rfl rfl rfl rfl
      obtain ⟨f, g, h⟩ := h
      clear g
      replace h : EV F f 31 z31 48 [some (rf 2 (0)), some (.inl (x1)), some (.inl (x2)), some (.inl (x3)), some (rf 13 ((m_i σ 2 (0) 6).toNatClampNeg))] [rf 2 (0), rf 2 (0)] σ11 (.inl (some (.inl w)), σ') := h
      replace h := ei_get h rfl rfl
      obtain ⟨f, g, h⟩ := h
      clear g
      replace h : EV F f 31 z31 51 [some (rf 2 (0)), some (.inl (x1)), some (.inl (x2)), some (.inl (x3)), some (rf 13 ((m_i σ 2 (0) 6).toNatClampNeg))] [.inl (m_i σ11 2 (0) 6), rf 2 (0)] σ11 (.inl (some (.inl w)), σ') := h
      replace h := ei_p h rfl rfl rfl rfl
      obtain ⟨f, g, h⟩ := h
      clear g
      replace h : EV F f 31 z31 52 [some (rf 2 (0)), some (.inl (x1)), some (.inl (x2)), some (.inl (x3)), some (rf 13 ((m_i σ 2 (0) 6).toNatClampNeg))] [.inl (Int32.ofInt 1), .inl (m_i σ11 2 (0) 6), rf 2 (0)] σ11 (.inl (some (.inl w)), σ') := h
      replace h := ei_p h rfl rfl rfl rfl
      obtain ⟨f, g, h⟩ := h
      clear g
      replace h : EV F f 31 z31 53 [some (rf 2 (0)), some (.inl (x1)), some (.inl (x2)), some (.inl (x3)), some (rf 13 ((m_i σ 2 (0) 6).toNatClampNeg))] [.inl ((m_i σ11 2 (0) 6) + (Int32.ofInt 1)), rf 2 (0)] σ11 (.inl (some (.inl w)), σ') := h
      replace h := ei_put h rfl
      obtain ⟨ht13, f, g, h⟩ := h
      clear g
      obtain ⟨σ14, e15⟩ : ∃ s, s = m_set σ11 2 (0) (6) (.inl ((m_i σ11 2 (0) 6) + (Int32.ofInt 1))) := ⟨_, rfl⟩
      rw [← e15] at h
      have hsσ14 : HS σ14 := by rw [e15]; exact HS_set hsσ11 rfl
      refine ⟨σ14, e15, ?_⟩
      replace h : EV F f 31 z31 56 [some (rf 2 (0)), some (.inl (x1)), some (.inl (x2)), some (.inl (x3)), some (rf 13 ((m_i σ 2 (0) 6).toNatClampNeg))] [] σ14 (.inl (some (.inl w)), σ') := h
      replace h := ei_p h rfl rfl rfl rfl
      obtain ⟨f, g, h⟩ := h
      clear g
      replace h : EV F f 31 z31 57 [some (rf 2 (0)), some (.inl (x1)), some (.inl (x2)), some (.inl (x3)), some (rf 13 ((m_i σ 2 (0) 6).toNatClampNeg))] [rf 2 (0)] σ14 (.inl (some (.inl w)), σ') := h
      replace h := ei_get h rfl rfl
      obtain ⟨f, g, h⟩ := h
      clear g
      replace h : EV F f 31 z31 60 [some (rf 2 (0)), some (.inl (x1)), some (.inl (x2)), some (.inl (x3)), some (rf 13 ((m_i σ 2 (0) 6).toNatClampNeg))] [.inl (m_i σ14 2 (0) 6)] σ14 (.inl (some (.inl w)), σ') := h
      have e := ei_iret h rfl
      cases e
      exact ⟨rfl, rfl⟩
    · skip
      replace hp2 : ¬ ((m_i σ 2 (0) 6).toInt < (4 : Int)) := (not_congr ic_lt).mp hp2
      refine Or.inr ⟨hp2, ?_⟩
      clear g
      replace h : EV F f 31 z31 15 [some (rf 2 (0)), some (.inl (x1)), some (.inl (x2)), some (.inl (x3)), none] [] σ (.inl (some (.inl w)), σ') := h
      replace h := ei_p h rfl rfl rfl rfl
      obtain ⟨f, g, h⟩ := h
      clear g
      replace h : EV F f 31 z31 16 [some (rf 2 (0)), some (.inl (x1)), some (.inl (x2)), some (.inl (x3)), none] [rf 2 (0)] σ (.inl (some (.inl w)), σ') := h
      replace h := ei_get h rfl rfl
      obtain ⟨f, g, h⟩ := h
      clear g
      replace h : EV F f 31 z31 19 [some (rf 2 (0)), some (.inl (x1)), some (.inl (x2)), some (.inl (x3)), none] [.inl (m_i σ 2 (0) 6)] σ (.inl (some (.inl w)), σ') := h
      have e := ei_iret h rfl
      cases e
      exact ⟨rfl, rfl⟩
def z95 : mAl := ((yX6_rate, cX6_rate, 1, (some .int), { frames := 0, cells := 0, slots := 0, locals := 0 }, []), rw_X6_rate, false)
theorem z95_at : m_alF[95]? = some z95 := rfl
def P95 (σ : mS) (a : Nat) (w : Int32) : Prop := (((m_l σ 6 (a) 5).toInt < (Int64.ofInt 5000).toInt ∧ (((m_l σ 6 (a) 5).toInt < (Int64.ofInt 1000).toInt ∧ w = (Int32.ofInt 10)) ∨ (¬ ((m_l σ 6 (a) 5).toInt < (Int64.ofInt 1000).toInt) ∧ w = (Int32.ofInt 8)))) ∨ (¬ ((m_l σ 6 (a) 5).toInt < (Int64.ofInt 5000).toInt) ∧ w = (Int32.ofInt 5)))
theorem x95 {σ σ' : mS} {a : Nat} {w : Int32} (hs : HS σ) (h : ev_run sm_all 95 [rf 6 (a)] σ (.inl (some (.inl w))) σ') : P95 σ a w := by
  unfold P95
  obtain ⟨F, f, h⟩ := ei_go h z95_at
  replace h : EV F f 95 z95 0 [some (rf 6 (a))] [] σ (.inl (some (.inl w)), σ') := h
  replace h := ei_p h rfl rfl rfl rfl
  obtain ⟨f, g, h⟩ := h
  clear g
  replace h : EV F f 95 z95 1 [some (rf 6 (a))] [rf 6 (a)] σ (.inl (some (.inl w)), σ') := h
  replace h := ei_get h rfl rfl
  obtain ⟨f, g, h⟩ := h
  clear g
  replace h : EV F f 95 z95 4 [some (rf 6 (a))] [.inr (.inl (m_l σ 6 (a) 5))] σ (.inl (some (.inl w)), σ') := h
  replace h := ei_p h rfl rfl rfl rfl
  obtain ⟨f, g, h⟩ := h
  clear g
  replace h : EV F f 95 z95 7 [some (rf 6 (a))] [.inr (.inl (Int64.ofInt 5000)), .inr (.inl (m_l σ 6 (a) 5))] σ (.inl (some (.inl w)), σ') := h
  replace h := ei_p h rfl rfl rfl rfl
  obtain ⟨f, g, h⟩ := h
  clear g
  replace h : EV F f 95 z95 8 [some (rf 6 (a))] [.inl (lg_cmp (m_l σ 6 (a) 5) (Int64.ofInt 5000))] σ (.inl (some (.inl w)), σ') := h
  replace h := ei_c h rfl rfl rfl
  rcases h with ⟨hp1, f, g, h⟩ | ⟨hp1, f, g, h⟩
  · skip
    replace hp1 : (m_l σ 6 (a) 5).toInt < (Int64.ofInt 5000).toInt := (ab_lc .lt _ _).mp hp1
    refine Or.inl ⟨hp1, ?_⟩
    clear g
    replace h : EV F f 95 z95 13 [some (rf 6 (a))] [] σ (.inl (some (.inl w)), σ') := h
    replace h := ei_p h rfl rfl rfl rfl
    obtain ⟨f, g, h⟩ := h
    clear g
    replace h : EV F f 95 z95 14 [some (rf 6 (a))] [rf 6 (a)] σ (.inl (some (.inl w)), σ') := h
    replace h := ei_get h rfl rfl
    obtain ⟨f, g, h⟩ := h
    clear g
    replace h : EV F f 95 z95 17 [some (rf 6 (a))] [.inr (.inl (m_l σ 6 (a) 5))] σ (.inl (some (.inl w)), σ') := h
    replace h := ei_p h rfl rfl rfl rfl
    obtain ⟨f, g, h⟩ := h
    clear g
    replace h : EV F f 95 z95 20 [some (rf 6 (a))] [.inr (.inl (Int64.ofInt 1000)), .inr (.inl (m_l σ 6 (a) 5))] σ (.inl (some (.inl w)), σ') := h
    replace h := ei_p h rfl rfl rfl rfl
    obtain ⟨f, g, h⟩ := h
    clear g
    replace h : EV F f 95 z95 21 [some (rf 6 (a))] [.inl (lg_cmp (m_l σ 6 (a) 5) (Int64.ofInt 1000))] σ (.inl (some (.inl w)), σ') := h
    replace h := ei_c h rfl rfl rfl
    rcases h with ⟨hp2, f, g, h⟩ | ⟨hp2, f, g, h⟩
    · skip
      replace hp2 : (m_l σ 6 (a) 5).toInt < (Int64.ofInt 1000).toInt := (ab_lc .lt _ _).mp hp2
      refine Or.inl ⟨hp2, ?_⟩
      clear g
      replace h : EV F f 95 z95 29 [some (rf 6 (a))] [] σ (.inl (some (.inl w)), σ') := h
      replace h := ei_p h rfl rfl rfl rfl
      obtain ⟨f, g, h⟩ := h
      clear g
      replace h : EV F f 95 z95 31 [some (rf 6 (a))] [.inl (Int32.ofInt 10)] σ (.inl (some (.inl w)), σ') := h
      have e := ei_iret h rfl
      cases e
      exact rfl
    · skip
      replace hp2 : ¬ ((m_l σ 6 (a) 5).toInt < (Int64.ofInt 1000).toInt) := (not_congr (ab_lc .lt _ _)).mp hp2
      refine Or.inr ⟨hp2, ?_⟩
      clear g
      replace h : EV F f 95 z95 24 [some (rf 6 (a))] [] σ (.inl (some (.inl w)), σ') := h
      replace h := ei_p h rfl rfl rfl rfl
      obtain ⟨f, g, h⟩ := h
      clear g
      replace h : EV F f 95 z95 26 [some (rf 6 (a))] [.inl (Int32.ofInt 8)] σ (.inl (some (.inl w)), σ') := h
      replace h := ei_p h rfl rfl rfl rfl
      obtain ⟨f, g, h⟩ := h
      clear g
      replace h : EV F f 95 z95 31 [some (rf 6 (a))] [.inl (Int32.ofInt 8)] σ (.inl (some (.inl w)), σ') := h
      have e := ei_iret h rfl
      cases e
      exact rfl
  · skip
    replace hp1 : ¬ ((m_l σ 6 (a) 5).toInt < (Int64.ofInt 5000).toInt) := (not_congr (ab_lc .lt _ _)).mp hp1
    refine Or.inr ⟨hp1, ?_⟩
    clear g
    replace h : EV F f 95 z95 11 [some (rf 6 (a))] [] σ (.inl (some (.inl w)), σ') := h
    replace h := ei_p h rfl rfl rfl rfl
    obtain ⟨f, g, h⟩ := h
    clear g
    replace h : EV F f 95 z95 12 [some (rf 6 (a))] [.inl (Int32.ofInt 5)] σ (.inl (some (.inl w)), σ') := h
    have e := ei_iret h rfl
    cases e
    exact rfl
def z91 : mAl := ((yX6_take, cX6_take, 6, none, { frames := 0, cells := 0, slots := 0, locals := 0 }, []), rw_X6_take, false)
theorem z91_at : m_alF[91]? = some z91 := rfl
abbrev L91 : List (Nat × Nat) := [(6, 2), (14, 0)]
abbrev w91 : Nat → Nat → Bool := wl L91
def S91 : List Nat := [91]
theorem W91 : fw_S w91 S91 = true := by decide +kernel
def P91 (σ : mS) (a : Nat) (x1 : Int32) (x2 : Int64) (x3 : Int64) (σ' : mS) : Prop := (((x1).toInt < (0 : Int) ∧ σ' = σ) ∨ (¬ ((x1).toInt < (0 : Int)) ∧ ∃ ci2 i2, m_r σ 6 (a) 1 = some (ci2, i2) ∧ (((Int32.ofNat (σ.2.1 ci2 (i2))).toInt ≤ (x1).toInt ∧ σ' = σ) ∨ (¬ ((Int32.ofNat (σ.2.1 ci2 (i2))).toInt ≤ (x1).toInt) ∧ ∃ i5, m_r σ 6 (a) 1 = some (14, i5) ∧ (0 ≤ (x1).toInt ∧ (x1).toInt < (σ.2.1 14 (i5) : Int)) ∧ ∃ σ9, σ9 = m_set σ 14 (i5) ((x1).toNatClampNeg) (.inr (.inl ((m_l σ 14 (i5) (x1).toNatClampNeg) + (x2)))) ∧ (0 ≤ (x1).toInt ∧ (x1).toInt < (σ.2.1 14 (i5) : Int)) ∧ ∃ σ12, σ12 = m_set σ9 6 (a) (2) (.inr (.inl ((m_l σ9 6 (a) 2) + (x3)))) ∧ σ' = σ12))))
theorem x91 {σ σ' : mS} {a : Nat} {x1 : Int32} {x2 : Int64} {x3 : Int64} (hs : HS σ) (h : ev_run sm_all 91 [rf 6 (a), .inl (x1), .inr (.inl (x2)), .inr (.inl (x3))] σ (.inl none) σ') : P91 σ a x1 x2 x3 σ' := by
  unfold P91
  obtain ⟨F, f, h⟩ := ei_go h z91_at
  replace h : EV F f 91 z91 0 [some (rf 6 (a)), some (.inl (x1)), some (.inr (.inl (x2))), none, some (.inr (.inl (x3))), none] [] σ (.inl none, σ') := h
  replace h := ei_p h rfl rfl rfl rfl
  obtain ⟨f, g, h⟩ := h
  clear g
  replace h : EV F f 91 z91 1 [some (rf 6 (a)), some (.inl (x1)), some (.inr (.inl (x2))), none, some (.inr (.inl (x3))), none] [.inl (x1)] σ (.inl none, σ') := h
  replace h := ei_c h rfl rfl rfl
  rcases h with ⟨hp1, f, g, h⟩ | ⟨hp1, f, g, h⟩
  · skip
    replace hp1 : (x1).toInt < (0 : Int) := ic_lt.mp hp1
    refine Or.inl ⟨hp1, ?_⟩
    clear g
    replace h : EV F f 91 z91 34 [some (rf 6 (a)), some (.inl (x1)), some (.inr (.inl (x2))), none, some (.inr (.inl (x3))), none] [] σ (.inl none, σ') := h
    have e := ei_ret h rfl
    cases e
    exact rfl
  · skip
    replace hp1 : ¬ ((x1).toInt < (0 : Int)) := (not_congr ic_lt).mp hp1
    refine Or.inr ⟨hp1, ?_⟩
    clear g
    replace h : EV F f 91 z91 4 [some (rf 6 (a)), some (.inl (x1)), some (.inr (.inl (x2))), none, some (.inr (.inl (x3))), none] [] σ (.inl none, σ') := h
    replace h := ei_p h rfl rfl rfl rfl
    obtain ⟨f, g, h⟩ := h
    clear g
    replace h : EV F f 91 z91 5 [some (rf 6 (a)), some (.inl (x1)), some (.inr (.inl (x2))), none, some (.inr (.inl (x3))), none] [.inl (x1)] σ (.inl none, σ') := h
    replace h := ei_p h rfl rfl rfl rfl
    obtain ⟨f, g, h⟩ := h
    clear g
    replace h : EV F f 91 z91 6 [some (rf 6 (a)), some (.inl (x1)), some (.inr (.inl (x2))), none, some (.inr (.inl (x3))), none] [rf 6 (a), .inl (x1)] σ (.inl none, σ') := h
    replace h := ei_get h rfl rfl
    obtain ⟨f, g, h⟩ := h
    clear g
    replace h : EV F f 91 z91 9 [some (rf 6 (a)), some (.inl (x1)), some (.inr (.inl (x2))), none, some (.inr (.inl (x3))), none] [.inr (.inr (m_r σ 6 (a) 1)), .inl (x1)] σ (.inl none, σ') := h
    obtain ⟨ci2, i2, e3⟩ := ei_lp h rfl
    rw [e3.1] at h
    refine ⟨ci2, i2, e3.1, ?_⟩
    replace h : EV F f 91 z91 9 [some (rf 6 (a)), some (.inl (x1)), some (.inr (.inl (x2))), none, some (.inr (.inl (x3))), none] [rf ci2 (i2), .inl (x1)] σ (.inl none, σ') := h
    replace h := ei_len h rfl rfl e3.2
    obtain ⟨f, g, h⟩ := h
    clear g
    replace h : EV F f 91 z91 10 [some (rf 6 (a)), some (.inl (x1)), some (.inr (.inl (x2))), none, some (.inr (.inl (x3))), none] [.inl (Int32.ofNat (σ.2.1 ci2 (i2))), .inl (x1)] σ (.inl none, σ') := h
    replace h := ei_c h rfl rfl rfl
    rcases h with ⟨hp4, f, g, h⟩ | ⟨hp4, f, g, h⟩
    · skip
      replace hp4 : (Int32.ofNat (σ.2.1 ci2 (i2))).toInt ≤ (x1).toInt := ic_ge.mp hp4
      refine Or.inl ⟨hp4, ?_⟩
      clear g
      replace h : EV F f 91 z91 34 [some (rf 6 (a)), some (.inl (x1)), some (.inr (.inl (x2))), none, some (.inr (.inl (x3))), none] [] σ (.inl none, σ') := h
      have e := ei_ret h rfl
      cases e
      exact rfl
    · skip
      replace hp4 : ¬ ((Int32.ofNat (σ.2.1 ci2 (i2))).toInt ≤ (x1).toInt) := (not_congr ic_ge).mp hp4
      refine Or.inr ⟨hp4, ?_⟩
      clear g
      replace h : EV F f 91 z91 13 [some (rf 6 (a)), some (.inl (x1)), some (.inr (.inl (x2))), none, some (.inr (.inl (x3))), none] [] σ (.inl none, σ') := h
      replace h := ei_p h rfl rfl rfl rfl
      obtain ⟨f, g, h⟩ := h
      clear g
      replace h : EV F f 91 z91 14 [some (rf 6 (a)), some (.inl (x1)), some (.inr (.inl (x2))), none, some (.inr (.inl (x3))), none] [rf 6 (a)] σ (.inl none, σ') := h
      replace h := ei_get h rfl rfl
      obtain ⟨f, g, h⟩ := h
      clear g
      replace h : EV F f 91 z91 17 [some (rf 6 (a)), some (.inl (x1)), some (.inr (.inl (x2))), none, some (.inr (.inl (x3))), none] [.inr (.inr (m_r σ 6 (a) 1))] σ (.inl none, σ') := h
      replace h := ei_p h rfl rfl rfl rfl
      obtain ⟨f, g, h⟩ := h
      clear g
      replace h : EV F f 91 z91 18 [some (rf 6 (a)), some (.inl (x1)), some (.inr (.inl (x2))), none, some (.inr (.inl (x3))), none] [.inl (x1), .inr (.inr (m_r σ 6 (a) 1))] σ (.inl none, σ') := h
      replace h := ei_p h rfl rfl rfl rfl
      obtain ⟨f, g, h⟩ := h
      clear g
      replace h : EV F f 91 z91 19 [some (rf 6 (a)), some (.inl (x1)), some (.inr (.inl (x2))), none, some (.inr (.inl (x3))), none] [.inl (x1), .inr (.inr (m_r σ 6 (a) 1)), .inl (x1), .inr (.inr (m_r σ 6 (a) 1))] σ (.inl none, σ') := h
      obtain ⟨i5, e6⟩ := ei_lap h rfl
      rw [e6] at h
      refine ⟨i5, e6, ?_⟩
      replace h : EV F f 91 z91 19 [some (rf 6 (a)), some (.inl (x1)), some (.inr (.inl (x2))), none, some (.inr (.inl (x3))), none] [.inl (x1), rf 14 (i5), .inl (x1), rf 14 (i5)] σ (.inl none, σ') := h
      replace h := ei_lald h rfl (fun _ => rfl)
      obtain ⟨vp7, f, g, h⟩ := h
      clear g
      replace h : EV F f 91 z91 20 [some (rf 6 (a)), some (.inl (x1)), some (.inr (.inl (x2))), none, some (.inr (.inl (x3))), none] [.inr (.inl (m_l σ 14 (i5) (x1).toNatClampNeg)), .inl (x1), rf 14 (i5)] σ (.inl none, σ') := h
      refine ⟨vp_2 vp7, ?_⟩
      replace h := ei_p h rfl rfl rfl rfl
      obtain ⟨f, g, h⟩ := h
      clear g
      replace h : EV F f 91 z91 21 [some (rf 6 (a)), some (.inl (x1)), some (.inr (.inl (x2))), none, some (.inr (.inl (x3))), none] [.inr (.inl (x2)), .inr (.inl (m_l σ 14 (i5) (x1).toNatClampNeg)), .inl (x1), rf 14 (i5)] σ (.inl none, σ') := h
      replace h := ei_p h rfl rfl rfl rfl
      obtain ⟨f, g, h⟩ := h
      clear g
      replace h : EV F f 91 z91 22 [some (rf 6 (a)), some (.inl (x1)), some (.inr (.inl (x2))), none, some (.inr (.inl (x3))), none] [.inr (.inl ((m_l σ 14 (i5) (x1).toNatClampNeg) + (x2))), .inl (x1), rf 14 (i5)] σ (.inl none, σ') := h
      replace h := ei_last h rfl
      obtain ⟨ht8, f, g, h⟩ := h
      clear g
      obtain ⟨σ9, e10⟩ : ∃ s, s = m_set σ 14 (i5) ((x1).toNatClampNeg) (.inr (.inl ((m_l σ 14 (i5) (x1).toNatClampNeg) + (x2)))) := ⟨_, rfl⟩
      rw [← e10] at h
      have hsσ9 : HS σ9 := by rw [e10]; exact HS_set hs rfl
      refine ⟨σ9, e10, ?_⟩
      replace h : EV F f 91 z91 23 [some (rf 6 (a)), some (.inl (x1)), some (.inr (.inl (x2))), none, some (.inr (.inl (x3))), none] [] σ9 (.inl none, σ') := h
      refine ⟨vp_2 ht8, ?_⟩
      replace h := ei_p h rfl rfl rfl rfl
      obtain ⟨f, g, h⟩ := h
      clear g
      replace h : EV F f 91 z91 24 [some (rf 6 (a)), some (.inl (x1)), some (.inr (.inl (x2))), none, some (.inr (.inl (x3))), none] [rf 6 (a)] σ9 (.inl none, σ') := h
      replace h := ei_p h rfl rfl rfl rfl
      obtain ⟨f, g, h⟩ := h
      clear g
      replace h : EV F f 91 z91 25 [some (rf 6 (a)), some (.inl (x1)), some (.inr (.inl (x2))), none, some (.inr (.inl (x3))), none] [rf 6 (a), rf 6 (a)] σ9 (.inl none, σ') := h
      replace h := ei_get h rfl rfl
      obtain ⟨f, g, h⟩ := h
      clear g
      replace h : EV F f 91 z91 28 [some (rf 6 (a)), some (.inl (x1)), some (.inr (.inl (x2))), none, some (.inr (.inl (x3))), none] [.inr (.inl (m_l σ9 6 (a) 2)), rf 6 (a)] σ9 (.inl none, σ') := h
      replace h := ei_p h rfl rfl rfl rfl
      obtain ⟨f, g, h⟩ := h
      clear g
      replace h : EV F f 91 z91 30 [some (rf 6 (a)), some (.inl (x1)), some (.inr (.inl (x2))), none, some (.inr (.inl (x3))), none] [.inr (.inl (x3)), .inr (.inl (m_l σ9 6 (a) 2)), rf 6 (a)] σ9 (.inl none, σ') := h
      replace h := ei_p h rfl rfl rfl rfl
      obtain ⟨f, g, h⟩ := h
      clear g
      replace h : EV F f 91 z91 31 [some (rf 6 (a)), some (.inl (x1)), some (.inr (.inl (x2))), none, some (.inr (.inl (x3))), none] [.inr (.inl ((m_l σ9 6 (a) 2) + (x3))), rf 6 (a)] σ9 (.inl none, σ') := h
      replace h := ei_put h rfl
      obtain ⟨ht11, f, g, h⟩ := h
      clear g
      obtain ⟨σ12, e13⟩ : ∃ s, s = m_set σ9 6 (a) (2) (.inr (.inl ((m_l σ9 6 (a) 2) + (x3)))) := ⟨_, rfl⟩
      rw [← e13] at h
      have hsσ12 : HS σ12 := by rw [e13]; exact HS_set hsσ9 rfl
      refine ⟨σ12, e13, ?_⟩
      replace h : EV F f 91 z91 34 [some (rf 6 (a)), some (.inl (x1)), some (.inr (.inl (x2))), none, some (.inr (.inl (x3))), none] [] σ12 (.inl none, σ') := h
      have e := ei_ret h rfl
      cases e
      exact rfl
def z114 : mAl := ((yX8_tradedAt, cX8_tradedAt, 2, none, { frames := 0, cells := 0, slots := 0, locals := 0 }, []), rw_X8_tradedAt, false)
theorem z114_at : m_alF[114]? = some z114 := rfl
abbrev L114 : List (Nat × Nat) := [(8, 2), (8, 3), (8, 7)]
abbrev w114 : Nat → Nat → Bool := wl L114
def S114 : List Nat := [114]
theorem W114 : fw_S w114 S114 = true := by decide +kernel
def P114 (σ : mS) (a : Nat) (x1 : Int32) (σ' : mS) : Prop := ∃ σ2, σ2 = m_set σ 8 (a) (7) (.inl (Int32.ofInt 1)) ∧ ∃ σ5, σ5 = m_set σ2 8 (a) (2) (.inl (x1)) ∧ (((m_i σ5 8 (a) 3).toInt ≠ (0 : Int) ∧ σ' = σ5) ∨ (¬ ((m_i σ5 8 (a) 3).toInt ≠ (0 : Int)) ∧ ∃ σ9, σ9 = m_set σ5 8 (a) (3) (.inl (x1)) ∧ σ' = σ9))
theorem x114 {σ σ' : mS} {a : Nat} {x1 : Int32} (hs : HS σ) (h : ev_run sm_all 114 [rf 8 (a), .inl (x1)] σ (.inl none) σ') : P114 σ a x1 σ' := by
  unfold P114
  obtain ⟨F, f, h⟩ := ei_go h z114_at
  replace h : EV F f 114 z114 0 [some (rf 8 (a)), some (.inl (x1))] [] σ (.inl none, σ') := h
  replace h := ei_p h rfl rfl rfl rfl
  obtain ⟨f, g, h⟩ := h
  clear g
  replace h : EV F f 114 z114 1 [some (rf 8 (a)), some (.inl (x1))] [rf 8 (a)] σ (.inl none, σ') := h
  replace h := ei_p h rfl rfl rfl rfl
  obtain ⟨f, g, h⟩ := h
  clear g
  replace h : EV F f 114 z114 2 [some (rf 8 (a)), some (.inl (x1))] [.inl (Int32.ofInt 1), rf 8 (a)] σ (.inl none, σ') := h
  replace h := ei_put h rfl
  obtain ⟨ht1, f, g, h⟩ := h
  clear g
  obtain ⟨σ2, e3⟩ : ∃ s, s = m_set σ 8 (a) (7) (.inl (Int32.ofInt 1)) := ⟨_, rfl⟩
  rw [← e3] at h
  have hsσ2 : HS σ2 := by rw [e3]; exact HS_set hs rfl
  refine ⟨σ2, e3, ?_⟩
  replace h : EV F f 114 z114 5 [some (rf 8 (a)), some (.inl (x1))] [] σ2 (.inl none, σ') := h
  replace h := ei_p h rfl rfl rfl rfl
  obtain ⟨f, g, h⟩ := h
  clear g
  replace h : EV F f 114 z114 6 [some (rf 8 (a)), some (.inl (x1))] [rf 8 (a)] σ2 (.inl none, σ') := h
  replace h := ei_p h rfl rfl rfl rfl
  obtain ⟨f, g, h⟩ := h
  clear g
  replace h : EV F f 114 z114 7 [some (rf 8 (a)), some (.inl (x1))] [.inl (x1), rf 8 (a)] σ2 (.inl none, σ') := h
  replace h := ei_put h rfl
  obtain ⟨ht4, f, g, h⟩ := h
  clear g
  obtain ⟨σ5, e6⟩ : ∃ s, s = m_set σ2 8 (a) (2) (.inl (x1)) := ⟨_, rfl⟩
  rw [← e6] at h
  have hsσ5 : HS σ5 := by rw [e6]; exact HS_set hsσ2 rfl
  refine ⟨σ5, e6, ?_⟩
  replace h : EV F f 114 z114 10 [some (rf 8 (a)), some (.inl (x1))] [] σ5 (.inl none, σ') := h
  replace h := ei_p h rfl rfl rfl rfl
  obtain ⟨f, g, h⟩ := h
  clear g
  replace h : EV F f 114 z114 11 [some (rf 8 (a)), some (.inl (x1))] [rf 8 (a)] σ5 (.inl none, σ') := h
  replace h := ei_get h rfl rfl
  obtain ⟨f, g, h⟩ := h
  clear g
  replace h : EV F f 114 z114 14 [some (rf 8 (a)), some (.inl (x1))] [.inl (m_i σ5 8 (a) 3)] σ5 (.inl none, σ') := h
  replace h := ei_c h rfl rfl rfl
  rcases h with ⟨hp7, f, g, h⟩ | ⟨hp7, f, g, h⟩
  · skip
    replace hp7 : (m_i σ5 8 (a) 3).toInt ≠ (0 : Int) := ic_ne.mp hp7
    refine Or.inl ⟨hp7, ?_⟩
    clear g
    replace h : EV F f 114 z114 22 [some (rf 8 (a)), some (.inl (x1))] [] σ5 (.inl none, σ') := h
    have e := ei_ret h rfl
    cases e
    exact rfl
  · skip
    replace hp7 : ¬ ((m_i σ5 8 (a) 3).toInt ≠ (0 : Int)) := (not_congr ic_ne).mp hp7
    refine Or.inr ⟨hp7, ?_⟩
    clear g
    replace h : EV F f 114 z114 17 [some (rf 8 (a)), some (.inl (x1))] [] σ5 (.inl none, σ') := h
    replace h := ei_p h rfl rfl rfl rfl
    obtain ⟨f, g, h⟩ := h
    clear g
    replace h : EV F f 114 z114 18 [some (rf 8 (a)), some (.inl (x1))] [rf 8 (a)] σ5 (.inl none, σ') := h
    replace h := ei_p h rfl rfl rfl rfl
    obtain ⟨f, g, h⟩ := h
    clear g
    replace h : EV F f 114 z114 19 [some (rf 8 (a)), some (.inl (x1))] [.inl (x1), rf 8 (a)] σ5 (.inl none, σ') := h
    replace h := ei_put h rfl
    obtain ⟨ht8, f, g, h⟩ := h
    clear g
    obtain ⟨σ9, e10⟩ : ∃ s, s = m_set σ5 8 (a) (3) (.inl (x1)) := ⟨_, rfl⟩
    rw [← e10] at h
    have hsσ9 : HS σ9 := by rw [e10]; exact HS_set hsσ5 rfl
    refine ⟨σ9, e10, ?_⟩
    replace h : EV F f 114 z114 22 [some (rf 8 (a)), some (.inl (x1))] [] σ9 (.inl none, σ') := h
    have e := ei_ret h rfl
    cases e
    exact rfl
def z32 : mAl := ((yX2_makeTrade, cX2_makeTrade, 16, none, { frames := 1, cells := 0, slots := 0, locals := 25 }, []), rw_X2_makeTrade, false)
theorem z32_at : m_alF[32]? = some z32 := rfl
abbrev L32 : List (Nat × Nat) := [(2, 5), (6, 2), (6, 5), (8, 2), (8, 3), (8, 7), (10, 0), (10, 1), (10, 2), (10, 3), (10, 4), (10, 5), (10, 6), (10, 7), (10, 8), (10, 9), (14, 0)]
abbrev w32 : Nat → Nat → Bool := wl L32
def S32 : List Nat := [22, 32, 91, 95, 114]
theorem W32 : fw_S w32 S32 = true := by decide +kernel
def J32_203 (u1 : mR) (u2 : Int32) (u3 : Int32) (u7 : mR) (u8 : mR) (u9 : mR) (u10 : Int64) (t0 : Int64) (t1 : mR) (τ : mS) (σ' : mS) : Prop := ∃ i1, t1 = some (10, i1) ∧ ∃ σ4, σ4 = m_set τ 10 (i1) (8) (.inr (.inl (t0))) ∧ ∃ i6, u1 = some (8, i6) ∧ ∃ i8, u9 = some (10, i8) ∧ ∃ i10, u7 = some (6, i10) ∧ ∃ σ13, fw_e w91 σ4 σ13 ∧ P91 σ4 (i10) (m_i σ4 8 (i6) 0) ((u3).toInt64) ((-(u10)) - (m_l σ4 10 (i8) 7)) σ13 ∧ ∃ i16, u8 = some (6, i16) ∧ ∃ σ19, fw_e w91 σ13 σ19 ∧ P91 σ13 (i16) (m_i σ13 8 (i6) 0) ((-(u3)).toInt64) ((u10) - (m_l σ13 10 (i8) 8)) σ19 ∧ ∃ σ23, σ23 = m_set σ19 6 (0) (2) (.inr (.inl ((m_l σ19 6 (0) 2) + ((m_l σ19 10 (i8) 7) + (m_l σ19 10 (i8) 8))))) ∧ ∃ σ26, σ26 = m_set σ23 6 (i10) (5) (.inr (.inl ((m_l σ23 6 (i10) 5) + ((u3).toInt64)))) ∧ ∃ σ29, σ29 = m_set σ26 6 (i16) (5) (.inr (.inl ((m_l σ26 6 (i16) 5) + ((u3).toInt64)))) ∧ ∃ σ32, fw_e w114 σ29 σ32 ∧ P114 σ29 (i6) (u2) σ32 ∧ σ' = σ32
theorem j32_203 {F f : Nat} {σ' τ : mS} {u1 : mR} {u2 : Int32} {u3 : Int32} {u7 : mR} {u8 : mR} {u9 : mR} {u10 : Int64} {t0 : Int64} {t1 : mR} {y4 : Option mV} {y5 : Option mV} {y6 : Option mV} {y12 : Option mV} {y13 : Option mV} {y14 : Option mV} {y15 : Option mV} (hsτ : HS τ) (h : EV F f 32 z32 203 [some (rf 2 (0)), some (.inr (.inr (u1))), some (.inl (u2)), some (.inl (u3)), y4, y5, y6, some (.inr (.inr (u7))), some (.inr (.inr (u8))), some (.inr (.inr (u9))), some (.inr (.inl (u10))), none, y12, y13, y14, y15] [.inr (.inl (t0)), .inr (.inr (t1))] τ (.inl none, σ')) : J32_203 u1 u2 u3 u7 u8 u9 u10 t0 t1 τ σ' := by
  unfold J32_203
  obtain ⟨i1, e2⟩ := ei_pp h rfl
  rw [e2] at h
  refine ⟨i1, e2, ?_⟩
  replace h : EV F f 32 z32 203 [some (rf 2 (0)), some (.inr (.inr (u1))), some (.inl (u2)), some (.inl (u3)), y4, y5, y6, some (.inr (.inr (u7))), some (.inr (.inr (u8))), some (.inr (.inr (u9))), some (.inr (.inl (u10))), none, y12, y13, y14, y15] [.inr (.inl (t0)), rf 10 (i1)] τ (.inl none, σ') := h
  replace h := ei_put h rfl
  obtain ⟨ht3, f, g, h⟩ := h
  clear g
  obtain ⟨σ4, e5⟩ : ∃ s, s = m_set τ 10 (i1) (8) (.inr (.inl (t0))) := ⟨_, rfl⟩
  rw [← e5] at h
  have hsσ4 : HS σ4 := by rw [e5]; exact HS_set hsτ rfl
  refine ⟨σ4, e5, ?_⟩
  replace h : EV F f 32 z32 206 [some (rf 2 (0)), some (.inr (.inr (u1))), some (.inl (u2)), some (.inl (u3)), y4, y5, y6, some (.inr (.inr (u7))), some (.inr (.inr (u8))), some (.inr (.inr (u9))), some (.inr (.inl (u10))), none, y12, y13, y14, y15] [] σ4 (.inl none, σ') := h
  replace h := ei_p h rfl rfl rfl rfl
  obtain ⟨f, g, h⟩ := h
  clear g
  replace h : EV F f 32 z32 208 [some (rf 2 (0)), some (.inr (.inr (u1))), some (.inl (u2)), some (.inl (u3)), y4, y5, y6, some (.inr (.inr (u7))), some (.inr (.inr (u8))), some (.inr (.inr (u9))), some (.inr (.inl (u10))), none, y12, y13, y14, y15] [.inr (.inr (u7))] σ4 (.inl none, σ') := h
  replace h := ei_p h rfl rfl rfl rfl
  obtain ⟨f, g, h⟩ := h
  clear g
  replace h : EV F f 32 z32 209 [some (rf 2 (0)), some (.inr (.inr (u1))), some (.inl (u2)), some (.inl (u3)), y4, y5, y6, some (.inr (.inr (u7))), some (.inr (.inr (u8))), some (.inr (.inr (u9))), some (.inr (.inl (u10))), none, y12, y13, y14, y15] [.inr (.inr (u1)), .inr (.inr (u7))] σ4 (.inl none, σ') := h
  obtain ⟨i6, e7⟩ := ei_gp h rfl
  rw [e7] at h
  refine ⟨i6, e7, ?_⟩
  replace h : EV F f 32 z32 209 [some (rf 2 (0)), some (rf 8 (i6)), some (.inl (u2)), some (.inl (u3)), y4, y5, y6, some (.inr (.inr (u7))), some (.inr (.inr (u8))), some (.inr (.inr (u9))), some (.inr (.inl (u10))), none, y12, y13, y14, y15] [rf 8 (i6), .inr (.inr (u7))] σ4 (.inl none, σ') := h
  replace h := ei_get h rfl rfl
  obtain ⟨f, g, h⟩ := h
  clear g
  replace h : EV F f 32 z32 212 [some (rf 2 (0)), some (rf 8 (i6)), some (.inl (u2)), some (.inl (u3)), y4, y5, y6, some (.inr (.inr (u7))), some (.inr (.inr (u8))), some (.inr (.inr (u9))), some (.inr (.inl (u10))), none, y12, y13, y14, y15] [.inl (m_i σ4 8 (i6) 0), .inr (.inr (u7))] σ4 (.inl none, σ') := h
  replace h := ei_p h rfl rfl rfl rfl
  obtain ⟨f, g, h⟩ := h
  clear g
  replace h : EV F f 32 z32 213 [some (rf 2 (0)), some (rf 8 (i6)), some (.inl (u2)), some (.inl (u3)), y4, y5, y6, some (.inr (.inr (u7))), some (.inr (.inr (u8))), some (.inr (.inr (u9))), some (.inr (.inl (u10))), none, y12, y13, y14, y15] [.inl (u3), .inl (m_i σ4 8 (i6) 0), .inr (.inr (u7))] σ4 (.inl none, σ') := h
  replace h := ei_p h rfl rfl rfl rfl
  obtain ⟨f, g, h⟩ := h
  clear g
  replace h : EV F f 32 z32 214 [some (rf 2 (0)), some (rf 8 (i6)), some (.inl (u2)), some (.inl (u3)), y4, y5, y6, some (.inr (.inr (u7))), some (.inr (.inr (u8))), some (.inr (.inr (u9))), some (.inr (.inl (u10))), none, y12, y13, y14, y15] [.inr (.inl ((u3).toInt64)), .inl (m_i σ4 8 (i6) 0), .inr (.inr (u7))] σ4 (.inl none, σ') := h
  replace h := ei_p h rfl rfl rfl rfl
  obtain ⟨f, g, h⟩ := h
  clear g
  replace h : EV F f 32 z32 216 [some (rf 2 (0)), some (rf 8 (i6)), some (.inl (u2)), some (.inl (u3)), y4, y5, y6, some (.inr (.inr (u7))), some (.inr (.inr (u8))), some (.inr (.inr (u9))), some (.inr (.inl (u10))), none, y12, y13, y14, y15] [.inr (.inl (u10)), .inr (.inl ((u3).toInt64)), .inl (m_i σ4 8 (i6) 0), .inr (.inr (u7))] σ4 (.inl none, σ') := h
  replace h := ei_p h rfl rfl rfl rfl
  obtain ⟨f, g, h⟩ := h
  clear g
  replace h : EV F f 32 z32 217 [some (rf 2 (0)), some (rf 8 (i6)), some (.inl (u2)), some (.inl (u3)), y4, y5, y6, some (.inr (.inr (u7))), some (.inr (.inr (u8))), some (.inr (.inr (u9))), some (.inr (.inl (u10))), none, y12, y13, y14, y15] [.inr (.inl (-(u10))), .inr (.inl ((u3).toInt64)), .inl (m_i σ4 8 (i6) 0), .inr (.inr (u7))] σ4 (.inl none, σ') := h
  replace h := ei_p h rfl rfl rfl rfl
  obtain ⟨f, g, h⟩ := h
  clear g
  replace h : EV F f 32 z32 219 [some (rf 2 (0)), some (rf 8 (i6)), some (.inl (u2)), some (.inl (u3)), y4, y5, y6, some (.inr (.inr (u7))), some (.inr (.inr (u8))), some (.inr (.inr (u9))), some (.inr (.inl (u10))), none, y12, y13, y14, y15] [.inr (.inr (u9)), .inr (.inl (-(u10))), .inr (.inl ((u3).toInt64)), .inl (m_i σ4 8 (i6) 0), .inr (.inr (u7))] σ4 (.inl none, σ') := h
  obtain ⟨i8, e9⟩ := ei_gp h rfl
  rw [e9] at h
  refine ⟨i8, e9, ?_⟩
  replace h : EV F f 32 z32 219 [some (rf 2 (0)), some (rf 8 (i6)), some (.inl (u2)), some (.inl (u3)), y4, y5, y6, some (.inr (.inr (u7))), some (.inr (.inr (u8))), some (rf 10 (i8)), some (.inr (.inl (u10))), none, y12, y13, y14, y15] [rf 10 (i8), .inr (.inl (-(u10))), .inr (.inl ((u3).toInt64)), .inl (m_i σ4 8 (i6) 0), .inr (.inr (u7))] σ4 (.inl none, σ') := h
  replace h := ei_get h rfl rfl
  obtain ⟨f, g, h⟩ := h
  clear g
  replace h : EV F f 32 z32 222 [some (rf 2 (0)), some (rf 8 (i6)), some (.inl (u2)), some (.inl (u3)), y4, y5, y6, some (.inr (.inr (u7))), some (.inr (.inr (u8))), some (rf 10 (i8)), some (.inr (.inl (u10))), none, y12, y13, y14, y15] [.inr (.inl (m_l σ4 10 (i8) 7)), .inr (.inl (-(u10))), .inr (.inl ((u3).toInt64)), .inl (m_i σ4 8 (i6) 0), .inr (.inr (u7))] σ4 (.inl none, σ') := h
  replace h := ei_p h rfl rfl rfl rfl
  obtain ⟨f, g, h⟩ := h
  clear g
  replace h : EV F f 32 z32 223 [some (rf 2 (0)), some (rf 8 (i6)), some (.inl (u2)), some (.inl (u3)), y4, y5, y6, some (.inr (.inr (u7))), some (.inr (.inr (u8))), some (rf 10 (i8)), some (.inr (.inl (u10))), none, y12, y13, y14, y15] [.inr (.inl ((-(u10)) - (m_l σ4 10 (i8) 7))), .inr (.inl ((u3).toInt64)), .inl (m_i σ4 8 (i6) 0), .inr (.inr (u7))] σ4 (.inl none, σ') := h
  obtain ⟨i10, e11⟩ := ei_vp (as := [.inr (.inl ((-(u10)) - (m_l σ4 10 (i8) 7))), .inr (.inl ((u3).toInt64)), .inl (m_i σ4 8 (i6) 0)]) h rfl rfl
  rw [e11] at h
  refine ⟨i10, e11, ?_⟩
  replace h : EV F f 32 z32 223 [some (rf 2 (0)), some (rf 8 (i6)), some (.inl (u2)), some (.inl (u3)), y4, y5, y6, some (rf 6 (i10)), some (.inr (.inr (u8))), some (rf 10 (i8)), some (.inr (.inl (u10))), none, y12, y13, y14, y15] [.inr (.inl ((-(u10)) - (m_l σ4 10 (i8) 7))), .inr (.inl ((u3).toInt64)), .inl (m_i σ4 8 (i6) 0), rf 6 (i10)] σ4 (.inl none, σ') := h
  replace h := bk_0 (ei_v (as := [.inr (.inl ((-(u10)) - (m_l σ4 10 (i8) 7))), .inr (.inl ((u3).toInt64)), .inl (m_i σ4 8 (i6) 0)]) h rfl rfl rfl) rfl z91_at rfl
  obtain ⟨σ13, r14, f, g, h⟩ := h
  clear g
  have p15 := x91 hsσ4 r14
  have hsσ13 : HS σ13 := HS_run rfl r14 hsσ4
  refine ⟨σ13, fw_run W91 rfl r14, p15, ?_⟩
  replace h : EV F f 32 z32 226 [some (rf 2 (0)), some (rf 8 (i6)), some (.inl (u2)), some (.inl (u3)), y4, y5, y6, some (rf 6 (i10)), some (.inr (.inr (u8))), some (rf 10 (i8)), some (.inr (.inl (u10))), none, y12, y13, y14, y15] [] σ13 (.inl none, σ') := h
  replace h := ei_p h rfl rfl rfl rfl
  obtain ⟨f, g, h⟩ := h
  clear g
  replace h : EV F f 32 z32 228 [some (rf 2 (0)), some (rf 8 (i6)), some (.inl (u2)), some (.inl (u3)), y4, y5, y6, some (rf 6 (i10)), some (.inr (.inr (u8))), some (rf 10 (i8)), some (.inr (.inl (u10))), none, y12, y13, y14, y15] [.inr (.inr (u8))] σ13 (.inl none, σ') := h
  replace h := ei_p h rfl rfl rfl rfl
  obtain ⟨f, g, h⟩ := h
  clear g
  replace h : EV F f 32 z32 229 [some (rf 2 (0)), some (rf 8 (i6)), some (.inl (u2)), some (.inl (u3)), y4, y5, y6, some (rf 6 (i10)), some (.inr (.inr (u8))), some (rf 10 (i8)), some (.inr (.inl (u10))), none, y12, y13, y14, y15] [rf 8 (i6), .inr (.inr (u8))] σ13 (.inl none, σ') := h
  replace h := ei_get h rfl rfl
  obtain ⟨f, g, h⟩ := h
  clear g
  replace h : EV F f 32 z32 232 [some (rf 2 (0)), some (rf 8 (i6)), some (.inl (u2)), some (.inl (u3)), y4, y5, y6, some (rf 6 (i10)), some (.inr (.inr (u8))), some (rf 10 (i8)), some (.inr (.inl (u10))), none, y12, y13, y14, y15] [.inl (m_i σ13 8 (i6) 0), .inr (.inr (u8))] σ13 (.inl none, σ') := h
  replace h := ei_p h rfl rfl rfl rfl
  obtain ⟨f, g, h⟩ := h
  clear g
  replace h : EV F f 32 z32 233 [some (rf 2 (0)), some (rf 8 (i6)), some (.inl (u2)), some (.inl (u3)), y4, y5, y6, some (rf 6 (i10)), some (.inr (.inr (u8))), some (rf 10 (i8)), some (.inr (.inl (u10))), none, y12, y13, y14, y15] [.inl (u3), .inl (m_i σ13 8 (i6) 0), .inr (.inr (u8))] σ13 (.inl none, σ') := h
  replace h := ei_p h rfl rfl rfl rfl
  obtain ⟨f, g, h⟩ := h
  clear g
  replace h : EV F f 32 z32 234 [some (rf 2 (0)), some (rf 8 (i6)), some (.inl (u2)), some (.inl (u3)), y4, y5, y6, some (rf 6 (i10)), some (.inr (.inr (u8))), some (rf 10 (i8)), some (.inr (.inl (u10))), none, y12, y13, y14, y15] [.inl (-(u3)), .inl (m_i σ13 8 (i6) 0), .inr (.inr (u8))] σ13 (.inl none, σ') := h
  replace h := ei_p h rfl rfl rfl rfl
  obtain ⟨f, g, h⟩ := h
  clear g
  replace h : EV F f 32 z32 235 [some (rf 2 (0)), some (rf 8 (i6)), some (.inl (u2)), some (.inl (u3)), y4, y5, y6, some (rf 6 (i10)), some (.inr (.inr (u8))), some (rf 10 (i8)), some (.inr (.inl (u10))), none, y12, y13, y14, y15] [.inr (.inl ((-(u3)).toInt64)), .inl (m_i σ13 8 (i6) 0), .inr (.inr (u8))] σ13 (.inl none, σ') := h
  replace h := ei_p h rfl rfl rfl rfl
  obtain ⟨f, g, h⟩ := h
  clear g
  replace h : EV F f 32 z32 237 [some (rf 2 (0)), some (rf 8 (i6)), some (.inl (u2)), some (.inl (u3)), y4, y5, y6, some (rf 6 (i10)), some (.inr (.inr (u8))), some (rf 10 (i8)), some (.inr (.inl (u10))), none, y12, y13, y14, y15] [.inr (.inl (u10)), .inr (.inl ((-(u3)).toInt64)), .inl (m_i σ13 8 (i6) 0), .inr (.inr (u8))] σ13 (.inl none, σ') := h
  replace h := ei_p h rfl rfl rfl rfl
  obtain ⟨f, g, h⟩ := h
  clear g
  replace h : EV F f 32 z32 239 [some (rf 2 (0)), some (rf 8 (i6)), some (.inl (u2)), some (.inl (u3)), y4, y5, y6, some (rf 6 (i10)), some (.inr (.inr (u8))), some (rf 10 (i8)), some (.inr (.inl (u10))), none, y12, y13, y14, y15] [rf 10 (i8), .inr (.inl (u10)), .inr (.inl ((-(u3)).toInt64)), .inl (m_i σ13 8 (i6) 0), .inr (.inr (u8))] σ13 (.inl none, σ') := h
  replace h := ei_get h rfl rfl
  obtain ⟨f, g, h⟩ := h
  clear g
  replace h : EV F f 32 z32 242 [some (rf 2 (0)), some (rf 8 (i6)), some (.inl (u2)), some (.inl (u3)), y4, y5, y6, some (rf 6 (i10)), some (.inr (.inr (u8))), some (rf 10 (i8)), some (.inr (.inl (u10))), none, y12, y13, y14, y15] [.inr (.inl (m_l σ13 10 (i8) 8)), .inr (.inl (u10)), .inr (.inl ((-(u3)).toInt64)), .inl (m_i σ13 8 (i6) 0), .inr (.inr (u8))] σ13 (.inl none, σ') := h
  replace h := ei_p h rfl rfl rfl rfl
  obtain ⟨f, g, h⟩ := h
  clear g
  replace h : EV F f 32 z32 243 [some (rf 2 (0)), some (rf 8 (i6)), some (.inl (u2)), some (.inl (u3)), y4, y5, y6, some (rf 6 (i10)), some (.inr (.inr (u8))), some (rf 10 (i8)), some (.inr (.inl (u10))), none, y12, y13, y14, y15] [.inr (.inl ((u10) - (m_l σ13 10 (i8) 8))), .inr (.inl ((-(u3)).toInt64)), .inl (m_i σ13 8 (i6) 0), .inr (.inr (u8))] σ13 (.inl none, σ') := h
  obtain ⟨i16, e17⟩ := ei_vp (as := [.inr (.inl ((u10) - (m_l σ13 10 (i8) 8))), .inr (.inl ((-(u3)).toInt64)), .inl (m_i σ13 8 (i6) 0)]) h rfl rfl
  rw [e17] at h
  refine ⟨i16, e17, ?_⟩
  replace h : EV F f 32 z32 243 [some (rf 2 (0)), some (rf 8 (i6)), some (.inl (u2)), some (.inl (u3)), y4, y5, y6, some (rf 6 (i10)), some (rf 6 (i16)), some (rf 10 (i8)), some (.inr (.inl (u10))), none, y12, y13, y14, y15] [.inr (.inl ((u10) - (m_l σ13 10 (i8) 8))), .inr (.inl ((-(u3)).toInt64)), .inl (m_i σ13 8 (i6) 0), rf 6 (i16)] σ13 (.inl none, σ') := h
  replace h := bk_0 (ei_v (as := [.inr (.inl ((u10) - (m_l σ13 10 (i8) 8))), .inr (.inl ((-(u3)).toInt64)), .inl (m_i σ13 8 (i6) 0)]) h rfl rfl rfl) rfl z91_at rfl
  obtain ⟨σ19, r20, f, g, h⟩ := h
  clear g
  have p21 := x91 hsσ13 r20
  have hsσ19 : HS σ19 := HS_run rfl r20 hsσ13
  refine ⟨σ19, fw_run W91 rfl r20, p21, ?_⟩
  replace h : EV F f 32 z32 246 [some (rf 2 (0)), some (rf 8 (i6)), some (.inl (u2)), some (.inl (u3)), y4, y5, y6, some (rf 6 (i10)), some (rf 6 (i16)), some (rf 10 (i8)), some (.inr (.inl (u10))), none, y12, y13, y14, y15] [] σ19 (.inl none, σ') := h
  replace h := ei_p h rfl rfl rfl rfl
  obtain ⟨f, g, h⟩ := h
  clear g
  replace h : EV F f 32 z32 247 [some (rf 2 (0)), some (rf 8 (i6)), some (.inl (u2)), some (.inl (u3)), y4, y5, y6, some (rf 6 (i10)), some (rf 6 (i16)), some (rf 10 (i8)), some (.inr (.inl (u10))), none, y12, y13, y14, y15] [rf 2 (0)] σ19 (.inl none, σ') := h
  replace h := ei_get h rfl (HS_g2_1 hsσ19)
  obtain ⟨f, g, h⟩ := h
  clear g
  replace h : EV F f 32 z32 250 [some (rf 2 (0)), some (rf 8 (i6)), some (.inl (u2)), some (.inl (u3)), y4, y5, y6, some (rf 6 (i10)), some (rf 6 (i16)), some (rf 10 (i8)), some (.inr (.inl (u10))), none, y12, y13, y14, y15] [rf 6 (0)] σ19 (.inl none, σ') := h
  replace h := ei_p h rfl rfl rfl rfl
  obtain ⟨f, g, h⟩ := h
  clear g
  replace h : EV F f 32 z32 251 [some (rf 2 (0)), some (rf 8 (i6)), some (.inl (u2)), some (.inl (u3)), y4, y5, y6, some (rf 6 (i10)), some (rf 6 (i16)), some (rf 10 (i8)), some (.inr (.inl (u10))), none, y12, y13, y14, y15] [rf 6 (0), rf 6 (0)] σ19 (.inl none, σ') := h
  replace h := ei_get h rfl rfl
  obtain ⟨f, g, h⟩ := h
  clear g
  replace h : EV F f 32 z32 254 [some (rf 2 (0)), some (rf 8 (i6)), some (.inl (u2)), some (.inl (u3)), y4, y5, y6, some (rf 6 (i10)), some (rf 6 (i16)), some (rf 10 (i8)), some (.inr (.inl (u10))), none, y12, y13, y14, y15] [.inr (.inl (m_l σ19 6 (0) 2)), rf 6 (0)] σ19 (.inl none, σ') := h
  replace h := ei_p h rfl rfl rfl rfl
  obtain ⟨f, g, h⟩ := h
  clear g
  replace h : EV F f 32 z32 256 [some (rf 2 (0)), some (rf 8 (i6)), some (.inl (u2)), some (.inl (u3)), y4, y5, y6, some (rf 6 (i10)), some (rf 6 (i16)), some (rf 10 (i8)), some (.inr (.inl (u10))), none, y12, y13, y14, y15] [rf 10 (i8), .inr (.inl (m_l σ19 6 (0) 2)), rf 6 (0)] σ19 (.inl none, σ') := h
  replace h := ei_get h rfl rfl
  obtain ⟨f, g, h⟩ := h
  clear g
  replace h : EV F f 32 z32 259 [some (rf 2 (0)), some (rf 8 (i6)), some (.inl (u2)), some (.inl (u3)), y4, y5, y6, some (rf 6 (i10)), some (rf 6 (i16)), some (rf 10 (i8)), some (.inr (.inl (u10))), none, y12, y13, y14, y15] [.inr (.inl (m_l σ19 10 (i8) 7)), .inr (.inl (m_l σ19 6 (0) 2)), rf 6 (0)] σ19 (.inl none, σ') := h
  replace h := ei_p h rfl rfl rfl rfl
  obtain ⟨f, g, h⟩ := h
  clear g
  replace h : EV F f 32 z32 261 [some (rf 2 (0)), some (rf 8 (i6)), some (.inl (u2)), some (.inl (u3)), y4, y5, y6, some (rf 6 (i10)), some (rf 6 (i16)), some (rf 10 (i8)), some (.inr (.inl (u10))), none, y12, y13, y14, y15] [rf 10 (i8), .inr (.inl (m_l σ19 10 (i8) 7)), .inr (.inl (m_l σ19 6 (0) 2)), rf 6 (0)] σ19 (.inl none, σ') := h
  replace h := ei_get h rfl rfl
  obtain ⟨f, g, h⟩ := h
  clear g
  replace h : EV F f 32 z32 264 [some (rf 2 (0)), some (rf 8 (i6)), some (.inl (u2)), some (.inl (u3)), y4, y5, y6, some (rf 6 (i10)), some (rf 6 (i16)), some (rf 10 (i8)), some (.inr (.inl (u10))), none, y12, y13, y14, y15] [.inr (.inl (m_l σ19 10 (i8) 8)), .inr (.inl (m_l σ19 10 (i8) 7)), .inr (.inl (m_l σ19 6 (0) 2)), rf 6 (0)] σ19 (.inl none, σ') := h
  replace h := ei_p h rfl rfl rfl rfl
  obtain ⟨f, g, h⟩ := h
  clear g
  replace h : EV F f 32 z32 265 [some (rf 2 (0)), some (rf 8 (i6)), some (.inl (u2)), some (.inl (u3)), y4, y5, y6, some (rf 6 (i10)), some (rf 6 (i16)), some (rf 10 (i8)), some (.inr (.inl (u10))), none, y12, y13, y14, y15] [.inr (.inl ((m_l σ19 10 (i8) 7) + (m_l σ19 10 (i8) 8))), .inr (.inl (m_l σ19 6 (0) 2)), rf 6 (0)] σ19 (.inl none, σ') := h
  replace h := ei_p h rfl rfl rfl rfl
  obtain ⟨f, g, h⟩ := h
  clear g
  replace h : EV F f 32 z32 266 [some (rf 2 (0)), some (rf 8 (i6)), some (.inl (u2)), some (.inl (u3)), y4, y5, y6, some (rf 6 (i10)), some (rf 6 (i16)), some (rf 10 (i8)), some (.inr (.inl (u10))), none, y12, y13, y14, y15] [.inr (.inl ((m_l σ19 6 (0) 2) + ((m_l σ19 10 (i8) 7) + (m_l σ19 10 (i8) 8)))), rf 6 (0)] σ19 (.inl none, σ') := h
  replace h := ei_put h rfl
  obtain ⟨ht22, f, g, h⟩ := h
  clear g
  obtain ⟨σ23, e24⟩ : ∃ s, s = m_set σ19 6 (0) (2) (.inr (.inl ((m_l σ19 6 (0) 2) + ((m_l σ19 10 (i8) 7) + (m_l σ19 10 (i8) 8))))) := ⟨_, rfl⟩
  rw [← e24] at h
  have hsσ23 : HS σ23 := by rw [e24]; exact HS_set hsσ19 rfl
  refine ⟨σ23, e24, ?_⟩
  replace h : EV F f 32 z32 269 [some (rf 2 (0)), some (rf 8 (i6)), some (.inl (u2)), some (.inl (u3)), y4, y5, y6, some (rf 6 (i10)), some (rf 6 (i16)), some (rf 10 (i8)), some (.inr (.inl (u10))), none, y12, y13, y14, y15] [] σ23 (.inl none, σ') := h
  replace h := ei_p h rfl rfl rfl rfl
  obtain ⟨f, g, h⟩ := h
  clear g
  replace h : EV F f 32 z32 271 [some (rf 2 (0)), some (rf 8 (i6)), some (.inl (u2)), some (.inl (u3)), y4, y5, y6, some (rf 6 (i10)), some (rf 6 (i16)), some (rf 10 (i8)), some (.inr (.inl (u10))), none, y12, y13, y14, y15] [rf 6 (i10)] σ23 (.inl none, σ') := h
  replace h := ei_p h rfl rfl rfl rfl
  obtain ⟨f, g, h⟩ := h
  clear g
  replace h : EV F f 32 z32 272 [some (rf 2 (0)), some (rf 8 (i6)), some (.inl (u2)), some (.inl (u3)), y4, y5, y6, some (rf 6 (i10)), some (rf 6 (i16)), some (rf 10 (i8)), some (.inr (.inl (u10))), none, y12, y13, y14, y15] [rf 6 (i10), rf 6 (i10)] σ23 (.inl none, σ') := h
  replace h := ei_get h rfl rfl
  obtain ⟨f, g, h⟩ := h
  clear g
  replace h : EV F f 32 z32 275 [some (rf 2 (0)), some (rf 8 (i6)), some (.inl (u2)), some (.inl (u3)), y4, y5, y6, some (rf 6 (i10)), some (rf 6 (i16)), some (rf 10 (i8)), some (.inr (.inl (u10))), none, y12, y13, y14, y15] [.inr (.inl (m_l σ23 6 (i10) 5)), rf 6 (i10)] σ23 (.inl none, σ') := h
  replace h := ei_p h rfl rfl rfl rfl
  obtain ⟨f, g, h⟩ := h
  clear g
  replace h : EV F f 32 z32 276 [some (rf 2 (0)), some (rf 8 (i6)), some (.inl (u2)), some (.inl (u3)), y4, y5, y6, some (rf 6 (i10)), some (rf 6 (i16)), some (rf 10 (i8)), some (.inr (.inl (u10))), none, y12, y13, y14, y15] [.inl (u3), .inr (.inl (m_l σ23 6 (i10) 5)), rf 6 (i10)] σ23 (.inl none, σ') := h
  replace h := ei_p h rfl rfl rfl rfl
  obtain ⟨f, g, h⟩ := h
  clear g
  replace h : EV F f 32 z32 277 [some (rf 2 (0)), some (rf 8 (i6)), some (.inl (u2)), some (.inl (u3)), y4, y5, y6, some (rf 6 (i10)), some (rf 6 (i16)), some (rf 10 (i8)), some (.inr (.inl (u10))), none, y12, y13, y14, y15] [.inr (.inl ((u3).toInt64)), .inr (.inl (m_l σ23 6 (i10) 5)), rf 6 (i10)] σ23 (.inl none, σ') := h
  replace h := ei_p h rfl rfl rfl rfl
  obtain ⟨f, g, h⟩ := h
  clear g
  replace h : EV F f 32 z32 278 [some (rf 2 (0)), some (rf 8 (i6)), some (.inl (u2)), some (.inl (u3)), y4, y5, y6, some (rf 6 (i10)), some (rf 6 (i16)), some (rf 10 (i8)), some (.inr (.inl (u10))), none, y12, y13, y14, y15] [.inr (.inl ((m_l σ23 6 (i10) 5) + ((u3).toInt64))), rf 6 (i10)] σ23 (.inl none, σ') := h
  replace h := ei_put h rfl
  obtain ⟨ht25, f, g, h⟩ := h
  clear g
  obtain ⟨σ26, e27⟩ : ∃ s, s = m_set σ23 6 (i10) (5) (.inr (.inl ((m_l σ23 6 (i10) 5) + ((u3).toInt64)))) := ⟨_, rfl⟩
  rw [← e27] at h
  have hsσ26 : HS σ26 := by rw [e27]; exact HS_set hsσ23 rfl
  refine ⟨σ26, e27, ?_⟩
  replace h : EV F f 32 z32 281 [some (rf 2 (0)), some (rf 8 (i6)), some (.inl (u2)), some (.inl (u3)), y4, y5, y6, some (rf 6 (i10)), some (rf 6 (i16)), some (rf 10 (i8)), some (.inr (.inl (u10))), none, y12, y13, y14, y15] [] σ26 (.inl none, σ') := h
  replace h := ei_p h rfl rfl rfl rfl
  obtain ⟨f, g, h⟩ := h
  clear g
  replace h : EV F f 32 z32 283 [some (rf 2 (0)), some (rf 8 (i6)), some (.inl (u2)), some (.inl (u3)), y4, y5, y6, some (rf 6 (i10)), some (rf 6 (i16)), some (rf 10 (i8)), some (.inr (.inl (u10))), none, y12, y13, y14, y15] [rf 6 (i16)] σ26 (.inl none, σ') := h
  replace h := ei_p h rfl rfl rfl rfl
  obtain ⟨f, g, h⟩ := h
  clear g
  replace h : EV F f 32 z32 284 [some (rf 2 (0)), some (rf 8 (i6)), some (.inl (u2)), some (.inl (u3)), y4, y5, y6, some (rf 6 (i10)), some (rf 6 (i16)), some (rf 10 (i8)), some (.inr (.inl (u10))), none, y12, y13, y14, y15] [rf 6 (i16), rf 6 (i16)] σ26 (.inl none, σ') := h
  replace h := ei_get h rfl rfl
  obtain ⟨f, g, h⟩ := h
  clear g
  replace h : EV F f 32 z32 287 [some (rf 2 (0)), some (rf 8 (i6)), some (.inl (u2)), some (.inl (u3)), y4, y5, y6, some (rf 6 (i10)), some (rf 6 (i16)), some (rf 10 (i8)), some (.inr (.inl (u10))), none, y12, y13, y14, y15] [.inr (.inl (m_l σ26 6 (i16) 5)), rf 6 (i16)] σ26 (.inl none, σ') := h
  replace h := ei_p h rfl rfl rfl rfl
  obtain ⟨f, g, h⟩ := h
  clear g
  replace h : EV F f 32 z32 288 [some (rf 2 (0)), some (rf 8 (i6)), some (.inl (u2)), some (.inl (u3)), y4, y5, y6, some (rf 6 (i10)), some (rf 6 (i16)), some (rf 10 (i8)), some (.inr (.inl (u10))), none, y12, y13, y14, y15] [.inl (u3), .inr (.inl (m_l σ26 6 (i16) 5)), rf 6 (i16)] σ26 (.inl none, σ') := h
  replace h := ei_p h rfl rfl rfl rfl
  obtain ⟨f, g, h⟩ := h
  clear g
  replace h : EV F f 32 z32 289 [some (rf 2 (0)), some (rf 8 (i6)), some (.inl (u2)), some (.inl (u3)), y4, y5, y6, some (rf 6 (i10)), some (rf 6 (i16)), some (rf 10 (i8)), some (.inr (.inl (u10))), none, y12, y13, y14, y15] [.inr (.inl ((u3).toInt64)), .inr (.inl (m_l σ26 6 (i16) 5)), rf 6 (i16)] σ26 (.inl none, σ') := h
  replace h := ei_p h rfl rfl rfl rfl
  obtain ⟨f, g, h⟩ := h
  clear g
  replace h : EV F f 32 z32 290 [some (rf 2 (0)), some (rf 8 (i6)), some (.inl (u2)), some (.inl (u3)), y4, y5, y6, some (rf 6 (i10)), some (rf 6 (i16)), some (rf 10 (i8)), some (.inr (.inl (u10))), none, y12, y13, y14, y15] [.inr (.inl ((m_l σ26 6 (i16) 5) + ((u3).toInt64))), rf 6 (i16)] σ26 (.inl none, σ') := h
  replace h := ei_put h rfl
  obtain ⟨ht28, f, g, h⟩ := h
  clear g
  obtain ⟨σ29, e30⟩ : ∃ s, s = m_set σ26 6 (i16) (5) (.inr (.inl ((m_l σ26 6 (i16) 5) + ((u3).toInt64)))) := ⟨_, rfl⟩
  rw [← e30] at h
  have hsσ29 : HS σ29 := by rw [e30]; exact HS_set hsσ26 rfl
  refine ⟨σ29, e30, ?_⟩
  replace h : EV F f 32 z32 293 [some (rf 2 (0)), some (rf 8 (i6)), some (.inl (u2)), some (.inl (u3)), y4, y5, y6, some (rf 6 (i10)), some (rf 6 (i16)), some (rf 10 (i8)), some (.inr (.inl (u10))), none, y12, y13, y14, y15] [] σ29 (.inl none, σ') := h
  replace h := ei_p h rfl rfl rfl rfl
  obtain ⟨f, g, h⟩ := h
  clear g
  replace h : EV F f 32 z32 294 [some (rf 2 (0)), some (rf 8 (i6)), some (.inl (u2)), some (.inl (u3)), y4, y5, y6, some (rf 6 (i10)), some (rf 6 (i16)), some (rf 10 (i8)), some (.inr (.inl (u10))), none, y12, y13, y14, y15] [rf 8 (i6)] σ29 (.inl none, σ') := h
  replace h := ei_p h rfl rfl rfl rfl
  obtain ⟨f, g, h⟩ := h
  clear g
  replace h : EV F f 32 z32 295 [some (rf 2 (0)), some (rf 8 (i6)), some (.inl (u2)), some (.inl (u3)), y4, y5, y6, some (rf 6 (i10)), some (rf 6 (i16)), some (rf 10 (i8)), some (.inr (.inl (u10))), none, y12, y13, y14, y15] [.inl (u2), rf 8 (i6)] σ29 (.inl none, σ') := h
  replace h := bk_0 (ei_v (as := [.inl (u2)]) h rfl rfl rfl) rfl z114_at rfl
  obtain ⟨σ32, r33, f, g, h⟩ := h
  clear g
  have p34 := x114 hsσ29 r33
  have hsσ32 : HS σ32 := HS_run rfl r33 hsσ29
  refine ⟨σ32, fw_run W114 rfl r33, p34, ?_⟩
  replace h : EV F f 32 z32 298 [some (rf 2 (0)), some (rf 8 (i6)), some (.inl (u2)), some (.inl (u3)), y4, y5, y6, some (rf 6 (i10)), some (rf 6 (i16)), some (rf 10 (i8)), some (.inr (.inl (u10))), none, y12, y13, y14, y15] [] σ32 (.inl none, σ') := h
  have e := ei_ret h rfl
  cases e
  exact rfl
def J32_185 (u1 : mR) (u2 : Int32) (u3 : Int32) (u6 : Int32) (u7 : mR) (u8 : mR) (u9 : mR) (u10 : Int64) (u12 : Int64) (u14 : Int64) (t0 : Int64) (t1 : mR) (τ : mS) (σ' : mS) : Prop := ∃ i1, t1 = some (10, i1) ∧ ∃ σ4, σ4 = m_set τ 10 (i1) (7) (.inr (.inl (t0))) ∧ (((u6).toInt = (0 : Int) ∧ J32_203 (u1) (u2) (u3) (u7) (u8) (u9) (u10) (u12) (u9) σ4 σ') ∨ (¬ ((u6).toInt = (0 : Int)) ∧ J32_203 (u1) (u2) (u3) (u7) (u8) (u9) (u10) (-(u14)) (u9) σ4 σ'))
theorem j32_185 {F f : Nat} {σ' τ : mS} {u1 : mR} {u2 : Int32} {u3 : Int32} {u6 : Int32} {u7 : mR} {u8 : mR} {u9 : mR} {u10 : Int64} {u12 : Int64} {u14 : Int64} {t0 : Int64} {t1 : mR} {y4 : Option mV} {y5 : Option mV} (hsτ : HS τ) (h : EV F f 32 z32 185 [some (rf 2 (0)), some (.inr (.inr (u1))), some (.inl (u2)), some (.inl (u3)), y4, y5, some (.inl (u6)), some (.inr (.inr (u7))), some (.inr (.inr (u8))), some (.inr (.inr (u9))), some (.inr (.inl (u10))), none, some (.inr (.inl (u12))), none, some (.inr (.inl (u14))), none] [.inr (.inl (t0)), .inr (.inr (t1))] τ (.inl none, σ')) : J32_185 u1 u2 u3 u6 u7 u8 u9 u10 u12 u14 t0 t1 τ σ' := by
  unfold J32_185
  obtain ⟨i1, e2⟩ := ei_pp h rfl
  rw [e2] at h
  refine ⟨i1, e2, ?_⟩
  replace h : EV F f 32 z32 185 [some (rf 2 (0)), some (.inr (.inr (u1))), some (.inl (u2)), some (.inl (u3)), y4, y5, some (.inl (u6)), some (.inr (.inr (u7))), some (.inr (.inr (u8))), some (.inr (.inr (u9))), some (.inr (.inl (u10))), none, some (.inr (.inl (u12))), none, some (.inr (.inl (u14))), none] [.inr (.inl (t0)), rf 10 (i1)] τ (.inl none, σ') := h
  replace h := ei_put h rfl
  obtain ⟨ht3, f, g, h⟩ := h
  clear g
  obtain ⟨σ4, e5⟩ : ∃ s, s = m_set τ 10 (i1) (7) (.inr (.inl (t0))) := ⟨_, rfl⟩
  rw [← e5] at h
  have hsσ4 : HS σ4 := by rw [e5]; exact HS_set hsτ rfl
  refine ⟨σ4, e5, ?_⟩
  replace h : EV F f 32 z32 188 [some (rf 2 (0)), some (.inr (.inr (u1))), some (.inl (u2)), some (.inl (u3)), y4, y5, some (.inl (u6)), some (.inr (.inr (u7))), some (.inr (.inr (u8))), some (.inr (.inr (u9))), some (.inr (.inl (u10))), none, some (.inr (.inl (u12))), none, some (.inr (.inl (u14))), none] [] σ4 (.inl none, σ') := h
  replace h := ei_p h rfl rfl rfl rfl
  obtain ⟨f, g, h⟩ := h
  clear g
  replace h : EV F f 32 z32 190 [some (rf 2 (0)), some (.inr (.inr (u1))), some (.inl (u2)), some (.inl (u3)), y4, y5, some (.inl (u6)), some (.inr (.inr (u7))), some (.inr (.inr (u8))), some (.inr (.inr (u9))), some (.inr (.inl (u10))), none, some (.inr (.inl (u12))), none, some (.inr (.inl (u14))), none] [.inr (.inr (u9))] σ4 (.inl none, σ') := h
  replace h := ei_p h rfl rfl rfl rfl
  obtain ⟨f, g, h⟩ := h
  clear g
  replace h : EV F f 32 z32 192 [some (rf 2 (0)), some (.inr (.inr (u1))), some (.inl (u2)), some (.inl (u3)), y4, y5, some (.inl (u6)), some (.inr (.inr (u7))), some (.inr (.inr (u8))), some (.inr (.inr (u9))), some (.inr (.inl (u10))), none, some (.inr (.inl (u12))), none, some (.inr (.inl (u14))), none] [.inl (u6), .inr (.inr (u9))] σ4 (.inl none, σ') := h
  replace h := ei_c h rfl rfl rfl
  rcases h with ⟨hp6, f, g, h⟩ | ⟨hp6, f, g, h⟩
  · skip
    replace hp6 : (u6).toInt = (0 : Int) := ic_eq.mp hp6
    refine Or.inl ⟨hp6, ?_⟩
    clear g
    replace h : EV F f 32 z32 201 [some (rf 2 (0)), some (.inr (.inr (u1))), some (.inl (u2)), some (.inl (u3)), y4, y5, some (.inl (u6)), some (.inr (.inr (u7))), some (.inr (.inr (u8))), some (.inr (.inr (u9))), some (.inr (.inl (u10))), none, some (.inr (.inl (u12))), none, some (.inr (.inl (u14))), none] [.inr (.inr (u9))] σ4 (.inl none, σ') := h
    replace h := ei_p h rfl rfl rfl rfl
    obtain ⟨f, g, h⟩ := h
    clear g
    replace h : EV F f 32 z32 203 [some (rf 2 (0)), some (.inr (.inr (u1))), some (.inl (u2)), some (.inl (u3)), y4, y5, some (.inl (u6)), some (.inr (.inr (u7))), some (.inr (.inr (u8))), some (.inr (.inr (u9))), some (.inr (.inl (u10))), none, some (.inr (.inl (u12))), none, some (.inr (.inl (u14))), none] [.inr (.inl (u12)), .inr (.inr (u9))] σ4 (.inl none, σ') := h
    exact j32_203 hsσ4 h
  · skip
    replace hp6 : ¬ ((u6).toInt = (0 : Int)) := (not_congr ic_eq).mp hp6
    refine Or.inr ⟨hp6, ?_⟩
    clear g
    replace h : EV F f 32 z32 195 [some (rf 2 (0)), some (.inr (.inr (u1))), some (.inl (u2)), some (.inl (u3)), y4, y5, some (.inl (u6)), some (.inr (.inr (u7))), some (.inr (.inr (u8))), some (.inr (.inr (u9))), some (.inr (.inl (u10))), none, some (.inr (.inl (u12))), none, some (.inr (.inl (u14))), none] [.inr (.inr (u9))] σ4 (.inl none, σ') := h
    replace h := ei_p h rfl rfl rfl rfl
    obtain ⟨f, g, h⟩ := h
    clear g
    replace h : EV F f 32 z32 197 [some (rf 2 (0)), some (.inr (.inr (u1))), some (.inl (u2)), some (.inl (u3)), y4, y5, some (.inl (u6)), some (.inr (.inr (u7))), some (.inr (.inr (u8))), some (.inr (.inr (u9))), some (.inr (.inl (u10))), none, some (.inr (.inl (u12))), none, some (.inr (.inl (u14))), none] [.inr (.inl (u14)), .inr (.inr (u9))] σ4 (.inl none, σ') := h
    replace h := ei_p h rfl rfl rfl rfl
    obtain ⟨f, g, h⟩ := h
    clear g
    replace h : EV F f 32 z32 198 [some (rf 2 (0)), some (.inr (.inr (u1))), some (.inl (u2)), some (.inl (u3)), y4, y5, some (.inl (u6)), some (.inr (.inr (u7))), some (.inr (.inr (u8))), some (.inr (.inr (u9))), some (.inr (.inl (u10))), none, some (.inr (.inl (u12))), none, some (.inr (.inl (u14))), none] [.inr (.inl (-(u14))), .inr (.inr (u9))] σ4 (.inl none, σ') := h
    replace h := ei_p h rfl rfl rfl rfl
    obtain ⟨f, g, h⟩ := h
    clear g
    replace h : EV F f 32 z32 203 [some (rf 2 (0)), some (.inr (.inr (u1))), some (.inl (u2)), some (.inl (u3)), y4, y5, some (.inl (u6)), some (.inr (.inr (u7))), some (.inr (.inr (u8))), some (.inr (.inr (u9))), some (.inr (.inl (u10))), none, some (.inr (.inl (u12))), none, some (.inr (.inl (u14))), none] [.inr (.inl (-(u14))), .inr (.inr (u9))] σ4 (.inl none, σ') := h
    exact j32_203 hsσ4 h
def J32_147 (u1 : mR) (u2 : Int32) (u3 : Int32) (u6 : Int32) (u7 : mR) (u8 : mR) (u9 : mR) (u10 : Int64) (t0 : mR) (t1 : Int64) (τ : mS) (σ' : mS) : Prop := ∃ i1, t0 = some (6, i1) ∧ ∃ v3, P95 τ (i1) v3 ∧ ∃ n8, n8 = ((t1) * ((v3).toInt64)) / (Int64.ofInt 10000) ∧ ∃ n11, n11 = ((u10) * (Int64.ofInt 2)) / (Int64.ofInt 10000) ∧ (((u6).toInt = (0 : Int) ∧ J32_185 (u1) (u2) (u3) (u6) (u7) (u8) (u9) (u10) (n8) (n11) (-(n11)) (u9) τ σ') ∨ (¬ ((u6).toInt = (0 : Int)) ∧ J32_185 (u1) (u2) (u3) (u6) (u7) (u8) (u9) (u10) (n8) (n11) (n8) (u9) τ σ'))
theorem j32_147 {F f : Nat} {σ' τ : mS} {u1 : mR} {u2 : Int32} {u3 : Int32} {u6 : Int32} {u7 : mR} {u8 : mR} {u9 : mR} {u10 : Int64} {t0 : mR} {t1 : Int64} {y4 : Option mV} {y5 : Option mV} {y12 : Option mV} {y13 : Option mV} {y14 : Option mV} {y15 : Option mV} (hsτ : HS τ) (h : EV F f 32 z32 147 [some (rf 2 (0)), some (.inr (.inr (u1))), some (.inl (u2)), some (.inl (u3)), y4, y5, some (.inl (u6)), some (.inr (.inr (u7))), some (.inr (.inr (u8))), some (.inr (.inr (u9))), some (.inr (.inl (u10))), none, y12, y13, y14, y15] [.inr (.inr (t0)), .inr (.inl (t1))] τ (.inl none, σ')) : J32_147 u1 u2 u3 u6 u7 u8 u9 u10 t0 t1 τ σ' := by
  unfold J32_147
  obtain ⟨i1, e2⟩ := ei_vp (as := []) h rfl rfl
  rw [e2] at h
  refine ⟨i1, e2, ?_⟩
  replace h : EV F f 32 z32 147 [some (rf 2 (0)), some (.inr (.inr (u1))), some (.inl (u2)), some (.inl (u3)), y4, y5, some (.inl (u6)), some (.inr (.inr (u7))), some (.inr (.inr (u8))), some (.inr (.inr (u9))), some (.inr (.inl (u10))), none, y12, y13, y14, y15] [rf 6 (i1), .inr (.inl (t1))] τ (.inl none, σ') := h
  replace h := bk_I (ei_v (as := []) h rfl rfl rfl) rfl z95_at (Or.inl rfl)
  obtain ⟨v3, σ4, r5, f, g, h⟩ := h
  clear g
  have er5 := ro_run rfl r5
  rw [er5] at h r5
  have p6 := x95 hsτ r5
  refine ⟨v3, p6, ?_⟩
  replace h : EV F f 32 z32 150 [some (rf 2 (0)), some (.inr (.inr (u1))), some (.inl (u2)), some (.inl (u3)), y4, y5, some (.inl (u6)), some (.inr (.inr (u7))), some (.inr (.inr (u8))), some (.inr (.inr (u9))), some (.inr (.inl (u10))), none, y12, y13, y14, y15] [.inl (v3), .inr (.inl (t1))] τ (.inl none, σ') := h
  replace h := ei_p h rfl rfl rfl rfl
  obtain ⟨f, g, h⟩ := h
  clear g
  replace h : EV F f 32 z32 151 [some (rf 2 (0)), some (.inr (.inr (u1))), some (.inl (u2)), some (.inl (u3)), y4, y5, some (.inl (u6)), some (.inr (.inr (u7))), some (.inr (.inr (u8))), some (.inr (.inr (u9))), some (.inr (.inl (u10))), none, y12, y13, y14, y15] [.inr (.inl ((v3).toInt64)), .inr (.inl (t1))] τ (.inl none, σ') := h
  replace h := ei_p h rfl rfl rfl rfl
  obtain ⟨f, g, h⟩ := h
  clear g
  replace h : EV F f 32 z32 152 [some (rf 2 (0)), some (.inr (.inr (u1))), some (.inl (u2)), some (.inl (u3)), y4, y5, some (.inl (u6)), some (.inr (.inr (u7))), some (.inr (.inr (u8))), some (.inr (.inr (u9))), some (.inr (.inl (u10))), none, y12, y13, y14, y15] [.inr (.inl ((t1) * ((v3).toInt64)))] τ (.inl none, σ') := h
  replace h := ei_p h rfl rfl rfl rfl
  obtain ⟨f, g, h⟩ := h
  clear g
  replace h : EV F f 32 z32 155 [some (rf 2 (0)), some (.inr (.inr (u1))), some (.inl (u2)), some (.inl (u3)), y4, y5, some (.inl (u6)), some (.inr (.inr (u7))), some (.inr (.inr (u8))), some (.inr (.inr (u9))), some (.inr (.inl (u10))), none, y12, y13, y14, y15] [.inr (.inl (Int64.ofInt 10000)), .inr (.inl ((t1) * ((v3).toInt64)))] τ (.inl none, σ') := h
  replace h := ei_ldiv h rfl
  obtain ⟨hd7, f, g, h⟩ := h
  clear g
  replace h : EV F f 32 z32 156 [some (rf 2 (0)), some (.inr (.inr (u1))), some (.inl (u2)), some (.inl (u3)), y4, y5, some (.inl (u6)), some (.inr (.inr (u7))), some (.inr (.inr (u8))), some (.inr (.inr (u9))), some (.inr (.inl (u10))), none, y12, y13, y14, y15] [.inr (.inl (((t1) * ((v3).toInt64)) / (Int64.ofInt 10000)))] τ (.inl none, σ') := h
  replace h := ei_p h rfl rfl rfl rfl
  obtain ⟨f, g, h⟩ := h
  clear g
  replace h : EV F f 32 z32 158 [some (rf 2 (0)), some (.inr (.inr (u1))), some (.inl (u2)), some (.inl (u3)), y4, y5, some (.inl (u6)), some (.inr (.inr (u7))), some (.inr (.inr (u8))), some (.inr (.inr (u9))), some (.inr (.inl (u10))), none, some (.inr (.inl (((t1) * ((v3).toInt64)) / (Int64.ofInt 10000)))), none, y14, y15] [] τ (.inl none, σ') := h
  obtain ⟨n8, e9⟩ : ∃ s, s = ((t1) * ((v3).toInt64)) / (Int64.ofInt 10000) := ⟨_, rfl⟩
  rw [← e9] at h
  refine ⟨n8, e9, ?_⟩
  replace h : EV F f 32 z32 158 [some (rf 2 (0)), some (.inr (.inr (u1))), some (.inl (u2)), some (.inl (u3)), y4, y5, some (.inl (u6)), some (.inr (.inr (u7))), some (.inr (.inr (u8))), some (.inr (.inr (u9))), some (.inr (.inl (u10))), none, some (.inr (.inl (n8))), none, y14, y15] [] τ (.inl none, σ') := h
  replace h := ei_p h rfl rfl rfl rfl
  obtain ⟨f, g, h⟩ := h
  clear g
  replace h : EV F f 32 z32 160 [some (rf 2 (0)), some (.inr (.inr (u1))), some (.inl (u2)), some (.inl (u3)), y4, y5, some (.inl (u6)), some (.inr (.inr (u7))), some (.inr (.inr (u8))), some (.inr (.inr (u9))), some (.inr (.inl (u10))), none, some (.inr (.inl (n8))), none, y14, y15] [.inr (.inl (u10))] τ (.inl none, σ') := h
  replace h := ei_p h rfl rfl rfl rfl
  obtain ⟨f, g, h⟩ := h
  clear g
  replace h : EV F f 32 z32 163 [some (rf 2 (0)), some (.inr (.inr (u1))), some (.inl (u2)), some (.inl (u3)), y4, y5, some (.inl (u6)), some (.inr (.inr (u7))), some (.inr (.inr (u8))), some (.inr (.inr (u9))), some (.inr (.inl (u10))), none, some (.inr (.inl (n8))), none, y14, y15] [.inr (.inl (Int64.ofInt 2)), .inr (.inl (u10))] τ (.inl none, σ') := h
  replace h := ei_p h rfl rfl rfl rfl
  obtain ⟨f, g, h⟩ := h
  clear g
  replace h : EV F f 32 z32 164 [some (rf 2 (0)), some (.inr (.inr (u1))), some (.inl (u2)), some (.inl (u3)), y4, y5, some (.inl (u6)), some (.inr (.inr (u7))), some (.inr (.inr (u8))), some (.inr (.inr (u9))), some (.inr (.inl (u10))), none, some (.inr (.inl (n8))), none, y14, y15] [.inr (.inl ((u10) * (Int64.ofInt 2)))] τ (.inl none, σ') := h
  replace h := ei_p h rfl rfl rfl rfl
  obtain ⟨f, g, h⟩ := h
  clear g
  replace h : EV F f 32 z32 167 [some (rf 2 (0)), some (.inr (.inr (u1))), some (.inl (u2)), some (.inl (u3)), y4, y5, some (.inl (u6)), some (.inr (.inr (u7))), some (.inr (.inr (u8))), some (.inr (.inr (u9))), some (.inr (.inl (u10))), none, some (.inr (.inl (n8))), none, y14, y15] [.inr (.inl (Int64.ofInt 10000)), .inr (.inl ((u10) * (Int64.ofInt 2)))] τ (.inl none, σ') := h
  replace h := ei_ldiv h rfl
  obtain ⟨hd10, f, g, h⟩ := h
  clear g
  replace h : EV F f 32 z32 168 [some (rf 2 (0)), some (.inr (.inr (u1))), some (.inl (u2)), some (.inl (u3)), y4, y5, some (.inl (u6)), some (.inr (.inr (u7))), some (.inr (.inr (u8))), some (.inr (.inr (u9))), some (.inr (.inl (u10))), none, some (.inr (.inl (n8))), none, y14, y15] [.inr (.inl (((u10) * (Int64.ofInt 2)) / (Int64.ofInt 10000)))] τ (.inl none, σ') := h
  replace h := ei_p h rfl rfl rfl rfl
  obtain ⟨f, g, h⟩ := h
  clear g
  replace h : EV F f 32 z32 170 [some (rf 2 (0)), some (.inr (.inr (u1))), some (.inl (u2)), some (.inl (u3)), y4, y5, some (.inl (u6)), some (.inr (.inr (u7))), some (.inr (.inr (u8))), some (.inr (.inr (u9))), some (.inr (.inl (u10))), none, some (.inr (.inl (n8))), none, some (.inr (.inl (((u10) * (Int64.ofInt 2)) / (Int64.ofInt 10000)))), none] [] τ (.inl none, σ') := h
  obtain ⟨n11, e12⟩ : ∃ s, s = ((u10) * (Int64.ofInt 2)) / (Int64.ofInt 10000) := ⟨_, rfl⟩
  rw [← e12] at h
  refine ⟨n11, e12, ?_⟩
  replace h : EV F f 32 z32 170 [some (rf 2 (0)), some (.inr (.inr (u1))), some (.inl (u2)), some (.inl (u3)), y4, y5, some (.inl (u6)), some (.inr (.inr (u7))), some (.inr (.inr (u8))), some (.inr (.inr (u9))), some (.inr (.inl (u10))), none, some (.inr (.inl (n8))), none, some (.inr (.inl (n11))), none] [] τ (.inl none, σ') := h
  replace h := ei_p h rfl rfl rfl rfl
  obtain ⟨f, g, h⟩ := h
  clear g
  replace h : EV F f 32 z32 172 [some (rf 2 (0)), some (.inr (.inr (u1))), some (.inl (u2)), some (.inl (u3)), y4, y5, some (.inl (u6)), some (.inr (.inr (u7))), some (.inr (.inr (u8))), some (.inr (.inr (u9))), some (.inr (.inl (u10))), none, some (.inr (.inl (n8))), none, some (.inr (.inl (n11))), none] [.inr (.inr (u9))] τ (.inl none, σ') := h
  replace h := ei_p h rfl rfl rfl rfl
  obtain ⟨f, g, h⟩ := h
  clear g
  replace h : EV F f 32 z32 174 [some (rf 2 (0)), some (.inr (.inr (u1))), some (.inl (u2)), some (.inl (u3)), y4, y5, some (.inl (u6)), some (.inr (.inr (u7))), some (.inr (.inr (u8))), some (.inr (.inr (u9))), some (.inr (.inl (u10))), none, some (.inr (.inl (n8))), none, some (.inr (.inl (n11))), none] [.inl (u6), .inr (.inr (u9))] τ (.inl none, σ') := h
  replace h := ei_c h rfl rfl rfl
  rcases h with ⟨hp13, f, g, h⟩ | ⟨hp13, f, g, h⟩
  · skip
    replace hp13 : (u6).toInt = (0 : Int) := ic_eq.mp hp13
    refine Or.inl ⟨hp13, ?_⟩
    clear g
    replace h : EV F f 32 z32 182 [some (rf 2 (0)), some (.inr (.inr (u1))), some (.inl (u2)), some (.inl (u3)), y4, y5, some (.inl (u6)), some (.inr (.inr (u7))), some (.inr (.inr (u8))), some (.inr (.inr (u9))), some (.inr (.inl (u10))), none, some (.inr (.inl (n8))), none, some (.inr (.inl (n11))), none] [.inr (.inr (u9))] τ (.inl none, σ') := h
    replace h := ei_p h rfl rfl rfl rfl
    obtain ⟨f, g, h⟩ := h
    clear g
    replace h : EV F f 32 z32 184 [some (rf 2 (0)), some (.inr (.inr (u1))), some (.inl (u2)), some (.inl (u3)), y4, y5, some (.inl (u6)), some (.inr (.inr (u7))), some (.inr (.inr (u8))), some (.inr (.inr (u9))), some (.inr (.inl (u10))), none, some (.inr (.inl (n8))), none, some (.inr (.inl (n11))), none] [.inr (.inl (n11)), .inr (.inr (u9))] τ (.inl none, σ') := h
    replace h := ei_p h rfl rfl rfl rfl
    obtain ⟨f, g, h⟩ := h
    clear g
    replace h : EV F f 32 z32 185 [some (rf 2 (0)), some (.inr (.inr (u1))), some (.inl (u2)), some (.inl (u3)), y4, y5, some (.inl (u6)), some (.inr (.inr (u7))), some (.inr (.inr (u8))), some (.inr (.inr (u9))), some (.inr (.inl (u10))), none, some (.inr (.inl (n8))), none, some (.inr (.inl (n11))), none] [.inr (.inl (-(n11))), .inr (.inr (u9))] τ (.inl none, σ') := h
    exact j32_185 hsτ h
  · skip
    replace hp13 : ¬ ((u6).toInt = (0 : Int)) := (not_congr ic_eq).mp hp13
    refine Or.inr ⟨hp13, ?_⟩
    clear g
    replace h : EV F f 32 z32 177 [some (rf 2 (0)), some (.inr (.inr (u1))), some (.inl (u2)), some (.inl (u3)), y4, y5, some (.inl (u6)), some (.inr (.inr (u7))), some (.inr (.inr (u8))), some (.inr (.inr (u9))), some (.inr (.inl (u10))), none, some (.inr (.inl (n8))), none, some (.inr (.inl (n11))), none] [.inr (.inr (u9))] τ (.inl none, σ') := h
    replace h := ei_p h rfl rfl rfl rfl
    obtain ⟨f, g, h⟩ := h
    clear g
    replace h : EV F f 32 z32 179 [some (rf 2 (0)), some (.inr (.inr (u1))), some (.inl (u2)), some (.inl (u3)), y4, y5, some (.inl (u6)), some (.inr (.inr (u7))), some (.inr (.inr (u8))), some (.inr (.inr (u9))), some (.inr (.inl (u10))), none, some (.inr (.inl (n8))), none, some (.inr (.inl (n11))), none] [.inr (.inl (n8)), .inr (.inr (u9))] τ (.inl none, σ') := h
    replace h := ei_p h rfl rfl rfl rfl
    obtain ⟨f, g, h⟩ := h
    clear g
    replace h : EV F f 32 z32 185 [some (rf 2 (0)), some (.inr (.inr (u1))), some (.inl (u2)), some (.inl (u3)), y4, y5, some (.inl (u6)), some (.inr (.inr (u7))), some (.inr (.inr (u8))), some (.inr (.inr (u9))), some (.inr (.inl (u10))), none, some (.inr (.inl (n8))), none, some (.inr (.inl (n11))), none] [.inr (.inl (n8)), .inr (.inr (u9))] τ (.inl none, σ') := h
    exact j32_185 hsτ h
def P32 (σ : mS) (x1 : mR) (x2 : Int32) (x3 : Int32) (x4 : Int32) (x5 : Int32) (x6 : Int32) (σ' : mS) : Prop := ∃ v1, P22 σ (x4) v1 ∧ ∃ v5, P22 σ (x5) v5 ∧ ((v1 = none ∧ σ' = σ) ∨ (∃ q10, v1 = some q10 ∧ ((v5 = none ∧ σ' = σ) ∨ (∃ q14, v5 = some q14 ∧ (((m_i σ 2 (0) 5).toInt < (0 : Int) ∧ σ' = σ) ∨ (¬ ((m_i σ 2 (0) 5).toInt < (0 : Int)) ∧ (((m_i σ 2 (0) 5).toInt < (200 : Int) ∧ (0 ≤ (m_i σ 2 (0) 5).toInt ∧ (m_i σ 2 (0) 5).toInt < 200) ∧ ∃ σ21, σ21 = m_set σ 2 (0) (5) (.inl ((m_i σ 2 (0) 5) + (Int32.ofInt 1))) ∧ ∃ i23, x1 = some (8, i23) ∧ ∃ σ26, σ26 = m_set σ21 10 ((m_i σ 2 (0) 5).toNatClampNeg) (0) (.inl (m_i σ21 8 (i23) 0)) ∧ ∃ σ29, σ29 = m_set σ26 10 ((m_i σ 2 (0) 5).toNatClampNeg) (1) (.inl (x2)) ∧ ∃ σ32, σ32 = m_set σ29 10 ((m_i σ 2 (0) 5).toNatClampNeg) (2) (.inl (x3)) ∧ ∃ σ35, σ35 = m_set σ32 10 ((m_i σ 2 (0) 5).toNatClampNeg) (3) (.inl (x4)) ∧ ∃ σ38, σ38 = m_set σ35 10 ((m_i σ 2 (0) 5).toNatClampNeg) (4) (.inl (x5)) ∧ ∃ σ41, σ41 = m_set σ38 10 ((m_i σ 2 (0) 5).toNatClampNeg) (5) (.inl (m_i σ38 2 (0) 7)) ∧ ∃ σ44, σ44 = m_set σ41 10 ((m_i σ 2 (0) 5).toNatClampNeg) (6) (.inl (m_i σ41 8 (i23) 6)) ∧ ∃ σ47, σ47 = m_set σ44 10 ((m_i σ 2 (0) 5).toNatClampNeg) (9) (.inl (Int32.ofInt 0)) ∧ ∃ n49, n49 = ((x2).toInt64) * ((x3).toInt64) ∧ (((x6).toInt = (0 : Int) ∧ J32_147 (some (8, i23)) (x2) (x3) (x6) (some q10) (some q14) (some (10, (m_i σ 2 (0) 5).toNatClampNeg)) (n49) (some q14) (n49) σ47 σ') ∨ (¬ ((x6).toInt = (0 : Int)) ∧ J32_147 (some (8, i23)) (x2) (x3) (x6) (some q10) (some q14) (some (10, (m_i σ 2 (0) 5).toNatClampNeg)) (n49) (some q10) (n49) σ47 σ'))) ∨ (¬ ((m_i σ 2 (0) 5).toInt < (200 : Int)) ∧ σ' = σ))))))))
theorem x32 {σ σ' : mS} {x1 : mR} {x2 : Int32} {x3 : Int32} {x4 : Int32} {x5 : Int32} {x6 : Int32} (hs : HS σ) (h : ev_run sm_all 32 [rf 2 (0), .inr (.inr (x1)), .inl (x2), .inl (x3), .inl (x4), .inl (x5), .inl (x6)] σ (.inl none) σ') : P32 σ x1 x2 x3 x4 x5 x6 σ' := by
  unfold P32
  obtain ⟨F, f, h⟩ := ei_go h z32_at
  replace h : EV F f 32 z32 0 [some (rf 2 (0)), some (.inr (.inr (x1))), some (.inl (x2)), some (.inl (x3)), some (.inl (x4)), some (.inl (x5)), some (.inl (x6)), none, none, none, none, none, none, none, none, none] [] σ (.inl none, σ') := h
  replace h := ei_p h rfl rfl rfl rfl
  obtain ⟨f, g, h⟩ := h
  clear g
  replace h : EV F f 32 z32 1 [some (rf 2 (0)), some (.inr (.inr (x1))), some (.inl (x2)), some (.inl (x3)), some (.inl (x4)), some (.inl (x5)), some (.inl (x6)), none, none, none, none, none, none, none, none, none] [rf 2 (0)] σ (.inl none, σ') := h
  replace h := ei_p h rfl rfl rfl rfl
  obtain ⟨f, g, h⟩ := h
  clear g
  replace h : EV F f 32 z32 3 [some (rf 2 (0)), some (.inr (.inr (x1))), some (.inl (x2)), some (.inl (x3)), some (.inl (x4)), some (.inl (x5)), some (.inl (x6)), none, none, none, none, none, none, none, none, none] [.inl (x4), rf 2 (0)] σ (.inl none, σ') := h
  replace h := bk_R (ei_v (as := [.inl (x4)]) h rfl rfl rfl) rfl z22_at rfl
  obtain ⟨v1, σ2, r3, f, g, h⟩ := h
  clear g
  have er3 := ro_run rfl r3
  rw [er3] at h r3
  have p4 := x22 hs r3
  refine ⟨v1, p4, ?_⟩
  replace h : EV F f 32 z32 6 [some (rf 2 (0)), some (.inr (.inr (x1))), some (.inl (x2)), some (.inl (x3)), some (.inl (x4)), some (.inl (x5)), some (.inl (x6)), none, none, none, none, none, none, none, none, none] [.inr (.inr (v1))] σ (.inl none, σ') := h
  replace h := ei_p h rfl rfl rfl rfl
  obtain ⟨f, g, h⟩ := h
  clear g
  replace h : EV F f 32 z32 8 [some (rf 2 (0)), some (.inr (.inr (x1))), some (.inl (x2)), some (.inl (x3)), some (.inl (x4)), some (.inl (x5)), some (.inl (x6)), some (.inr (.inr (v1))), none, none, none, none, none, none, none, none] [] σ (.inl none, σ') := h
  replace h := ei_p h rfl rfl rfl rfl
  obtain ⟨f, g, h⟩ := h
  clear g
  replace h : EV F f 32 z32 9 [some (rf 2 (0)), some (.inr (.inr (x1))), some (.inl (x2)), some (.inl (x3)), some (.inl (x4)), some (.inl (x5)), some (.inl (x6)), some (.inr (.inr (v1))), none, none, none, none, none, none, none, none] [rf 2 (0)] σ (.inl none, σ') := h
  replace h := ei_p h rfl rfl rfl rfl
  obtain ⟨f, g, h⟩ := h
  clear g
  replace h : EV F f 32 z32 11 [some (rf 2 (0)), some (.inr (.inr (x1))), some (.inl (x2)), some (.inl (x3)), some (.inl (x4)), some (.inl (x5)), some (.inl (x6)), some (.inr (.inr (v1))), none, none, none, none, none, none, none, none] [.inl (x5), rf 2 (0)] σ (.inl none, σ') := h
  replace h := bk_R (ei_v (as := [.inl (x5)]) h rfl rfl rfl) rfl z22_at rfl
  obtain ⟨v5, σ6, r7, f, g, h⟩ := h
  clear g
  have er7 := ro_run rfl r7
  rw [er7] at h r7
  have p8 := x22 hs r7
  refine ⟨v5, p8, ?_⟩
  replace h : EV F f 32 z32 14 [some (rf 2 (0)), some (.inr (.inr (x1))), some (.inl (x2)), some (.inl (x3)), some (.inl (x4)), some (.inl (x5)), some (.inl (x6)), some (.inr (.inr (v1))), none, none, none, none, none, none, none, none] [.inr (.inr (v5))] σ (.inl none, σ') := h
  replace h := ei_p h rfl rfl rfl rfl
  obtain ⟨f, g, h⟩ := h
  clear g
  replace h : EV F f 32 z32 16 [some (rf 2 (0)), some (.inr (.inr (x1))), some (.inl (x2)), some (.inl (x3)), some (.inl (x4)), some (.inl (x5)), some (.inl (x6)), some (.inr (.inr (v1))), some (.inr (.inr (v5))), none, none, none, none, none, none, none] [] σ (.inl none, σ') := h
  replace h := ei_p h rfl rfl rfl rfl
  obtain ⟨f, g, h⟩ := h
  clear g
  replace h : EV F f 32 z32 18 [some (rf 2 (0)), some (.inr (.inr (x1))), some (.inl (x2)), some (.inl (x3)), some (.inl (x4)), some (.inl (x5)), some (.inl (x6)), some (.inr (.inr (v1))), some (.inr (.inr (v5))), none, none, none, none, none, none, none] [.inr (.inr (v1))] σ (.inl none, σ') := h
  rcases r_cs (v1) with e9 | ⟨q10, e9⟩
  · skip
    rw [e9] at h
    refine Or.inl ⟨e9, ?_⟩
    replace h : EV F f 32 z32 18 [some (rf 2 (0)), some (.inr (.inr (x1))), some (.inl (x2)), some (.inl (x3)), some (.inl (x4)), some (.inl (x5)), some (.inl (x6)), some (.inr (.inr none)), some (.inr (.inr (v5))), none, none, none, none, none, none, none] [.inr (.inr none)] σ (.inl none, σ') := h
    replace h := ei_c h rfl rfl rfl
    rcases h with ⟨hp11, f, g, h⟩ | ⟨hp11, f, g, h⟩
    · skip
      clear g
      replace h : EV F f 32 z32 45 [some (rf 2 (0)), some (.inr (.inr (x1))), some (.inl (x2)), some (.inl (x3)), some (.inl (x4)), some (.inl (x5)), some (.inl (x6)), some (.inr (.inr none)), some (.inr (.inr (v5))), none, none, none, none, none, none, none] [] σ (.inl none, σ') := h
      have e := ei_ret h rfl
      cases e
      exact rfl
    · exact absurd rfl hp11
  · skip
    rw [e9] at h
    refine Or.inr ⟨q10, e9, ?_⟩
    replace h : EV F f 32 z32 18 [some (rf 2 (0)), some (.inr (.inr (x1))), some (.inl (x2)), some (.inl (x3)), some (.inl (x4)), some (.inl (x5)), some (.inl (x6)), some (.inr (.inr (some q10))), some (.inr (.inr (v5))), none, none, none, none, none, none, none] [.inr (.inr (some q10))] σ (.inl none, σ') := h
    replace h := ei_c h rfl rfl rfl
    rcases h with ⟨hp12, f, g, h⟩ | ⟨hp12, f, g, h⟩
    · exact absurd hp12 (fun z => by cases z)
    · skip
      clear g
      replace h : EV F f 32 z32 21 [some (rf 2 (0)), some (.inr (.inr (x1))), some (.inl (x2)), some (.inl (x3)), some (.inl (x4)), some (.inl (x5)), some (.inl (x6)), some (.inr (.inr (some q10))), some (.inr (.inr (v5))), none, none, none, none, none, none, none] [] σ (.inl none, σ') := h
      replace h := ei_p h rfl rfl rfl rfl
      obtain ⟨f, g, h⟩ := h
      clear g
      replace h : EV F f 32 z32 23 [some (rf 2 (0)), some (.inr (.inr (x1))), some (.inl (x2)), some (.inl (x3)), some (.inl (x4)), some (.inl (x5)), some (.inl (x6)), some (.inr (.inr (some q10))), some (.inr (.inr (v5))), none, none, none, none, none, none, none] [.inr (.inr (v5))] σ (.inl none, σ') := h
      rcases r_cs (v5) with e13 | ⟨q14, e13⟩
      · skip
        rw [e13] at h
        refine Or.inl ⟨e13, ?_⟩
        replace h : EV F f 32 z32 23 [some (rf 2 (0)), some (.inr (.inr (x1))), some (.inl (x2)), some (.inl (x3)), some (.inl (x4)), some (.inl (x5)), some (.inl (x6)), some (.inr (.inr (some q10))), some (.inr (.inr none)), none, none, none, none, none, none, none] [.inr (.inr none)] σ (.inl none, σ') := h
        replace h := ei_c h rfl rfl rfl
        rcases h with ⟨hp15, f, g, h⟩ | ⟨hp15, f, g, h⟩
        · skip
          clear g
          replace h : EV F f 32 z32 45 [some (rf 2 (0)), some (.inr (.inr (x1))), some (.inl (x2)), some (.inl (x3)), some (.inl (x4)), some (.inl (x5)), some (.inl (x6)), some (.inr (.inr (some q10))), some (.inr (.inr none)), none, none, none, none, none, none, none] [] σ (.inl none, σ') := h
          have e := ei_ret h rfl
          cases e
          exact rfl
        · exact absurd rfl hp15
      · skip
        rw [e13] at h
        refine Or.inr ⟨q14, e13, ?_⟩
        replace h : EV F f 32 z32 23 [some (rf 2 (0)), some (.inr (.inr (x1))), some (.inl (x2)), some (.inl (x3)), some (.inl (x4)), some (.inl (x5)), some (.inl (x6)), some (.inr (.inr (some q10))), some (.inr (.inr (some q14))), none, none, none, none, none, none, none] [.inr (.inr (some q14))] σ (.inl none, σ') := h
        replace h := ei_c h rfl rfl rfl
        rcases h with ⟨hp16, f, g, h⟩ | ⟨hp16, f, g, h⟩
        · exact absurd hp16 (fun z => by cases z)
        · skip
          clear g
          replace h : EV F f 32 z32 26 [some (rf 2 (0)), some (.inr (.inr (x1))), some (.inl (x2)), some (.inl (x3)), some (.inl (x4)), some (.inl (x5)), some (.inl (x6)), some (.inr (.inr (some q10))), some (.inr (.inr (some q14))), none, none, none, none, none, none, none] [] σ (.inl none, σ') := h
          replace h := ei_p h rfl rfl rfl rfl
          obtain ⟨f, g, h⟩ := h
          clear g
          replace h : EV F f 32 z32 27 [some (rf 2 (0)), some (.inr (.inr (x1))), some (.inl (x2)), some (.inl (x3)), some (.inl (x4)), some (.inl (x5)), some (.inl (x6)), some (.inr (.inr (some q10))), some (.inr (.inr (some q14))), none, none, none, none, none, none, none] [rf 2 (0)] σ (.inl none, σ') := h
          replace h := ei_get h rfl rfl
          obtain ⟨f, g, h⟩ := h
          clear g
          replace h : EV F f 32 z32 30 [some (rf 2 (0)), some (.inr (.inr (x1))), some (.inl (x2)), some (.inl (x3)), some (.inl (x4)), some (.inl (x5)), some (.inl (x6)), some (.inr (.inr (some q10))), some (.inr (.inr (some q14))), none, none, none, none, none, none, none] [.inl (m_i σ 2 (0) 5)] σ (.inl none, σ') := h
          replace h := ei_c h rfl rfl rfl
          rcases h with ⟨hp17, f, g, h⟩ | ⟨hp17, f, g, h⟩
          · skip
            replace hp17 : (m_i σ 2 (0) 5).toInt < (0 : Int) := ic_lt.mp hp17
            refine Or.inl ⟨hp17, ?_⟩
            clear g
            replace h : EV F f 32 z32 45 [some (rf 2 (0)), some (.inr (.inr (x1))), some (.inl (x2)), some (.inl (x3)), some (.inl (x4)), some (.inl (x5)), some (.inl (x6)), some (.inr (.inr (some q10))), some (.inr (.inr (some q14))), none, none, none, none, none, none, none] [] σ (.inl none, σ') := h
            have e := ei_ret h rfl
            cases e
            exact rfl
          · skip
            replace hp17 : ¬ ((m_i σ 2 (0) 5).toInt < (0 : Int)) := (not_congr ic_lt).mp hp17
            refine Or.inr ⟨hp17, ?_⟩
            clear g
            replace h : EV F f 32 z32 33 [some (rf 2 (0)), some (.inr (.inr (x1))), some (.inl (x2)), some (.inl (x3)), some (.inl (x4)), some (.inl (x5)), some (.inl (x6)), some (.inr (.inr (some q10))), some (.inr (.inr (some q14))), none, none, none, none, none, none, none] [] σ (.inl none, σ') := h
            replace h := ei_p h rfl rfl rfl rfl
            obtain ⟨f, g, h⟩ := h
            clear g
            replace h : EV F f 32 z32 34 [some (rf 2 (0)), some (.inr (.inr (x1))), some (.inl (x2)), some (.inl (x3)), some (.inl (x4)), some (.inl (x5)), some (.inl (x6)), some (.inr (.inr (some q10))), some (.inr (.inr (some q14))), none, none, none, none, none, none, none] [rf 2 (0)] σ (.inl none, σ') := h
            replace h := ei_get h rfl rfl
            obtain ⟨f, g, h⟩ := h
            clear g
            replace h : EV F f 32 z32 37 [some (rf 2 (0)), some (.inr (.inr (x1))), some (.inl (x2)), some (.inl (x3)), some (.inl (x4)), some (.inl (x5)), some (.inl (x6)), some (.inr (.inr (some q10))), some (.inr (.inr (some q14))), none, none, none, none, none, none, none] [.inl (m_i σ 2 (0) 5)] σ (.inl none, σ') := h
            replace h := ei_p h rfl rfl rfl rfl
            obtain ⟨f, g, h⟩ := h
            clear g
            replace h : EV F f 32 z32 38 [some (rf 2 (0)), some (.inr (.inr (x1))), some (.inl (x2)), some (.inl (x3)), some (.inl (x4)), some (.inl (x5)), some (.inl (x6)), some (.inr (.inr (some q10))), some (.inr (.inr (some q14))), none, none, none, none, none, none, none] [rf 2 (0), .inl (m_i σ 2 (0) 5)] σ (.inl none, σ') := h
            replace h := ei_get h rfl (HS_g2_3 hs)
            obtain ⟨f, g, h⟩ := h
            clear g
            replace h : EV F f 32 z32 41 [some (rf 2 (0)), some (.inr (.inr (x1))), some (.inl (x2)), some (.inl (x3)), some (.inl (x4)), some (.inl (x5)), some (.inl (x6)), some (.inr (.inr (some q10))), some (.inr (.inr (some q14))), none, none, none, none, none, none, none] [rf 20 (0), .inl (m_i σ 2 (0) 5)] σ (.inl none, σ') := h
            replace h := ei_len h rfl (HS_l20_0 hs) ⟨Nat.le_of_ble_eq_true rfl, Nat.le_of_ble_eq_true rfl⟩
            obtain ⟨f, g, h⟩ := h
            clear g
            replace h : EV F f 32 z32 42 [some (rf 2 (0)), some (.inr (.inr (x1))), some (.inl (x2)), some (.inl (x3)), some (.inl (x4)), some (.inl (x5)), some (.inl (x6)), some (.inr (.inr (some q10))), some (.inr (.inr (some q14))), none, none, none, none, none, none, none] [.inl (Int32.ofInt 200), .inl (m_i σ 2 (0) 5)] σ (.inl none, σ') := h
            replace h := ei_c h rfl rfl rfl
            rcases h with ⟨hp18, f, g, h⟩ | ⟨hp18, f, g, h⟩
            · skip
              replace hp18 : (m_i σ 2 (0) 5).toInt < (200 : Int) := ic_lt.mp hp18
              refine Or.inl ⟨hp18, ?_⟩
              clear g
              replace h : EV F f 32 z32 46 [some (rf 2 (0)), some (.inr (.inr (x1))), some (.inl (x2)), some (.inl (x3)), some (.inl (x4)), some (.inl (x5)), some (.inl (x6)), some (.inr (.inr (some q10))), some (.inr (.inr (some q14))), none, none, none, none, none, none, none] [] σ (.inl none, σ') := h
              replace h := ei_p h rfl rfl rfl rfl
              obtain ⟨f, g, h⟩ := h
              clear g
              replace h : EV F f 32 z32 47 [some (rf 2 (0)), some (.inr (.inr (x1))), some (.inl (x2)), some (.inl (x3)), some (.inl (x4)), some (.inl (x5)), some (.inl (x6)), some (.inr (.inr (some q10))), some (.inr (.inr (some q14))), none, none, none, none, none, none, none] [rf 2 (0)] σ (.inl none, σ') := h
              replace h := ei_get h rfl (HS_g2_3 hs)
              obtain ⟨f, g, h⟩ := h
              clear g
              replace h : EV F f 32 z32 50 [some (rf 2 (0)), some (.inr (.inr (x1))), some (.inl (x2)), some (.inl (x3)), some (.inl (x4)), some (.inl (x5)), some (.inl (x6)), some (.inr (.inr (some q10))), some (.inr (.inr (some q14))), none, none, none, none, none, none, none] [rf 20 (0)] σ (.inl none, σ') := h
              replace h := ei_p h rfl rfl rfl rfl
              obtain ⟨f, g, h⟩ := h
              clear g
              replace h : EV F f 32 z32 51 [some (rf 2 (0)), some (.inr (.inr (x1))), some (.inl (x2)), some (.inl (x3)), some (.inl (x4)), some (.inl (x5)), some (.inl (x6)), some (.inr (.inr (some q10))), some (.inr (.inr (some q14))), none, none, none, none, none, none, none] [rf 2 (0), rf 20 (0)] σ (.inl none, σ') := h
              replace h := ei_get h rfl rfl
              obtain ⟨f, g, h⟩ := h
              clear g
              replace h : EV F f 32 z32 54 [some (rf 2 (0)), some (.inr (.inr (x1))), some (.inl (x2)), some (.inl (x3)), some (.inl (x4)), some (.inl (x5)), some (.inl (x6)), some (.inr (.inr (some q10))), some (.inr (.inr (some q14))), none, none, none, none, none, none, none] [.inl (m_i σ 2 (0) 5), rf 20 (0)] σ (.inl none, σ') := h
              replace h := ei_ald h rfl (HS_a20 hs)
              obtain ⟨vp19, f, g, h⟩ := h
              clear g
              replace h : EV F f 32 z32 55 [some (rf 2 (0)), some (.inr (.inr (x1))), some (.inl (x2)), some (.inl (x3)), some (.inl (x4)), some (.inl (x5)), some (.inl (x6)), some (.inr (.inr (some q10))), some (.inr (.inr (some q14))), none, none, none, none, none, none, none] [rf 10 ((m_i σ 2 (0) 5).toNatClampNeg)] σ (.inl none, σ') := h
              refine ⟨HS_v20 hs vp19, ?_⟩
              replace h := ei_p h rfl rfl rfl rfl
              obtain ⟨f, g, h⟩ := h
              clear g
              replace h : EV F f 32 z32 57 [some (rf 2 (0)), some (.inr (.inr (x1))), some (.inl (x2)), some (.inl (x3)), some (.inl (x4)), some (.inl (x5)), some (.inl (x6)), some (.inr (.inr (some q10))), some (.inr (.inr (some q14))), some (rf 10 ((m_i σ 2 (0) 5).toNatClampNeg)), none, none, none, none, none, none] [] σ (.inl none, σ') := h
              replace h := ei_p h rfl rfl rfl rfl
              obtain ⟨f, g, h⟩ := h
              clear g
              replace h : EV F f 32 z32 58 [some (rf 2 (0)), some (.inr (.inr (x1))), some (.inl (x2)), some (.inl (x3)), some (.inl (x4)), some (.inl (x5)), some (.inl (x6)), some (.inr (.inr (some q10))), some (.inr (.inr (some q14))), some (rf 10 ((m_i σ 2 (0) 5).toNatClampNeg)), none, none, none, none, none, none] [rf 2 (0)] σ (.inl none, σ') := h
              replace h := ei_p h rfl rfl rfl rfl
              obtain ⟨f, g, h⟩ := h
              clear g
              replace h : EV F f 32 z32 59 [some (rf 2 (0)), some (.inr (.inr (x1))), some (.inl (x2)), some (.inl (x3)), some (.inl (x4)), some (.inl (x5)), some (.inl (x6)), some (.inr (.inr (some q10))), some (.inr (.inr (some q14))), some (rf 10 ((m_i σ 2 (0) 5).toNatClampNeg)), none, none, none, none, none, none] [rf 2 (0), rf 2 (0)] σ (.inl none, σ') := h
              replace h := ei_get h rfl rfl
              obtain ⟨f, g, h⟩ := h
              clear g
              replace h : EV F f 32 z32 62 [some (rf 2 (0)), some (.inr (.inr (x1))), some (.inl (x2)), some (.inl (x3)), some (.inl (x4)), some (.inl (x5)), some (.inl (x6)), some (.inr (.inr (some q10))), some (.inr (.inr (some q14))), some (rf 10 ((m_i σ 2 (0) 5).toNatClampNeg)), none, none, none, none, none, none] [.inl (m_i σ 2 (0) 5), rf 2 (0)] σ (.inl none, σ') := h
              replace h := ei_p h rfl rfl rfl rfl
              obtain ⟨f, g, h⟩ := h
              clear g
              replace h : EV F f 32 z32 63 [some (rf 2 (0)), some (.inr (.inr (x1))), some (.inl (x2)), some (.inl (x3)), some (.inl (x4)), some (.inl (x5)), some (.inl (x6)), some (.inr (.inr (some q10))), some (.inr (.inr (some q14))), some (rf 10 ((m_i σ 2 (0) 5).toNatClampNeg)), none, none, none, none, none, none] [.inl (Int32.ofInt 1), .inl (m_i σ 2 (0) 5), rf 2 (0)] σ (.inl none, σ') := h
              replace h := ei_p h rfl rfl rfl rfl
              obtain ⟨f, g, h⟩ := h
              clear g
              replace h : EV F f 32 z32 64 [some (rf 2 (0)), some (.inr (.inr (x1))), some (.inl (x2)), some (.inl (x3)), some (.inl (x4)), some (.inl (x5)), some (.inl (x6)), some (.inr (.inr (some q10))), some (.inr (.inr (some q14))), some (rf 10 ((m_i σ 2 (0) 5).toNatClampNeg)), none, none, none, none, none, none] [.inl ((m_i σ 2 (0) 5) + (Int32.ofInt 1)), rf 2 (0)] σ (.inl none, σ') := h
              replace h := ei_put h rfl
              obtain ⟨ht20, f, g, h⟩ := h
              clear g
              obtain ⟨σ21, e22⟩ : ∃ s, s = m_set σ 2 (0) (5) (.inl ((m_i σ 2 (0) 5) + (Int32.ofInt 1))) := ⟨_, rfl⟩
              rw [← e22] at h
              have hsσ21 : HS σ21 := by rw [e22]; exact HS_set hs rfl
              refine ⟨σ21, e22, ?_⟩
              replace h : EV F f 32 z32 67 [some (rf 2 (0)), some (.inr (.inr (x1))), some (.inl (x2)), some (.inl (x3)), some (.inl (x4)), some (.inl (x5)), some (.inl (x6)), some (.inr (.inr (some q10))), some (.inr (.inr (some q14))), some (rf 10 ((m_i σ 2 (0) 5).toNatClampNeg)), none, none, none, none, none, none] [] σ21 (.inl none, σ') := h
              replace h := ei_p h rfl rfl rfl rfl
              obtain ⟨f, g, h⟩ := h
              clear g
              replace h : EV F f 32 z32 69 [some (rf 2 (0)), some (.inr (.inr (x1))), some (.inl (x2)), some (.inl (x3)), some (.inl (x4)), some (.inl (x5)), some (.inl (x6)), some (.inr (.inr (some q10))), some (.inr (.inr (some q14))), some (rf 10 ((m_i σ 2 (0) 5).toNatClampNeg)), none, none, none, none, none, none] [rf 10 ((m_i σ 2 (0) 5).toNatClampNeg)] σ21 (.inl none, σ') := h
              replace h := ei_p h rfl rfl rfl rfl
              obtain ⟨f, g, h⟩ := h
              clear g
              replace h : EV F f 32 z32 70 [some (rf 2 (0)), some (.inr (.inr (x1))), some (.inl (x2)), some (.inl (x3)), some (.inl (x4)), some (.inl (x5)), some (.inl (x6)), some (.inr (.inr (some q10))), some (.inr (.inr (some q14))), some (rf 10 ((m_i σ 2 (0) 5).toNatClampNeg)), none, none, none, none, none, none] [.inr (.inr (x1)), rf 10 ((m_i σ 2 (0) 5).toNatClampNeg)] σ21 (.inl none, σ') := h
              obtain ⟨i23, e24⟩ := ei_gp h rfl
              rw [e24] at h
              refine ⟨i23, e24, ?_⟩
              replace h : EV F f 32 z32 70 [some (rf 2 (0)), some (rf 8 (i23)), some (.inl (x2)), some (.inl (x3)), some (.inl (x4)), some (.inl (x5)), some (.inl (x6)), some (.inr (.inr (some q10))), some (.inr (.inr (some q14))), some (rf 10 ((m_i σ 2 (0) 5).toNatClampNeg)), none, none, none, none, none, none] [rf 8 (i23), rf 10 ((m_i σ 2 (0) 5).toNatClampNeg)] σ21 (.inl none, σ') := h
              replace h := ei_get h rfl rfl
              obtain ⟨f, g, h⟩ := h
              clear g
              replace h : EV F f 32 z32 73 [some (rf 2 (0)), some (rf 8 (i23)), some (.inl (x2)), some (.inl (x3)), some (.inl (x4)), some (.inl (x5)), some (.inl (x6)), some (.inr (.inr (some q10))), some (.inr (.inr (some q14))), some (rf 10 ((m_i σ 2 (0) 5).toNatClampNeg)), none, none, none, none, none, none] [.inl (m_i σ21 8 (i23) 0), rf 10 ((m_i σ 2 (0) 5).toNatClampNeg)] σ21 (.inl none, σ') := h
              replace h := ei_put h rfl
              obtain ⟨ht25, f, g, h⟩ := h
              clear g
              obtain ⟨σ26, e27⟩ : ∃ s, s = m_set σ21 10 ((m_i σ 2 (0) 5).toNatClampNeg) (0) (.inl (m_i σ21 8 (i23) 0)) := ⟨_, rfl⟩
              rw [← e27] at h
              have hsσ26 : HS σ26 := by rw [e27]; exact HS_set hsσ21 rfl
              refine ⟨σ26, e27, ?_⟩
              replace h : EV F f 32 z32 76 [some (rf 2 (0)), some (rf 8 (i23)), some (.inl (x2)), some (.inl (x3)), some (.inl (x4)), some (.inl (x5)), some (.inl (x6)), some (.inr (.inr (some q10))), some (.inr (.inr (some q14))), some (rf 10 ((m_i σ 2 (0) 5).toNatClampNeg)), none, none, none, none, none, none] [] σ26 (.inl none, σ') := h
              replace h := ei_p h rfl rfl rfl rfl
              obtain ⟨f, g, h⟩ := h
              clear g
              replace h : EV F f 32 z32 78 [some (rf 2 (0)), some (rf 8 (i23)), some (.inl (x2)), some (.inl (x3)), some (.inl (x4)), some (.inl (x5)), some (.inl (x6)), some (.inr (.inr (some q10))), some (.inr (.inr (some q14))), some (rf 10 ((m_i σ 2 (0) 5).toNatClampNeg)), none, none, none, none, none, none] [rf 10 ((m_i σ 2 (0) 5).toNatClampNeg)] σ26 (.inl none, σ') := h
              replace h := ei_p h rfl rfl rfl rfl
              obtain ⟨f, g, h⟩ := h
              clear g
              replace h : EV F f 32 z32 79 [some (rf 2 (0)), some (rf 8 (i23)), some (.inl (x2)), some (.inl (x3)), some (.inl (x4)), some (.inl (x5)), some (.inl (x6)), some (.inr (.inr (some q10))), some (.inr (.inr (some q14))), some (rf 10 ((m_i σ 2 (0) 5).toNatClampNeg)), none, none, none, none, none, none] [.inl (x2), rf 10 ((m_i σ 2 (0) 5).toNatClampNeg)] σ26 (.inl none, σ') := h
              replace h := ei_put h rfl
              obtain ⟨ht28, f, g, h⟩ := h
              clear g
              obtain ⟨σ29, e30⟩ : ∃ s, s = m_set σ26 10 ((m_i σ 2 (0) 5).toNatClampNeg) (1) (.inl (x2)) := ⟨_, rfl⟩
              rw [← e30] at h
              have hsσ29 : HS σ29 := by rw [e30]; exact HS_set hsσ26 rfl
              refine ⟨σ29, e30, ?_⟩
              replace h : EV F f 32 z32 82 [some (rf 2 (0)), some (rf 8 (i23)), some (.inl (x2)), some (.inl (x3)), some (.inl (x4)), some (.inl (x5)), some (.inl (x6)), some (.inr (.inr (some q10))), some (.inr (.inr (some q14))), some (rf 10 ((m_i σ 2 (0) 5).toNatClampNeg)), none, none, none, none, none, none] [] σ29 (.inl none, σ') := h
              replace h := ei_p h rfl rfl rfl rfl
              obtain ⟨f, g, h⟩ := h
              clear g
              replace h : EV F f 32 z32 84 [some (rf 2 (0)), some (rf 8 (i23)), some (.inl (x2)), some (.inl (x3)), some (.inl (x4)), some (.inl (x5)), some (.inl (x6)), some (.inr (.inr (some q10))), some (.inr (.inr (some q14))), some (rf 10 ((m_i σ 2 (0) 5).toNatClampNeg)), none, none, none, none, none, none] [rf 10 ((m_i σ 2 (0) 5).toNatClampNeg)] σ29 (.inl none, σ') := h
              replace h := ei_p h rfl rfl rfl rfl
              obtain ⟨f, g, h⟩ := h
              clear g
              replace h : EV F f 32 z32 85 [some (rf 2 (0)), some (rf 8 (i23)), some (.inl (x2)), some (.inl (x3)), some (.inl (x4)), some (.inl (x5)), some (.inl (x6)), some (.inr (.inr (some q10))), some (.inr (.inr (some q14))), some (rf 10 ((m_i σ 2 (0) 5).toNatClampNeg)), none, none, none, none, none, none] [.inl (x3), rf 10 ((m_i σ 2 (0) 5).toNatClampNeg)] σ29 (.inl none, σ') := h
              replace h := ei_put h rfl
              obtain ⟨ht31, f, g, h⟩ := h
              clear g
              obtain ⟨σ32, e33⟩ : ∃ s, s = m_set σ29 10 ((m_i σ 2 (0) 5).toNatClampNeg) (2) (.inl (x3)) := ⟨_, rfl⟩
              rw [← e33] at h
              have hsσ32 : HS σ32 := by rw [e33]; exact HS_set hsσ29 rfl
              refine ⟨σ32, e33, ?_⟩
              replace h : EV F f 32 z32 88 [some (rf 2 (0)), some (rf 8 (i23)), some (.inl (x2)), some (.inl (x3)), some (.inl (x4)), some (.inl (x5)), some (.inl (x6)), some (.inr (.inr (some q10))), some (.inr (.inr (some q14))), some (rf 10 ((m_i σ 2 (0) 5).toNatClampNeg)), none, none, none, none, none, none] [] σ32 (.inl none, σ') := h
              replace h := ei_p h rfl rfl rfl rfl
              obtain ⟨f, g, h⟩ := h
              clear g
              replace h : EV F f 32 z32 90 [some (rf 2 (0)), some (rf 8 (i23)), some (.inl (x2)), some (.inl (x3)), some (.inl (x4)), some (.inl (x5)), some (.inl (x6)), some (.inr (.inr (some q10))), some (.inr (.inr (some q14))), some (rf 10 ((m_i σ 2 (0) 5).toNatClampNeg)), none, none, none, none, none, none] [rf 10 ((m_i σ 2 (0) 5).toNatClampNeg)] σ32 (.inl none, σ') := h
              replace h := ei_p h rfl rfl rfl rfl
              obtain ⟨f, g, h⟩ := h
              clear g
              replace h : EV F f 32 z32 92 [some (rf 2 (0)), some (rf 8 (i23)), some (.inl (x2)), some (.inl (x3)), some (.inl (x4)), some (.inl (x5)), some (.inl (x6)), some (.inr (.inr (some q10))), some (.inr (.inr (some q14))), some (rf 10 ((m_i σ 2 (0) 5).toNatClampNeg)), none, none, none, none, none, none] [.inl (x4), rf 10 ((m_i σ 2 (0) 5).toNatClampNeg)] σ32 (.inl none, σ') := h
              replace h := ei_put h rfl
              obtain ⟨ht34, f, g, h⟩ := h
              clear g
              obtain ⟨σ35, e36⟩ : ∃ s, s = m_set σ32 10 ((m_i σ 2 (0) 5).toNatClampNeg) (3) (.inl (x4)) := ⟨_, rfl⟩
              rw [← e36] at h
              have hsσ35 : HS σ35 := by rw [e36]; exact HS_set hsσ32 rfl
              refine ⟨σ35, e36, ?_⟩
              replace h : EV F f 32 z32 95 [some (rf 2 (0)), some (rf 8 (i23)), some (.inl (x2)), some (.inl (x3)), some (.inl (x4)), some (.inl (x5)), some (.inl (x6)), some (.inr (.inr (some q10))), some (.inr (.inr (some q14))), some (rf 10 ((m_i σ 2 (0) 5).toNatClampNeg)), none, none, none, none, none, none] [] σ35 (.inl none, σ') := h
              replace h := ei_p h rfl rfl rfl rfl
              obtain ⟨f, g, h⟩ := h
              clear g
              replace h : EV F f 32 z32 97 [some (rf 2 (0)), some (rf 8 (i23)), some (.inl (x2)), some (.inl (x3)), some (.inl (x4)), some (.inl (x5)), some (.inl (x6)), some (.inr (.inr (some q10))), some (.inr (.inr (some q14))), some (rf 10 ((m_i σ 2 (0) 5).toNatClampNeg)), none, none, none, none, none, none] [rf 10 ((m_i σ 2 (0) 5).toNatClampNeg)] σ35 (.inl none, σ') := h
              replace h := ei_p h rfl rfl rfl rfl
              obtain ⟨f, g, h⟩ := h
              clear g
              replace h : EV F f 32 z32 99 [some (rf 2 (0)), some (rf 8 (i23)), some (.inl (x2)), some (.inl (x3)), some (.inl (x4)), some (.inl (x5)), some (.inl (x6)), some (.inr (.inr (some q10))), some (.inr (.inr (some q14))), some (rf 10 ((m_i σ 2 (0) 5).toNatClampNeg)), none, none, none, none, none, none] [.inl (x5), rf 10 ((m_i σ 2 (0) 5).toNatClampNeg)] σ35 (.inl none, σ') := h
              replace h := ei_put h rfl
              obtain ⟨ht37, f, g, h⟩ := h
              clear g
              obtain ⟨σ38, e39⟩ : ∃ s, s = m_set σ35 10 ((m_i σ 2 (0) 5).toNatClampNeg) (4) (.inl (x5)) := ⟨_, rfl⟩
              rw [← e39] at h
              have hsσ38 : HS σ38 := by rw [e39]; exact HS_set hsσ35 rfl
              refine ⟨σ38, e39, ?_⟩
              replace h : EV F f 32 z32 102 [some (rf 2 (0)), some (rf 8 (i23)), some (.inl (x2)), some (.inl (x3)), some (.inl (x4)), some (.inl (x5)), some (.inl (x6)), some (.inr (.inr (some q10))), some (.inr (.inr (some q14))), some (rf 10 ((m_i σ 2 (0) 5).toNatClampNeg)), none, none, none, none, none, none] [] σ38 (.inl none, σ') := h
              replace h := ei_p h rfl rfl rfl rfl
              obtain ⟨f, g, h⟩ := h
              clear g
              replace h : EV F f 32 z32 104 [some (rf 2 (0)), some (rf 8 (i23)), some (.inl (x2)), some (.inl (x3)), some (.inl (x4)), some (.inl (x5)), some (.inl (x6)), some (.inr (.inr (some q10))), some (.inr (.inr (some q14))), some (rf 10 ((m_i σ 2 (0) 5).toNatClampNeg)), none, none, none, none, none, none] [rf 10 ((m_i σ 2 (0) 5).toNatClampNeg)] σ38 (.inl none, σ') := h
              replace h := ei_p h rfl rfl rfl rfl
              obtain ⟨f, g, h⟩ := h
              clear g
              replace h : EV F f 32 z32 105 [some (rf 2 (0)), some (rf 8 (i23)), some (.inl (x2)), some (.inl (x3)), some (.inl (x4)), some (.inl (x5)), some (.inl (x6)), some (.inr (.inr (some q10))), some (.inr (.inr (some q14))), some (rf 10 ((m_i σ 2 (0) 5).toNatClampNeg)), none, none, none, none, none, none] [rf 2 (0), rf 10 ((m_i σ 2 (0) 5).toNatClampNeg)] σ38 (.inl none, σ') := h
              replace h := ei_get h rfl rfl
              obtain ⟨f, g, h⟩ := h
              clear g
              replace h : EV F f 32 z32 108 [some (rf 2 (0)), some (rf 8 (i23)), some (.inl (x2)), some (.inl (x3)), some (.inl (x4)), some (.inl (x5)), some (.inl (x6)), some (.inr (.inr (some q10))), some (.inr (.inr (some q14))), some (rf 10 ((m_i σ 2 (0) 5).toNatClampNeg)), none, none, none, none, none, none] [.inl (m_i σ38 2 (0) 7), rf 10 ((m_i σ 2 (0) 5).toNatClampNeg)] σ38 (.inl none, σ') := h
              replace h := ei_put h rfl
              obtain ⟨ht40, f, g, h⟩ := h
              clear g
              obtain ⟨σ41, e42⟩ : ∃ s, s = m_set σ38 10 ((m_i σ 2 (0) 5).toNatClampNeg) (5) (.inl (m_i σ38 2 (0) 7)) := ⟨_, rfl⟩
              rw [← e42] at h
              have hsσ41 : HS σ41 := by rw [e42]; exact HS_set hsσ38 rfl
              refine ⟨σ41, e42, ?_⟩
              replace h : EV F f 32 z32 111 [some (rf 2 (0)), some (rf 8 (i23)), some (.inl (x2)), some (.inl (x3)), some (.inl (x4)), some (.inl (x5)), some (.inl (x6)), some (.inr (.inr (some q10))), some (.inr (.inr (some q14))), some (rf 10 ((m_i σ 2 (0) 5).toNatClampNeg)), none, none, none, none, none, none] [] σ41 (.inl none, σ') := h
              replace h := ei_p h rfl rfl rfl rfl
              obtain ⟨f, g, h⟩ := h
              clear g
              replace h : EV F f 32 z32 113 [some (rf 2 (0)), some (rf 8 (i23)), some (.inl (x2)), some (.inl (x3)), some (.inl (x4)), some (.inl (x5)), some (.inl (x6)), some (.inr (.inr (some q10))), some (.inr (.inr (some q14))), some (rf 10 ((m_i σ 2 (0) 5).toNatClampNeg)), none, none, none, none, none, none] [rf 10 ((m_i σ 2 (0) 5).toNatClampNeg)] σ41 (.inl none, σ') := h
              replace h := ei_p h rfl rfl rfl rfl
              obtain ⟨f, g, h⟩ := h
              clear g
              replace h : EV F f 32 z32 114 [some (rf 2 (0)), some (rf 8 (i23)), some (.inl (x2)), some (.inl (x3)), some (.inl (x4)), some (.inl (x5)), some (.inl (x6)), some (.inr (.inr (some q10))), some (.inr (.inr (some q14))), some (rf 10 ((m_i σ 2 (0) 5).toNatClampNeg)), none, none, none, none, none, none] [rf 8 (i23), rf 10 ((m_i σ 2 (0) 5).toNatClampNeg)] σ41 (.inl none, σ') := h
              replace h := ei_get h rfl rfl
              obtain ⟨f, g, h⟩ := h
              clear g
              replace h : EV F f 32 z32 117 [some (rf 2 (0)), some (rf 8 (i23)), some (.inl (x2)), some (.inl (x3)), some (.inl (x4)), some (.inl (x5)), some (.inl (x6)), some (.inr (.inr (some q10))), some (.inr (.inr (some q14))), some (rf 10 ((m_i σ 2 (0) 5).toNatClampNeg)), none, none, none, none, none, none] [.inl (m_i σ41 8 (i23) 6), rf 10 ((m_i σ 2 (0) 5).toNatClampNeg)] σ41 (.inl none, σ') := h
              replace h := ei_put h rfl
              obtain ⟨ht43, f, g, h⟩ := h
              clear g
              obtain ⟨σ44, e45⟩ : ∃ s, s = m_set σ41 10 ((m_i σ 2 (0) 5).toNatClampNeg) (6) (.inl (m_i σ41 8 (i23) 6)) := ⟨_, rfl⟩
              rw [← e45] at h
              have hsσ44 : HS σ44 := by rw [e45]; exact HS_set hsσ41 rfl
              refine ⟨σ44, e45, ?_⟩
              replace h : EV F f 32 z32 120 [some (rf 2 (0)), some (rf 8 (i23)), some (.inl (x2)), some (.inl (x3)), some (.inl (x4)), some (.inl (x5)), some (.inl (x6)), some (.inr (.inr (some q10))), some (.inr (.inr (some q14))), some (rf 10 ((m_i σ 2 (0) 5).toNatClampNeg)), none, none, none, none, none, none] [] σ44 (.inl none, σ') := h
              replace h := ei_p h rfl rfl rfl rfl
              obtain ⟨f, g, h⟩ := h
              clear g
              replace h : EV F f 32 z32 122 [some (rf 2 (0)), some (rf 8 (i23)), some (.inl (x2)), some (.inl (x3)), some (.inl (x4)), some (.inl (x5)), some (.inl (x6)), some (.inr (.inr (some q10))), some (.inr (.inr (some q14))), some (rf 10 ((m_i σ 2 (0) 5).toNatClampNeg)), none, none, none, none, none, none] [rf 10 ((m_i σ 2 (0) 5).toNatClampNeg)] σ44 (.inl none, σ') := h
              replace h := ei_p h rfl rfl rfl rfl
              obtain ⟨f, g, h⟩ := h
              clear g
              replace h : EV F f 32 z32 123 [some (rf 2 (0)), some (rf 8 (i23)), some (.inl (x2)), some (.inl (x3)), some (.inl (x4)), some (.inl (x5)), some (.inl (x6)), some (.inr (.inr (some q10))), some (.inr (.inr (some q14))), some (rf 10 ((m_i σ 2 (0) 5).toNatClampNeg)), none, none, none, none, none, none] [.inl (Int32.ofInt 0), rf 10 ((m_i σ 2 (0) 5).toNatClampNeg)] σ44 (.inl none, σ') := h
              replace h := ei_put h rfl
              obtain ⟨ht46, f, g, h⟩ := h
              clear g
              obtain ⟨σ47, e48⟩ : ∃ s, s = m_set σ44 10 ((m_i σ 2 (0) 5).toNatClampNeg) (9) (.inl (Int32.ofInt 0)) := ⟨_, rfl⟩
              rw [← e48] at h
              have hsσ47 : HS σ47 := by rw [e48]; exact HS_set hsσ44 rfl
              refine ⟨σ47, e48, ?_⟩
              replace h : EV F f 32 z32 126 [some (rf 2 (0)), some (rf 8 (i23)), some (.inl (x2)), some (.inl (x3)), some (.inl (x4)), some (.inl (x5)), some (.inl (x6)), some (.inr (.inr (some q10))), some (.inr (.inr (some q14))), some (rf 10 ((m_i σ 2 (0) 5).toNatClampNeg)), none, none, none, none, none, none] [] σ47 (.inl none, σ') := h
              replace h := ei_p h rfl rfl rfl rfl
              obtain ⟨f, g, h⟩ := h
              clear g
              replace h : EV F f 32 z32 127 [some (rf 2 (0)), some (rf 8 (i23)), some (.inl (x2)), some (.inl (x3)), some (.inl (x4)), some (.inl (x5)), some (.inl (x6)), some (.inr (.inr (some q10))), some (.inr (.inr (some q14))), some (rf 10 ((m_i σ 2 (0) 5).toNatClampNeg)), none, none, none, none, none, none] [.inl (x2)] σ47 (.inl none, σ') := h
              replace h := ei_p h rfl rfl rfl rfl
              obtain ⟨f, g, h⟩ := h
              clear g
              replace h : EV F f 32 z32 128 [some (rf 2 (0)), some (rf 8 (i23)), some (.inl (x2)), some (.inl (x3)), some (.inl (x4)), some (.inl (x5)), some (.inl (x6)), some (.inr (.inr (some q10))), some (.inr (.inr (some q14))), some (rf 10 ((m_i σ 2 (0) 5).toNatClampNeg)), none, none, none, none, none, none] [.inr (.inl ((x2).toInt64))] σ47 (.inl none, σ') := h
              replace h := ei_p h rfl rfl rfl rfl
              obtain ⟨f, g, h⟩ := h
              clear g
              replace h : EV F f 32 z32 129 [some (rf 2 (0)), some (rf 8 (i23)), some (.inl (x2)), some (.inl (x3)), some (.inl (x4)), some (.inl (x5)), some (.inl (x6)), some (.inr (.inr (some q10))), some (.inr (.inr (some q14))), some (rf 10 ((m_i σ 2 (0) 5).toNatClampNeg)), none, none, none, none, none, none] [.inl (x3), .inr (.inl ((x2).toInt64))] σ47 (.inl none, σ') := h
              replace h := ei_p h rfl rfl rfl rfl
              obtain ⟨f, g, h⟩ := h
              clear g
              replace h : EV F f 32 z32 130 [some (rf 2 (0)), some (rf 8 (i23)), some (.inl (x2)), some (.inl (x3)), some (.inl (x4)), some (.inl (x5)), some (.inl (x6)), some (.inr (.inr (some q10))), some (.inr (.inr (some q14))), some (rf 10 ((m_i σ 2 (0) 5).toNatClampNeg)), none, none, none, none, none, none] [.inr (.inl ((x3).toInt64)), .inr (.inl ((x2).toInt64))] σ47 (.inl none, σ') := h
              replace h := ei_p h rfl rfl rfl rfl
              obtain ⟨f, g, h⟩ := h
              clear g
              replace h : EV F f 32 z32 131 [some (rf 2 (0)), some (rf 8 (i23)), some (.inl (x2)), some (.inl (x3)), some (.inl (x4)), some (.inl (x5)), some (.inl (x6)), some (.inr (.inr (some q10))), some (.inr (.inr (some q14))), some (rf 10 ((m_i σ 2 (0) 5).toNatClampNeg)), none, none, none, none, none, none] [.inr (.inl (((x2).toInt64) * ((x3).toInt64)))] σ47 (.inl none, σ') := h
              replace h := ei_p h rfl rfl rfl rfl
              obtain ⟨f, g, h⟩ := h
              clear g
              replace h : EV F f 32 z32 133 [some (rf 2 (0)), some (rf 8 (i23)), some (.inl (x2)), some (.inl (x3)), some (.inl (x4)), some (.inl (x5)), some (.inl (x6)), some (.inr (.inr (some q10))), some (.inr (.inr (some q14))), some (rf 10 ((m_i σ 2 (0) 5).toNatClampNeg)), some (.inr (.inl (((x2).toInt64) * ((x3).toInt64)))), none, none, none, none, none] [] σ47 (.inl none, σ') := h
              obtain ⟨n49, e50⟩ : ∃ s, s = ((x2).toInt64) * ((x3).toInt64) := ⟨_, rfl⟩
              rw [← e50] at h
              refine ⟨n49, e50, ?_⟩
              replace h : EV F f 32 z32 133 [some (rf 2 (0)), some (rf 8 (i23)), some (.inl (x2)), some (.inl (x3)), some (.inl (x4)), some (.inl (x5)), some (.inl (x6)), some (.inr (.inr (some q10))), some (.inr (.inr (some q14))), some (rf 10 ((m_i σ 2 (0) 5).toNatClampNeg)), some (.inr (.inl (n49))), none, none, none, none, none] [] σ47 (.inl none, σ') := h
              replace h := ei_p h rfl rfl rfl rfl
              obtain ⟨f, g, h⟩ := h
              clear g
              replace h : EV F f 32 z32 135 [some (rf 2 (0)), some (rf 8 (i23)), some (.inl (x2)), some (.inl (x3)), some (.inl (x4)), some (.inl (x5)), some (.inl (x6)), some (.inr (.inr (some q10))), some (.inr (.inr (some q14))), some (rf 10 ((m_i σ 2 (0) 5).toNatClampNeg)), some (.inr (.inl (n49))), none, none, none, none, none] [.inr (.inl (n49))] σ47 (.inl none, σ') := h
              replace h := ei_p h rfl rfl rfl rfl
              obtain ⟨f, g, h⟩ := h
              clear g
              replace h : EV F f 32 z32 137 [some (rf 2 (0)), some (rf 8 (i23)), some (.inl (x2)), some (.inl (x3)), some (.inl (x4)), some (.inl (x5)), some (.inl (x6)), some (.inr (.inr (some q10))), some (.inr (.inr (some q14))), some (rf 10 ((m_i σ 2 (0) 5).toNatClampNeg)), some (.inr (.inl (n49))), none, none, none, none, none] [.inl (x6), .inr (.inl (n49))] σ47 (.inl none, σ') := h
              replace h := ei_c h rfl rfl rfl
              rcases h with ⟨hp51, f, g, h⟩ | ⟨hp51, f, g, h⟩
              · skip
                replace hp51 : (x6).toInt = (0 : Int) := ic_eq.mp hp51
                refine Or.inl ⟨hp51, ?_⟩
                clear g
                replace h : EV F f 32 z32 145 [some (rf 2 (0)), some (rf 8 (i23)), some (.inl (x2)), some (.inl (x3)), some (.inl (x4)), some (.inl (x5)), some (.inl (x6)), some (.inr (.inr (some q10))), some (.inr (.inr (some q14))), some (rf 10 ((m_i σ 2 (0) 5).toNatClampNeg)), some (.inr (.inl (n49))), none, none, none, none, none] [.inr (.inl (n49))] σ47 (.inl none, σ') := h
                replace h := ei_p h rfl rfl rfl rfl
                obtain ⟨f, g, h⟩ := h
                clear g
                replace h : EV F f 32 z32 147 [some (rf 2 (0)), some (rf 8 (i23)), some (.inl (x2)), some (.inl (x3)), some (.inl (x4)), some (.inl (x5)), some (.inl (x6)), some (.inr (.inr (some q10))), some (.inr (.inr (some q14))), some (rf 10 ((m_i σ 2 (0) 5).toNatClampNeg)), some (.inr (.inl (n49))), none, none, none, none, none] [.inr (.inr (some q14)), .inr (.inl (n49))] σ47 (.inl none, σ') := h
                exact j32_147 hsσ47 h
              · skip
                replace hp51 : ¬ ((x6).toInt = (0 : Int)) := (not_congr ic_eq).mp hp51
                refine Or.inr ⟨hp51, ?_⟩
                clear g
                replace h : EV F f 32 z32 140 [some (rf 2 (0)), some (rf 8 (i23)), some (.inl (x2)), some (.inl (x3)), some (.inl (x4)), some (.inl (x5)), some (.inl (x6)), some (.inr (.inr (some q10))), some (.inr (.inr (some q14))), some (rf 10 ((m_i σ 2 (0) 5).toNatClampNeg)), some (.inr (.inl (n49))), none, none, none, none, none] [.inr (.inl (n49))] σ47 (.inl none, σ') := h
                replace h := ei_p h rfl rfl rfl rfl
                obtain ⟨f, g, h⟩ := h
                clear g
                replace h : EV F f 32 z32 142 [some (rf 2 (0)), some (rf 8 (i23)), some (.inl (x2)), some (.inl (x3)), some (.inl (x4)), some (.inl (x5)), some (.inl (x6)), some (.inr (.inr (some q10))), some (.inr (.inr (some q14))), some (rf 10 ((m_i σ 2 (0) 5).toNatClampNeg)), some (.inr (.inl (n49))), none, none, none, none, none] [.inr (.inr (some q10)), .inr (.inl (n49))] σ47 (.inl none, σ') := h
                replace h := ei_p h rfl rfl rfl rfl
                obtain ⟨f, g, h⟩ := h
                clear g
                replace h : EV F f 32 z32 147 [some (rf 2 (0)), some (rf 8 (i23)), some (.inl (x2)), some (.inl (x3)), some (.inl (x4)), some (.inl (x5)), some (.inl (x6)), some (.inr (.inr (some q10))), some (.inr (.inr (some q14))), some (rf 10 ((m_i σ 2 (0) 5).toNatClampNeg)), some (.inr (.inl (n49))), none, none, none, none, none] [.inr (.inr (some q10)), .inr (.inl (n49))] σ47 (.inl none, σ') := h
                exact j32_147 hsσ47 h
            · skip
              replace hp18 : ¬ ((m_i σ 2 (0) 5).toInt < (200 : Int)) := (not_congr ic_lt).mp hp18
              refine Or.inr ⟨hp18, ?_⟩
              clear g
              replace h : EV F f 32 z32 45 [some (rf 2 (0)), some (.inr (.inr (x1))), some (.inl (x2)), some (.inl (x3)), some (.inl (x4)), some (.inl (x5)), some (.inl (x6)), some (.inr (.inr (some q10))), some (.inr (.inr (some q14))), none, none, none, none, none, none, none] [] σ (.inl none, σ') := h
              have e := ei_ret h rfl
              cases e
              exact rfl
def z33 : mAl := ((yX2_canBeBroken, cX2_canBeBroken, 2, (some .boolean), { frames := 2, cells := 0, slots := 0, locals := 43 }, []), rw_X2_canBeBroken, false)
theorem z33_at : m_alF[33]? = some z33 := rfl
def J33_47 (σ : mS) (w : Int32) : Prop := w = (Int32.ofInt 0)
theorem j33_47 {F f : Nat} {σ σ' : mS} {y0 : Option mV} {y1 : Option mV} {w : Int32} (hs : HS σ) (h : EV F f 33 z33 47 [y0, y1] [] σ (.inl (some (.inl w)), σ')) : J33_47 σ w := by
  unfold J33_47
  replace h := ei_p h rfl rfl rfl rfl
  obtain ⟨f, g, h⟩ := h
  clear g
  replace h : EV F f 33 z33 48 [y0, y1] [.inl (Int32.ofInt 0)] σ (.inl (some (.inl w)), σ') := h
  have e := ei_iret h rfl
  cases e
  exact rfl
def P33 (σ : mS) (x1 : mR) (w : Int32) : Prop := ∃ i1, x1 = some (10, i1) ∧ (((m_i σ 10 (i1) 9).toInt ≠ (0 : Int) ∧ J33_47 σ w) ∨ (¬ ((m_i σ 10 (i1) 9).toInt ≠ (0 : Int)) ∧ (((20 : Int) < ((m_i σ 2 (0) 7) - (m_i σ 10 (i1) 5)).toInt ∧ J33_47 σ w) ∨ (¬ ((20 : Int) < ((m_i σ 2 (0) 7) - (m_i σ 10 (i1) 5)).toInt) ∧ ∃ v5, P26 σ (m_i σ 10 (i1) 3) v5 ∧ (((v5).toInt ≠ (0 : Int) ∧ J33_47 σ w) ∨ (¬ ((v5).toInt ≠ (0 : Int)) ∧ ∃ v10, P26 σ (m_i σ 10 (i1) 4) v10 ∧ (((v10).toInt ≠ (0 : Int) ∧ J33_47 σ w) ∨ (¬ ((v10).toInt ≠ (0 : Int)) ∧ w = (Int32.ofInt 1)))))))))
theorem x33 {σ σ' : mS} {x1 : mR} {w : Int32} (hs : HS σ) (h : ev_run sm_all 33 [rf 2 (0), .inr (.inr (x1))] σ (.inl (some (.inl w))) σ') : P33 σ x1 w := by
  unfold P33
  obtain ⟨F, f, h⟩ := ei_go h z33_at
  replace h : EV F f 33 z33 0 [some (rf 2 (0)), some (.inr (.inr (x1)))] [] σ (.inl (some (.inl w)), σ') := h
  replace h := ei_p h rfl rfl rfl rfl
  obtain ⟨f, g, h⟩ := h
  clear g
  replace h : EV F f 33 z33 1 [some (rf 2 (0)), some (.inr (.inr (x1)))] [.inr (.inr (x1))] σ (.inl (some (.inl w)), σ') := h
  obtain ⟨i1, e2⟩ := ei_gp h rfl
  rw [e2] at h
  refine ⟨i1, e2, ?_⟩
  replace h : EV F f 33 z33 1 [some (rf 2 (0)), some (rf 10 (i1))] [rf 10 (i1)] σ (.inl (some (.inl w)), σ') := h
  replace h := ei_get h rfl rfl
  obtain ⟨f, g, h⟩ := h
  clear g
  replace h : EV F f 33 z33 4 [some (rf 2 (0)), some (rf 10 (i1))] [.inl (m_i σ 10 (i1) 9)] σ (.inl (some (.inl w)), σ') := h
  replace h := ei_c h rfl rfl rfl
  rcases h with ⟨hp3, f, g, h⟩ | ⟨hp3, f, g, h⟩
  · skip
    replace hp3 : (m_i σ 10 (i1) 9).toInt ≠ (0 : Int) := ic_ne.mp hp3
    refine Or.inl ⟨hp3, ?_⟩
    clear g
    replace h : EV F f 33 z33 47 [some (rf 2 (0)), some (rf 10 (i1))] [] σ (.inl (some (.inl w)), σ') := h
    exact j33_47 hs h
  · skip
    replace hp3 : ¬ ((m_i σ 10 (i1) 9).toInt ≠ (0 : Int)) := (not_congr ic_ne).mp hp3
    refine Or.inr ⟨hp3, ?_⟩
    clear g
    replace h : EV F f 33 z33 7 [some (rf 2 (0)), some (rf 10 (i1))] [] σ (.inl (some (.inl w)), σ') := h
    replace h := ei_p h rfl rfl rfl rfl
    obtain ⟨f, g, h⟩ := h
    clear g
    replace h : EV F f 33 z33 8 [some (rf 2 (0)), some (rf 10 (i1))] [rf 2 (0)] σ (.inl (some (.inl w)), σ') := h
    replace h := ei_get h rfl rfl
    obtain ⟨f, g, h⟩ := h
    clear g
    replace h : EV F f 33 z33 11 [some (rf 2 (0)), some (rf 10 (i1))] [.inl (m_i σ 2 (0) 7)] σ (.inl (some (.inl w)), σ') := h
    replace h := ei_p h rfl rfl rfl rfl
    obtain ⟨f, g, h⟩ := h
    clear g
    replace h : EV F f 33 z33 12 [some (rf 2 (0)), some (rf 10 (i1))] [rf 10 (i1), .inl (m_i σ 2 (0) 7)] σ (.inl (some (.inl w)), σ') := h
    replace h := ei_get h rfl rfl
    obtain ⟨f, g, h⟩ := h
    clear g
    replace h : EV F f 33 z33 15 [some (rf 2 (0)), some (rf 10 (i1))] [.inl (m_i σ 10 (i1) 5), .inl (m_i σ 2 (0) 7)] σ (.inl (some (.inl w)), σ') := h
    replace h := ei_p h rfl rfl rfl rfl
    obtain ⟨f, g, h⟩ := h
    clear g
    replace h : EV F f 33 z33 16 [some (rf 2 (0)), some (rf 10 (i1))] [.inl ((m_i σ 2 (0) 7) - (m_i σ 10 (i1) 5))] σ (.inl (some (.inl w)), σ') := h
    replace h := ei_p h rfl rfl rfl rfl
    obtain ⟨f, g, h⟩ := h
    clear g
    replace h : EV F f 33 z33 18 [some (rf 2 (0)), some (rf 10 (i1))] [.inl (Int32.ofInt 20), .inl ((m_i σ 2 (0) 7) - (m_i σ 10 (i1) 5))] σ (.inl (some (.inl w)), σ') := h
    replace h := ei_c h rfl rfl rfl
    rcases h with ⟨hp4, f, g, h⟩ | ⟨hp4, f, g, h⟩
    · skip
      replace hp4 : (20 : Int) < ((m_i σ 2 (0) 7) - (m_i σ 10 (i1) 5)).toInt := ic_gt.mp hp4
      refine Or.inl ⟨hp4, ?_⟩
      clear g
      replace h : EV F f 33 z33 47 [some (rf 2 (0)), some (rf 10 (i1))] [] σ (.inl (some (.inl w)), σ') := h
      exact j33_47 hs h
    · skip
      replace hp4 : ¬ ((20 : Int) < ((m_i σ 2 (0) 7) - (m_i σ 10 (i1) 5)).toInt) := (not_congr ic_gt).mp hp4
      refine Or.inr ⟨hp4, ?_⟩
      clear g
      replace h : EV F f 33 z33 21 [some (rf 2 (0)), some (rf 10 (i1))] [] σ (.inl (some (.inl w)), σ') := h
      replace h := ei_p h rfl rfl rfl rfl
      obtain ⟨f, g, h⟩ := h
      clear g
      replace h : EV F f 33 z33 22 [some (rf 2 (0)), some (rf 10 (i1))] [rf 2 (0)] σ (.inl (some (.inl w)), σ') := h
      replace h := ei_p h rfl rfl rfl rfl
      obtain ⟨f, g, h⟩ := h
      clear g
      replace h : EV F f 33 z33 23 [some (rf 2 (0)), some (rf 10 (i1))] [rf 10 (i1), rf 2 (0)] σ (.inl (some (.inl w)), σ') := h
      replace h := ei_get h rfl rfl
      obtain ⟨f, g, h⟩ := h
      clear g
      replace h : EV F f 33 z33 26 [some (rf 2 (0)), some (rf 10 (i1))] [.inl (m_i σ 10 (i1) 3), rf 2 (0)] σ (.inl (some (.inl w)), σ') := h
      replace h := bk_I (ei_v (as := [.inl (m_i σ 10 (i1) 3)]) h rfl rfl rfl) rfl z26_at (Or.inr rfl)
      obtain ⟨v5, σ6, r7, f, g, h⟩ := h
      clear g
      have er7 := ro_run rfl r7
      rw [er7] at h r7
      have p8 := x26 hs r7
      refine ⟨v5, p8, ?_⟩
      replace h : EV F f 33 z33 29 [some (rf 2 (0)), some (rf 10 (i1))] [.inl (v5)] σ (.inl (some (.inl w)), σ') := h
      replace h := ei_c h rfl rfl rfl
      rcases h with ⟨hp9, f, g, h⟩ | ⟨hp9, f, g, h⟩
      · skip
        replace hp9 : (v5).toInt ≠ (0 : Int) := ic_ne.mp hp9
        refine Or.inl ⟨hp9, ?_⟩
        clear g
        replace h : EV F f 33 z33 47 [some (rf 2 (0)), some (rf 10 (i1))] [] σ (.inl (some (.inl w)), σ') := h
        exact j33_47 hs h
      · skip
        replace hp9 : ¬ ((v5).toInt ≠ (0 : Int)) := (not_congr ic_ne).mp hp9
        refine Or.inr ⟨hp9, ?_⟩
        clear g
        replace h : EV F f 33 z33 32 [some (rf 2 (0)), some (rf 10 (i1))] [] σ (.inl (some (.inl w)), σ') := h
        replace h := ei_p h rfl rfl rfl rfl
        obtain ⟨f, g, h⟩ := h
        clear g
        replace h : EV F f 33 z33 33 [some (rf 2 (0)), some (rf 10 (i1))] [rf 2 (0)] σ (.inl (some (.inl w)), σ') := h
        replace h := ei_p h rfl rfl rfl rfl
        obtain ⟨f, g, h⟩ := h
        clear g
        replace h : EV F f 33 z33 34 [some (rf 2 (0)), some (rf 10 (i1))] [rf 10 (i1), rf 2 (0)] σ (.inl (some (.inl w)), σ') := h
        replace h := ei_get h rfl rfl
        obtain ⟨f, g, h⟩ := h
        clear g
        replace h : EV F f 33 z33 37 [some (rf 2 (0)), some (rf 10 (i1))] [.inl (m_i σ 10 (i1) 4), rf 2 (0)] σ (.inl (some (.inl w)), σ') := h
        replace h := bk_I (ei_v (as := [.inl (m_i σ 10 (i1) 4)]) h rfl rfl rfl) rfl z26_at (Or.inr rfl)
        obtain ⟨v10, σ11, r12, f, g, h⟩ := h
        clear g
        have er12 := ro_run rfl r12
        rw [er12] at h r12
        have p13 := x26 hs r12
        refine ⟨v10, p13, ?_⟩
        replace h : EV F f 33 z33 40 [some (rf 2 (0)), some (rf 10 (i1))] [.inl (v10)] σ (.inl (some (.inl w)), σ') := h
        replace h := ei_c h rfl rfl rfl
        rcases h with ⟨hp14, f, g, h⟩ | ⟨hp14, f, g, h⟩
        · skip
          replace hp14 : (v10).toInt ≠ (0 : Int) := ic_ne.mp hp14
          refine Or.inl ⟨hp14, ?_⟩
          clear g
          replace h : EV F f 33 z33 47 [some (rf 2 (0)), some (rf 10 (i1))] [] σ (.inl (some (.inl w)), σ') := h
          exact j33_47 hs h
        · skip
          replace hp14 : ¬ ((v10).toInt ≠ (0 : Int)) := (not_congr ic_ne).mp hp14
          refine Or.inr ⟨hp14, ?_⟩
          clear g
          replace h : EV F f 33 z33 43 [some (rf 2 (0)), some (rf 10 (i1))] [] σ (.inl (some (.inl w)), σ') := h
          replace h := ei_p h rfl rfl rfl rfl
          obtain ⟨f, g, h⟩ := h
          clear g
          replace h : EV F f 33 z33 44 [some (rf 2 (0)), some (rf 10 (i1))] [.inl (Int32.ofInt 1)] σ (.inl (some (.inl w)), σ') := h
          replace h := ei_p h rfl rfl rfl rfl
          obtain ⟨f, g, h⟩ := h
          clear g
          replace h : EV F f 33 z33 48 [some (rf 2 (0)), some (rf 10 (i1))] [.inl (Int32.ofInt 1)] σ (.inl (some (.inl w)), σ') := h
          have e := ei_iret h rfl
          cases e
          exact rfl
