/-! the class's methods as relations: 11 opensBetter, 10 openingPrice, 106 goAway, 12 useShown, 13 useAll, 14 takeAwayOf, 117 partOf, 107 divideBy, 15 divide, 24 paperAt, 112 wakesStops, 104 wakesAt, 16 firstToWake, 18 <init>, 19 with -/
def z11 : mAl := ((yX0_opensBetter, cX0_opensBetter, 12, (some .boolean), { frames := 2, cells := 0, slots := 0, locals := 49 }, []), rw_X0_opensBetter, false)
theorem z11_at : m_alF[11]? = some z11 := rfl
def P11 (σ : mS) (x1 : Int32) (x2 : Int32) (x3 : Int32) (x4 : Int32) (w : Int32) : Prop := ∃ v1, P8 σ (x1) (Int32.ofInt 0) (x2) (Int32.ofInt (-1)) v1 ∧ ∃ v5, P8 σ (x1) (Int32.ofInt 1) (x2) (Int32.ofInt (-1)) v5 ∧ ∃ v9, P8 σ (x1) (Int32.ofInt 0) (x3) (Int32.ofInt (-1)) v9 ∧ ∃ v13, P8 σ (x1) (Int32.ofInt 1) (x3) (Int32.ofInt (-1)) v13 ∧ ∃ n17, n17 = (jmin (v1) (v5)) - (jmin (v9) (v13)) ∧ (((n17).toInt = (0 : Int) ∧ ∃ n20, n20 = (jabs ((v1) - (v5))) - (jabs ((v9) - (v13))) ∧ (((n20).toInt = (0 : Int) ∧ ∃ n23, n23 = (jabs ((x2) - (x4))) - (jabs ((x3) - (x4))) ∧ (((n23).toInt ≠ (0 : Int) ∧ (((0 : Int) ≤ (n23).toInt ∧ w = (Int32.ofInt 0)) ∨ (¬ ((0 : Int) ≤ (n23).toInt) ∧ w = (Int32.ofInt 1)))) ∨ (¬ ((n23).toInt ≠ (0 : Int)) ∧ (((x3).toInt ≤ (x2).toInt ∧ w = (Int32.ofInt 0)) ∨ (¬ ((x3).toInt ≤ (x2).toInt) ∧ w = (Int32.ofInt 1)))))) ∨ (¬ ((n20).toInt = (0 : Int)) ∧ (((0 : Int) ≤ (n20).toInt ∧ w = (Int32.ofInt 0)) ∨ (¬ ((0 : Int) ≤ (n20).toInt) ∧ w = (Int32.ofInt 1)))))) ∨ (¬ ((n17).toInt = (0 : Int)) ∧ (((n17).toInt ≤ (0 : Int) ∧ w = (Int32.ofInt 0)) ∨ (¬ ((n17).toInt ≤ (0 : Int)) ∧ w = (Int32.ofInt 1)))))
theorem x11 {σ σ' : mS} {x1 : Int32} {x2 : Int32} {x3 : Int32} {x4 : Int32} {w : Int32} (hs : HS σ) (h : ev_run sm_all 11 [rf 0 (0), .inl (x1), .inl (x2), .inl (x3), .inl (x4)] σ (.inl (some (.inl w))) σ') : P11 σ x1 x2 x3 x4 w := by
  unfold P11
  obtain ⟨F, f, h⟩ := ei_go h z11_at
  replace h : EV F f 11 z11 0 [some (rf 0 (0)), some (.inl (x1)), some (.inl (x2)), some (.inl (x3)), some (.inl (x4)), none, none, none, none, none, none, none] [] σ (.inl (some (.inl w)), σ') := h
  replace h := ei_p h rfl rfl rfl rfl
  obtain ⟨f, g, h⟩ := h
  clear g
  replace h : EV F f 11 z11 1 [some (rf 0 (0)), some (.inl (x1)), some (.inl (x2)), some (.inl (x3)), some (.inl (x4)), none, none, none, none, none, none, none] [rf 0 (0)] σ (.inl (some (.inl w)), σ') := h
  replace h := ei_p h rfl rfl rfl rfl
  obtain ⟨f, g, h⟩ := h
  clear g
  replace h : EV F f 11 z11 2 [some (rf 0 (0)), some (.inl (x1)), some (.inl (x2)), some (.inl (x3)), some (.inl (x4)), none, none, none, none, none, none, none] [.inl (x1), rf 0 (0)] σ (.inl (some (.inl w)), σ') := h
  replace h := ei_p h rfl rfl rfl rfl
  obtain ⟨f, g, h⟩ := h
  clear g
  replace h : EV F f 11 z11 3 [some (rf 0 (0)), some (.inl (x1)), some (.inl (x2)), some (.inl (x3)), some (.inl (x4)), none, none, none, none, none, none, none] [.inl (Int32.ofInt 0), .inl (x1), rf 0 (0)] σ (.inl (some (.inl w)), σ') := h
  replace h := ei_p h rfl rfl rfl rfl
  obtain ⟨f, g, h⟩ := h
  clear g
  replace h : EV F f 11 z11 4 [some (rf 0 (0)), some (.inl (x1)), some (.inl (x2)), some (.inl (x3)), some (.inl (x4)), none, none, none, none, none, none, none] [.inl (x2), .inl (Int32.ofInt 0), .inl (x1), rf 0 (0)] σ (.inl (some (.inl w)), σ') := h
  replace h := ei_p h rfl rfl rfl rfl
  obtain ⟨f, g, h⟩ := h
  clear g
  replace h : EV F f 11 z11 5 [some (rf 0 (0)), some (.inl (x1)), some (.inl (x2)), some (.inl (x3)), some (.inl (x4)), none, none, none, none, none, none, none] [.inl (Int32.ofInt (-1)), .inl (x2), .inl (Int32.ofInt 0), .inl (x1), rf 0 (0)] σ (.inl (some (.inl w)), σ') := h
  replace h := bk_I (ei_v (as := [.inl (Int32.ofInt (-1)), .inl (x2), .inl (Int32.ofInt 0), .inl (x1)]) h rfl rfl rfl) rfl z8_at (Or.inl rfl)
  obtain ⟨v1, σ2, r3, f, g, h⟩ := h
  clear g
  have er3 := ro_run rfl r3
  rw [er3] at h r3
  have p4 := x8 hs r3
  refine ⟨v1, p4, ?_⟩
  replace h : EV F f 11 z11 8 [some (rf 0 (0)), some (.inl (x1)), some (.inl (x2)), some (.inl (x3)), some (.inl (x4)), none, none, none, none, none, none, none] [.inl (v1)] σ (.inl (some (.inl w)), σ') := h
  replace h := ei_p h rfl rfl rfl rfl
  obtain ⟨f, g, h⟩ := h
  clear g
  replace h : EV F f 11 z11 10 [some (rf 0 (0)), some (.inl (x1)), some (.inl (x2)), some (.inl (x3)), some (.inl (x4)), some (.inl (v1)), none, none, none, none, none, none] [] σ (.inl (some (.inl w)), σ') := h
  replace h := ei_p h rfl rfl rfl rfl
  obtain ⟨f, g, h⟩ := h
  clear g
  replace h : EV F f 11 z11 11 [some (rf 0 (0)), some (.inl (x1)), some (.inl (x2)), some (.inl (x3)), some (.inl (x4)), some (.inl (v1)), none, none, none, none, none, none] [rf 0 (0)] σ (.inl (some (.inl w)), σ') := h
  replace h := ei_p h rfl rfl rfl rfl
  obtain ⟨f, g, h⟩ := h
  clear g
  replace h : EV F f 11 z11 12 [some (rf 0 (0)), some (.inl (x1)), some (.inl (x2)), some (.inl (x3)), some (.inl (x4)), some (.inl (v1)), none, none, none, none, none, none] [.inl (x1), rf 0 (0)] σ (.inl (some (.inl w)), σ') := h
  replace h := ei_p h rfl rfl rfl rfl
  obtain ⟨f, g, h⟩ := h
  clear g
  replace h : EV F f 11 z11 13 [some (rf 0 (0)), some (.inl (x1)), some (.inl (x2)), some (.inl (x3)), some (.inl (x4)), some (.inl (v1)), none, none, none, none, none, none] [.inl (Int32.ofInt 1), .inl (x1), rf 0 (0)] σ (.inl (some (.inl w)), σ') := h
  replace h := ei_p h rfl rfl rfl rfl
  obtain ⟨f, g, h⟩ := h
  clear g
  replace h : EV F f 11 z11 14 [some (rf 0 (0)), some (.inl (x1)), some (.inl (x2)), some (.inl (x3)), some (.inl (x4)), some (.inl (v1)), none, none, none, none, none, none] [.inl (x2), .inl (Int32.ofInt 1), .inl (x1), rf 0 (0)] σ (.inl (some (.inl w)), σ') := h
  replace h := ei_p h rfl rfl rfl rfl
  obtain ⟨f, g, h⟩ := h
  clear g
  replace h : EV F f 11 z11 15 [some (rf 0 (0)), some (.inl (x1)), some (.inl (x2)), some (.inl (x3)), some (.inl (x4)), some (.inl (v1)), none, none, none, none, none, none] [.inl (Int32.ofInt (-1)), .inl (x2), .inl (Int32.ofInt 1), .inl (x1), rf 0 (0)] σ (.inl (some (.inl w)), σ') := h
  replace h := bk_I (ei_v (as := [.inl (Int32.ofInt (-1)), .inl (x2), .inl (Int32.ofInt 1), .inl (x1)]) h rfl rfl rfl) rfl z8_at (Or.inl rfl)
  obtain ⟨v5, σ6, r7, f, g, h⟩ := h
  clear g
  have er7 := ro_run rfl r7
  rw [er7] at h r7
  have p8 := x8 hs r7
  refine ⟨v5, p8, ?_⟩
  replace h : EV F f 11 z11 18 [some (rf 0 (0)), some (.inl (x1)), some (.inl (x2)), some (.inl (x3)), some (.inl (x4)), some (.inl (v1)), none, none, none, none, none, none] [.inl (v5)] σ (.inl (some (.inl w)), σ') := h
  replace h := ei_p h rfl rfl rfl rfl
  obtain ⟨f, g, h⟩ := h
  clear g
  replace h : EV F f 11 z11 20 [some (rf 0 (0)), some (.inl (x1)), some (.inl (x2)), some (.inl (x3)), some (.inl (x4)), some (.inl (v1)), some (.inl (v5)), none, none, none, none, none] [] σ (.inl (some (.inl w)), σ') := h
  replace h := ei_p h rfl rfl rfl rfl
  obtain ⟨f, g, h⟩ := h
  clear g
  replace h : EV F f 11 z11 21 [some (rf 0 (0)), some (.inl (x1)), some (.inl (x2)), some (.inl (x3)), some (.inl (x4)), some (.inl (v1)), some (.inl (v5)), none, none, none, none, none] [rf 0 (0)] σ (.inl (some (.inl w)), σ') := h
  replace h := ei_p h rfl rfl rfl rfl
  obtain ⟨f, g, h⟩ := h
  clear g
  replace h : EV F f 11 z11 22 [some (rf 0 (0)), some (.inl (x1)), some (.inl (x2)), some (.inl (x3)), some (.inl (x4)), some (.inl (v1)), some (.inl (v5)), none, none, none, none, none] [.inl (x1), rf 0 (0)] σ (.inl (some (.inl w)), σ') := h
  replace h := ei_p h rfl rfl rfl rfl
  obtain ⟨f, g, h⟩ := h
  clear g
  replace h : EV F f 11 z11 23 [some (rf 0 (0)), some (.inl (x1)), some (.inl (x2)), some (.inl (x3)), some (.inl (x4)), some (.inl (v1)), some (.inl (v5)), none, none, none, none, none] [.inl (Int32.ofInt 0), .inl (x1), rf 0 (0)] σ (.inl (some (.inl w)), σ') := h
  replace h := ei_p h rfl rfl rfl rfl
  obtain ⟨f, g, h⟩ := h
  clear g
  replace h : EV F f 11 z11 24 [some (rf 0 (0)), some (.inl (x1)), some (.inl (x2)), some (.inl (x3)), some (.inl (x4)), some (.inl (v1)), some (.inl (v5)), none, none, none, none, none] [.inl (x3), .inl (Int32.ofInt 0), .inl (x1), rf 0 (0)] σ (.inl (some (.inl w)), σ') := h
  replace h := ei_p h rfl rfl rfl rfl
  obtain ⟨f, g, h⟩ := h
  clear g
  replace h : EV F f 11 z11 25 [some (rf 0 (0)), some (.inl (x1)), some (.inl (x2)), some (.inl (x3)), some (.inl (x4)), some (.inl (v1)), some (.inl (v5)), none, none, none, none, none] [.inl (Int32.ofInt (-1)), .inl (x3), .inl (Int32.ofInt 0), .inl (x1), rf 0 (0)] σ (.inl (some (.inl w)), σ') := h
  replace h := bk_I (ei_v (as := [.inl (Int32.ofInt (-1)), .inl (x3), .inl (Int32.ofInt 0), .inl (x1)]) h rfl rfl rfl) rfl z8_at (Or.inl rfl)
  obtain ⟨v9, σ10, r11, f, g, h⟩ := h
  clear g
  have er11 := ro_run rfl r11
  rw [er11] at h r11
  have p12 := x8 hs r11
  refine ⟨v9, p12, ?_⟩
  replace h : EV F f 11 z11 28 [some (rf 0 (0)), some (.inl (x1)), some (.inl (x2)), some (.inl (x3)), some (.inl (x4)), some (.inl (v1)), some (.inl (v5)), none, none, none, none, none] [.inl (v9)] σ (.inl (some (.inl w)), σ') := h
  replace h := ei_p h rfl rfl rfl rfl
  obtain ⟨f, g, h⟩ := h
  clear g
  replace h : EV F f 11 z11 30 [some (rf 0 (0)), some (.inl (x1)), some (.inl (x2)), some (.inl (x3)), some (.inl (x4)), some (.inl (v1)), some (.inl (v5)), some (.inl (v9)), none, none, none, none] [] σ (.inl (some (.inl w)), σ') := h
  replace h := ei_p h rfl rfl rfl rfl
  obtain ⟨f, g, h⟩ := h
  clear g
  replace h : EV F f 11 z11 31 [some (rf 0 (0)), some (.inl (x1)), some (.inl (x2)), some (.inl (x3)), some (.inl (x4)), some (.inl (v1)), some (.inl (v5)), some (.inl (v9)), none, none, none, none] [rf 0 (0)] σ (.inl (some (.inl w)), σ') := h
  replace h := ei_p h rfl rfl rfl rfl
  obtain ⟨f, g, h⟩ := h
  clear g
  replace h : EV F f 11 z11 32 [some (rf 0 (0)), some (.inl (x1)), some (.inl (x2)), some (.inl (x3)), some (.inl (x4)), some (.inl (v1)), some (.inl (v5)), some (.inl (v9)), none, none, none, none] [.inl (x1), rf 0 (0)] σ (.inl (some (.inl w)), σ') := h
  replace h := ei_p h rfl rfl rfl rfl
  obtain ⟨f, g, h⟩ := h
  clear g
  replace h : EV F f 11 z11 33 [some (rf 0 (0)), some (.inl (x1)), some (.inl (x2)), some (.inl (x3)), some (.inl (x4)), some (.inl (v1)), some (.inl (v5)), some (.inl (v9)), none, none, none, none] [.inl (Int32.ofInt 1), .inl (x1), rf 0 (0)] σ (.inl (some (.inl w)), σ') := h
  replace h := ei_p h rfl rfl rfl rfl
  obtain ⟨f, g, h⟩ := h
  clear g
  replace h : EV F f 11 z11 34 [some (rf 0 (0)), some (.inl (x1)), some (.inl (x2)), some (.inl (x3)), some (.inl (x4)), some (.inl (v1)), some (.inl (v5)), some (.inl (v9)), none, none, none, none] [.inl (x3), .inl (Int32.ofInt 1), .inl (x1), rf 0 (0)] σ (.inl (some (.inl w)), σ') := h
  replace h := ei_p h rfl rfl rfl rfl
  obtain ⟨f, g, h⟩ := h
  clear g
  replace h : EV F f 11 z11 35 [some (rf 0 (0)), some (.inl (x1)), some (.inl (x2)), some (.inl (x3)), some (.inl (x4)), some (.inl (v1)), some (.inl (v5)), some (.inl (v9)), none, none, none, none] [.inl (Int32.ofInt (-1)), .inl (x3), .inl (Int32.ofInt 1), .inl (x1), rf 0 (0)] σ (.inl (some (.inl w)), σ') := h
  replace h := bk_I (ei_v (as := [.inl (Int32.ofInt (-1)), .inl (x3), .inl (Int32.ofInt 1), .inl (x1)]) h rfl rfl rfl) rfl z8_at (Or.inl rfl)
  obtain ⟨v13, σ14, r15, f, g, h⟩ := h
  clear g
  have er15 := ro_run rfl r15
  rw [er15] at h r15
  have p16 := x8 hs r15
  refine ⟨v13, p16, ?_⟩
  replace h : EV F f 11 z11 38 [some (rf 0 (0)), some (.inl (x1)), some (.inl (x2)), some (.inl (x3)), some (.inl (x4)), some (.inl (v1)), some (.inl (v5)), some (.inl (v9)), none, none, none, none] [.inl (v13)] σ (.inl (some (.inl w)), σ') := h
  replace h := ei_p h rfl rfl rfl rfl
  obtain ⟨f, g, h⟩ := h
  clear g
  replace h : EV F f 11 z11 40 [some (rf 0 (0)), some (.inl (x1)), some (.inl (x2)), some (.inl (x3)), some (.inl (x4)), some (.inl (v1)), some (.inl (v5)), some (.inl (v9)), some (.inl (v13)), none, none, none] [] σ (.inl (some (.inl w)), σ') := h
  replace h := ei_p h rfl rfl rfl rfl
  obtain ⟨f, g, h⟩ := h
  clear g
  replace h : EV F f 11 z11 42 [some (rf 0 (0)), some (.inl (x1)), some (.inl (x2)), some (.inl (x3)), some (.inl (x4)), some (.inl (v1)), some (.inl (v5)), some (.inl (v9)), some (.inl (v13)), none, none, none] [.inl (v1)] σ (.inl (some (.inl w)), σ') := h
  replace h := ei_p h rfl rfl rfl rfl
  obtain ⟨f, g, h⟩ := h
  clear g
  replace h : EV F f 11 z11 44 [some (rf 0 (0)), some (.inl (x1)), some (.inl (x2)), some (.inl (x3)), some (.inl (x4)), some (.inl (v1)), some (.inl (v5)), some (.inl (v9)), some (.inl (v13)), none, none, none] [.inl (v5), .inl (v1)] σ (.inl (some (.inl w)), σ') := h
  replace h := ei_m (st' := [.inl (jmin (v1) (v5))]) h rfl (Nat.le_of_ble_eq_true rfl) (fun w hw => (Option.some.inj (ev_if_some.mp hw).2).symm)
  obtain ⟨f, g, h⟩ := h
  clear g
  replace h : EV F f 11 z11 47 [some (rf 0 (0)), some (.inl (x1)), some (.inl (x2)), some (.inl (x3)), some (.inl (x4)), some (.inl (v1)), some (.inl (v5)), some (.inl (v9)), some (.inl (v13)), none, none, none] [.inl (jmin (v1) (v5))] σ (.inl (some (.inl w)), σ') := h
  replace h := ei_p h rfl rfl rfl rfl
  obtain ⟨f, g, h⟩ := h
  clear g
  replace h : EV F f 11 z11 49 [some (rf 0 (0)), some (.inl (x1)), some (.inl (x2)), some (.inl (x3)), some (.inl (x4)), some (.inl (v1)), some (.inl (v5)), some (.inl (v9)), some (.inl (v13)), none, none, none] [.inl (v9), .inl (jmin (v1) (v5))] σ (.inl (some (.inl w)), σ') := h
  replace h := ei_p h rfl rfl rfl rfl
  obtain ⟨f, g, h⟩ := h
  clear g
  replace h : EV F f 11 z11 51 [some (rf 0 (0)), some (.inl (x1)), some (.inl (x2)), some (.inl (x3)), some (.inl (x4)), some (.inl (v1)), some (.inl (v5)), some (.inl (v9)), some (.inl (v13)), none, none, none] [.inl (v13), .inl (v9), .inl (jmin (v1) (v5))] σ (.inl (some (.inl w)), σ') := h
  replace h := ei_m (st' := [.inl (jmin (v9) (v13)), .inl (jmin (v1) (v5))]) h rfl (Nat.le_of_ble_eq_true rfl) (fun w hw => (Option.some.inj (ev_if_some.mp hw).2).symm)
  obtain ⟨f, g, h⟩ := h
  clear g
  replace h : EV F f 11 z11 54 [some (rf 0 (0)), some (.inl (x1)), some (.inl (x2)), some (.inl (x3)), some (.inl (x4)), some (.inl (v1)), some (.inl (v5)), some (.inl (v9)), some (.inl (v13)), none, none, none] [.inl (jmin (v9) (v13)), .inl (jmin (v1) (v5))] σ (.inl (some (.inl w)), σ') := h
  replace h := ei_p h rfl rfl rfl rfl
  obtain ⟨f, g, h⟩ := h
  clear g
  replace h : EV F f 11 z11 55 [some (rf 0 (0)), some (.inl (x1)), some (.inl (x2)), some (.inl (x3)), some (.inl (x4)), some (.inl (v1)), some (.inl (v5)), some (.inl (v9)), some (.inl (v13)), none, none, none] [.inl ((jmin (v1) (v5)) - (jmin (v9) (v13)))] σ (.inl (some (.inl w)), σ') := h
  replace h := ei_p h rfl rfl rfl rfl
  obtain ⟨f, g, h⟩ := h
  clear g
  replace h : EV F f 11 z11 57 [some (rf 0 (0)), some (.inl (x1)), some (.inl (x2)), some (.inl (x3)), some (.inl (x4)), some (.inl (v1)), some (.inl (v5)), some (.inl (v9)), some (.inl (v13)), some (.inl ((jmin (v1) (v5)) - (jmin (v9) (v13)))), none, none] [] σ (.inl (some (.inl w)), σ') := h
  obtain ⟨n17, e18⟩ : ∃ s, s = (jmin (v1) (v5)) - (jmin (v9) (v13)) := ⟨_, rfl⟩
  rw [← e18] at h
  refine ⟨n17, e18, ?_⟩
  replace h : EV F f 11 z11 57 [some (rf 0 (0)), some (.inl (x1)), some (.inl (x2)), some (.inl (x3)), some (.inl (x4)), some (.inl (v1)), some (.inl (v5)), some (.inl (v9)), some (.inl (v13)), some (.inl (n17)), none, none] [] σ (.inl (some (.inl w)), σ') := h
  replace h := ei_p h rfl rfl rfl rfl
  obtain ⟨f, g, h⟩ := h
  clear g
  replace h : EV F f 11 z11 59 [some (rf 0 (0)), some (.inl (x1)), some (.inl (x2)), some (.inl (x3)), some (.inl (x4)), some (.inl (v1)), some (.inl (v5)), some (.inl (v9)), some (.inl (v13)), some (.inl (n17)), none, none] [.inl (n17)] σ (.inl (some (.inl w)), σ') := h
  replace h := ei_c h rfl rfl rfl
  rcases h with ⟨hp19, f, g, h⟩ | ⟨hp19, f, g, h⟩
  · skip
    replace hp19 : (n17).toInt = (0 : Int) := ic_eq.mp hp19
    refine Or.inl ⟨hp19, ?_⟩
    clear g
    replace h : EV F f 11 z11 73 [some (rf 0 (0)), some (.inl (x1)), some (.inl (x2)), some (.inl (x3)), some (.inl (x4)), some (.inl (v1)), some (.inl (v5)), some (.inl (v9)), some (.inl (v13)), some (.inl (n17)), none, none] [] σ (.inl (some (.inl w)), σ') := h
    replace h := ei_p h rfl rfl rfl rfl
    obtain ⟨f, g, h⟩ := h
    clear g
    replace h : EV F f 11 z11 75 [some (rf 0 (0)), some (.inl (x1)), some (.inl (x2)), some (.inl (x3)), some (.inl (x4)), some (.inl (v1)), some (.inl (v5)), some (.inl (v9)), some (.inl (v13)), some (.inl (n17)), none, none] [.inl (v1)] σ (.inl (some (.inl w)), σ') := h
    replace h := ei_p h rfl rfl rfl rfl
    obtain ⟨f, g, h⟩ := h
    clear g
    replace h : EV F f 11 z11 77 [some (rf 0 (0)), some (.inl (x1)), some (.inl (x2)), some (.inl (x3)), some (.inl (x4)), some (.inl (v1)), some (.inl (v5)), some (.inl (v9)), some (.inl (v13)), some (.inl (n17)), none, none] [.inl (v5), .inl (v1)] σ (.inl (some (.inl w)), σ') := h
    replace h := ei_p h rfl rfl rfl rfl
    obtain ⟨f, g, h⟩ := h
    clear g
    replace h : EV F f 11 z11 78 [some (rf 0 (0)), some (.inl (x1)), some (.inl (x2)), some (.inl (x3)), some (.inl (x4)), some (.inl (v1)), some (.inl (v5)), some (.inl (v9)), some (.inl (v13)), some (.inl (n17)), none, none] [.inl ((v1) - (v5))] σ (.inl (some (.inl w)), σ') := h
    replace h := ei_m (st' := [.inl (jabs ((v1) - (v5)))]) h rfl (Nat.le_of_ble_eq_true rfl) (fun w hw => (Option.some.inj (ev_if_some.mp hw).2).symm)
    obtain ⟨f, g, h⟩ := h
    clear g
    replace h : EV F f 11 z11 81 [some (rf 0 (0)), some (.inl (x1)), some (.inl (x2)), some (.inl (x3)), some (.inl (x4)), some (.inl (v1)), some (.inl (v5)), some (.inl (v9)), some (.inl (v13)), some (.inl (n17)), none, none] [.inl (jabs ((v1) - (v5)))] σ (.inl (some (.inl w)), σ') := h
    replace h := ei_p h rfl rfl rfl rfl
    obtain ⟨f, g, h⟩ := h
    clear g
    replace h : EV F f 11 z11 83 [some (rf 0 (0)), some (.inl (x1)), some (.inl (x2)), some (.inl (x3)), some (.inl (x4)), some (.inl (v1)), some (.inl (v5)), some (.inl (v9)), some (.inl (v13)), some (.inl (n17)), none, none] [.inl (v9), .inl (jabs ((v1) - (v5)))] σ (.inl (some (.inl w)), σ') := h
    replace h := ei_p h rfl rfl rfl rfl
    obtain ⟨f, g, h⟩ := h
    clear g
    replace h : EV F f 11 z11 85 [some (rf 0 (0)), some (.inl (x1)), some (.inl (x2)), some (.inl (x3)), some (.inl (x4)), some (.inl (v1)), some (.inl (v5)), some (.inl (v9)), some (.inl (v13)), some (.inl (n17)), none, none] [.inl (v13), .inl (v9), .inl (jabs ((v1) - (v5)))] σ (.inl (some (.inl w)), σ') := h
    replace h := ei_p h rfl rfl rfl rfl
    obtain ⟨f, g, h⟩ := h
    clear g
    replace h : EV F f 11 z11 86 [some (rf 0 (0)), some (.inl (x1)), some (.inl (x2)), some (.inl (x3)), some (.inl (x4)), some (.inl (v1)), some (.inl (v5)), some (.inl (v9)), some (.inl (v13)), some (.inl (n17)), none, none] [.inl ((v9) - (v13)), .inl (jabs ((v1) - (v5)))] σ (.inl (some (.inl w)), σ') := h
    replace h := ei_m (st' := [.inl (jabs ((v9) - (v13))), .inl (jabs ((v1) - (v5)))]) h rfl (Nat.le_of_ble_eq_true rfl) (fun w hw => (Option.some.inj (ev_if_some.mp hw).2).symm)
    obtain ⟨f, g, h⟩ := h
    clear g
    replace h : EV F f 11 z11 89 [some (rf 0 (0)), some (.inl (x1)), some (.inl (x2)), some (.inl (x3)), some (.inl (x4)), some (.inl (v1)), some (.inl (v5)), some (.inl (v9)), some (.inl (v13)), some (.inl (n17)), none, none] [.inl (jabs ((v9) - (v13))), .inl (jabs ((v1) - (v5)))] σ (.inl (some (.inl w)), σ') := h
    replace h := ei_p h rfl rfl rfl rfl
    obtain ⟨f, g, h⟩ := h
    clear g
    replace h : EV F f 11 z11 90 [some (rf 0 (0)), some (.inl (x1)), some (.inl (x2)), some (.inl (x3)), some (.inl (x4)), some (.inl (v1)), some (.inl (v5)), some (.inl (v9)), some (.inl (v13)), some (.inl (n17)), none, none] [.inl ((jabs ((v1) - (v5))) - (jabs ((v9) - (v13))))] σ (.inl (some (.inl w)), σ') := h
    replace h := ei_p h rfl rfl rfl rfl
    obtain ⟨f, g, h⟩ := h
    clear g
    replace h : EV F f 11 z11 92 [some (rf 0 (0)), some (.inl (x1)), some (.inl (x2)), some (.inl (x3)), some (.inl (x4)), some (.inl (v1)), some (.inl (v5)), some (.inl (v9)), some (.inl (v13)), some (.inl (n17)), some (.inl ((jabs ((v1) - (v5))) - (jabs ((v9) - (v13))))), none] [] σ (.inl (some (.inl w)), σ') := h
    obtain ⟨n20, e21⟩ : ∃ s, s = (jabs ((v1) - (v5))) - (jabs ((v9) - (v13))) := ⟨_, rfl⟩
    rw [← e21] at h
    refine ⟨n20, e21, ?_⟩
    replace h : EV F f 11 z11 92 [some (rf 0 (0)), some (.inl (x1)), some (.inl (x2)), some (.inl (x3)), some (.inl (x4)), some (.inl (v1)), some (.inl (v5)), some (.inl (v9)), some (.inl (v13)), some (.inl (n17)), some (.inl (n20)), none] [] σ (.inl (some (.inl w)), σ') := h
    replace h := ei_p h rfl rfl rfl rfl
    obtain ⟨f, g, h⟩ := h
    clear g
    replace h : EV F f 11 z11 94 [some (rf 0 (0)), some (.inl (x1)), some (.inl (x2)), some (.inl (x3)), some (.inl (x4)), some (.inl (v1)), some (.inl (v5)), some (.inl (v9)), some (.inl (v13)), some (.inl (n17)), some (.inl (n20)), none] [.inl (n20)] σ (.inl (some (.inl w)), σ') := h
    replace h := ei_c h rfl rfl rfl
    rcases h with ⟨hp22, f, g, h⟩ | ⟨hp22, f, g, h⟩
    · skip
      replace hp22 : (n20).toInt = (0 : Int) := ic_eq.mp hp22
      refine Or.inl ⟨hp22, ?_⟩
      clear g
      replace h : EV F f 11 z11 108 [some (rf 0 (0)), some (.inl (x1)), some (.inl (x2)), some (.inl (x3)), some (.inl (x4)), some (.inl (v1)), some (.inl (v5)), some (.inl (v9)), some (.inl (v13)), some (.inl (n17)), some (.inl (n20)), none] [] σ (.inl (some (.inl w)), σ') := h
      replace h := ei_p h rfl rfl rfl rfl
      obtain ⟨f, g, h⟩ := h
      clear g
      replace h : EV F f 11 z11 109 [some (rf 0 (0)), some (.inl (x1)), some (.inl (x2)), some (.inl (x3)), some (.inl (x4)), some (.inl (v1)), some (.inl (v5)), some (.inl (v9)), some (.inl (v13)), some (.inl (n17)), some (.inl (n20)), none] [.inl (x2)] σ (.inl (some (.inl w)), σ') := h
      replace h := ei_p h rfl rfl rfl rfl
      obtain ⟨f, g, h⟩ := h
      clear g
      replace h : EV F f 11 z11 111 [some (rf 0 (0)), some (.inl (x1)), some (.inl (x2)), some (.inl (x3)), some (.inl (x4)), some (.inl (v1)), some (.inl (v5)), some (.inl (v9)), some (.inl (v13)), some (.inl (n17)), some (.inl (n20)), none] [.inl (x4), .inl (x2)] σ (.inl (some (.inl w)), σ') := h
      replace h := ei_p h rfl rfl rfl rfl
      obtain ⟨f, g, h⟩ := h
      clear g
      replace h : EV F f 11 z11 112 [some (rf 0 (0)), some (.inl (x1)), some (.inl (x2)), some (.inl (x3)), some (.inl (x4)), some (.inl (v1)), some (.inl (v5)), some (.inl (v9)), some (.inl (v13)), some (.inl (n17)), some (.inl (n20)), none] [.inl ((x2) - (x4))] σ (.inl (some (.inl w)), σ') := h
      replace h := ei_m (st' := [.inl (jabs ((x2) - (x4)))]) h rfl (Nat.le_of_ble_eq_true rfl) (fun w hw => (Option.some.inj (ev_if_some.mp hw).2).symm)
      obtain ⟨f, g, h⟩ := h
      clear g
      replace h : EV F f 11 z11 115 [some (rf 0 (0)), some (.inl (x1)), some (.inl (x2)), some (.inl (x3)), some (.inl (x4)), some (.inl (v1)), some (.inl (v5)), some (.inl (v9)), some (.inl (v13)), some (.inl (n17)), some (.inl (n20)), none] [.inl (jabs ((x2) - (x4)))] σ (.inl (some (.inl w)), σ') := h
      replace h := ei_p h rfl rfl rfl rfl
      obtain ⟨f, g, h⟩ := h
      clear g
      replace h : EV F f 11 z11 116 [some (rf 0 (0)), some (.inl (x1)), some (.inl (x2)), some (.inl (x3)), some (.inl (x4)), some (.inl (v1)), some (.inl (v5)), some (.inl (v9)), some (.inl (v13)), some (.inl (n17)), some (.inl (n20)), none] [.inl (x3), .inl (jabs ((x2) - (x4)))] σ (.inl (some (.inl w)), σ') := h
      replace h := ei_p h rfl rfl rfl rfl
      obtain ⟨f, g, h⟩ := h
      clear g
      replace h : EV F f 11 z11 118 [some (rf 0 (0)), some (.inl (x1)), some (.inl (x2)), some (.inl (x3)), some (.inl (x4)), some (.inl (v1)), some (.inl (v5)), some (.inl (v9)), some (.inl (v13)), some (.inl (n17)), some (.inl (n20)), none] [.inl (x4), .inl (x3), .inl (jabs ((x2) - (x4)))] σ (.inl (some (.inl w)), σ') := h
      replace h := ei_p h rfl rfl rfl rfl
      obtain ⟨f, g, h⟩ := h
      clear g
      replace h : EV F f 11 z11 119 [some (rf 0 (0)), some (.inl (x1)), some (.inl (x2)), some (.inl (x3)), some (.inl (x4)), some (.inl (v1)), some (.inl (v5)), some (.inl (v9)), some (.inl (v13)), some (.inl (n17)), some (.inl (n20)), none] [.inl ((x3) - (x4)), .inl (jabs ((x2) - (x4)))] σ (.inl (some (.inl w)), σ') := h
      replace h := ei_m (st' := [.inl (jabs ((x3) - (x4))), .inl (jabs ((x2) - (x4)))]) h rfl (Nat.le_of_ble_eq_true rfl) (fun w hw => (Option.some.inj (ev_if_some.mp hw).2).symm)
      obtain ⟨f, g, h⟩ := h
      clear g
      replace h : EV F f 11 z11 122 [some (rf 0 (0)), some (.inl (x1)), some (.inl (x2)), some (.inl (x3)), some (.inl (x4)), some (.inl (v1)), some (.inl (v5)), some (.inl (v9)), some (.inl (v13)), some (.inl (n17)), some (.inl (n20)), none] [.inl (jabs ((x3) - (x4))), .inl (jabs ((x2) - (x4)))] σ (.inl (some (.inl w)), σ') := h
      replace h := ei_p h rfl rfl rfl rfl
      obtain ⟨f, g, h⟩ := h
      clear g
      replace h : EV F f 11 z11 123 [some (rf 0 (0)), some (.inl (x1)), some (.inl (x2)), some (.inl (x3)), some (.inl (x4)), some (.inl (v1)), some (.inl (v5)), some (.inl (v9)), some (.inl (v13)), some (.inl (n17)), some (.inl (n20)), none] [.inl ((jabs ((x2) - (x4))) - (jabs ((x3) - (x4))))] σ (.inl (some (.inl w)), σ') := h
      replace h := ei_p h rfl rfl rfl rfl
      obtain ⟨f, g, h⟩ := h
      clear g
      replace h : EV F f 11 z11 125 [some (rf 0 (0)), some (.inl (x1)), some (.inl (x2)), some (.inl (x3)), some (.inl (x4)), some (.inl (v1)), some (.inl (v5)), some (.inl (v9)), some (.inl (v13)), some (.inl (n17)), some (.inl (n20)), some (.inl ((jabs ((x2) - (x4))) - (jabs ((x3) - (x4)))))] [] σ (.inl (some (.inl w)), σ') := h
      obtain ⟨n23, e24⟩ : ∃ s, s = (jabs ((x2) - (x4))) - (jabs ((x3) - (x4))) := ⟨_, rfl⟩
      rw [← e24] at h
      refine ⟨n23, e24, ?_⟩
      replace h : EV F f 11 z11 125 [some (rf 0 (0)), some (.inl (x1)), some (.inl (x2)), some (.inl (x3)), some (.inl (x4)), some (.inl (v1)), some (.inl (v5)), some (.inl (v9)), some (.inl (v13)), some (.inl (n17)), some (.inl (n20)), some (.inl (n23))] [] σ (.inl (some (.inl w)), σ') := h
      replace h := ei_p h rfl rfl rfl rfl
      obtain ⟨f, g, h⟩ := h
      clear g
      replace h : EV F f 11 z11 127 [some (rf 0 (0)), some (.inl (x1)), some (.inl (x2)), some (.inl (x3)), some (.inl (x4)), some (.inl (v1)), some (.inl (v5)), some (.inl (v9)), some (.inl (v13)), some (.inl (n17)), some (.inl (n20)), some (.inl (n23))] [.inl (n23)] σ (.inl (some (.inl w)), σ') := h
      replace h := ei_c h rfl rfl rfl
      rcases h with ⟨hp25, f, g, h⟩ | ⟨hp25, f, g, h⟩
      · skip
        replace hp25 : (n23).toInt ≠ (0 : Int) := ic_ne.mp hp25
        refine Or.inl ⟨hp25, ?_⟩
        clear g
        replace h : EV F f 11 z11 143 [some (rf 0 (0)), some (.inl (x1)), some (.inl (x2)), some (.inl (x3)), some (.inl (x4)), some (.inl (v1)), some (.inl (v5)), some (.inl (v9)), some (.inl (v13)), some (.inl (n17)), some (.inl (n20)), some (.inl (n23))] [] σ (.inl (some (.inl w)), σ') := h
        replace h := ei_p h rfl rfl rfl rfl
        obtain ⟨f, g, h⟩ := h
        clear g
        replace h : EV F f 11 z11 145 [some (rf 0 (0)), some (.inl (x1)), some (.inl (x2)), some (.inl (x3)), some (.inl (x4)), some (.inl (v1)), some (.inl (v5)), some (.inl (v9)), some (.inl (v13)), some (.inl (n17)), some (.inl (n20)), some (.inl (n23))] [.inl (n23)] σ (.inl (some (.inl w)), σ') := h
        replace h := ei_c h rfl rfl rfl
        rcases h with ⟨hp26, f, g, h⟩ | ⟨hp26, f, g, h⟩
        · skip
          replace hp26 : (0 : Int) ≤ (n23).toInt := ic_ge.mp hp26
          refine Or.inl ⟨hp26, ?_⟩
          clear g
          replace h : EV F f 11 z11 152 [some (rf 0 (0)), some (.inl (x1)), some (.inl (x2)), some (.inl (x3)), some (.inl (x4)), some (.inl (v1)), some (.inl (v5)), some (.inl (v9)), some (.inl (v13)), some (.inl (n17)), some (.inl (n20)), some (.inl (n23))] [] σ (.inl (some (.inl w)), σ') := h
          replace h := ei_p h rfl rfl rfl rfl
          obtain ⟨f, g, h⟩ := h
          clear g
          replace h : EV F f 11 z11 153 [some (rf 0 (0)), some (.inl (x1)), some (.inl (x2)), some (.inl (x3)), some (.inl (x4)), some (.inl (v1)), some (.inl (v5)), some (.inl (v9)), some (.inl (v13)), some (.inl (n17)), some (.inl (n20)), some (.inl (n23))] [.inl (Int32.ofInt 0)] σ (.inl (some (.inl w)), σ') := h
          have e := ei_iret h rfl
          cases e
          exact rfl
        · skip
          replace hp26 : ¬ ((0 : Int) ≤ (n23).toInt) := (not_congr ic_ge).mp hp26
          refine Or.inr ⟨hp26, ?_⟩
          clear g
          replace h : EV F f 11 z11 148 [some (rf 0 (0)), some (.inl (x1)), some (.inl (x2)), some (.inl (x3)), some (.inl (x4)), some (.inl (v1)), some (.inl (v5)), some (.inl (v9)), some (.inl (v13)), some (.inl (n17)), some (.inl (n20)), some (.inl (n23))] [] σ (.inl (some (.inl w)), σ') := h
          replace h := ei_p h rfl rfl rfl rfl
          obtain ⟨f, g, h⟩ := h
          clear g
          replace h : EV F f 11 z11 149 [some (rf 0 (0)), some (.inl (x1)), some (.inl (x2)), some (.inl (x3)), some (.inl (x4)), some (.inl (v1)), some (.inl (v5)), some (.inl (v9)), some (.inl (v13)), some (.inl (n17)), some (.inl (n20)), some (.inl (n23))] [.inl (Int32.ofInt 1)] σ (.inl (some (.inl w)), σ') := h
          replace h := ei_p h rfl rfl rfl rfl
          obtain ⟨f, g, h⟩ := h
          clear g
          replace h : EV F f 11 z11 153 [some (rf 0 (0)), some (.inl (x1)), some (.inl (x2)), some (.inl (x3)), some (.inl (x4)), some (.inl (v1)), some (.inl (v5)), some (.inl (v9)), some (.inl (v13)), some (.inl (n17)), some (.inl (n20)), some (.inl (n23))] [.inl (Int32.ofInt 1)] σ (.inl (some (.inl w)), σ') := h
          have e := ei_iret h rfl
          cases e
          exact rfl
      · skip
        replace hp25 : ¬ ((n23).toInt ≠ (0 : Int)) := (not_congr ic_ne).mp hp25
        refine Or.inr ⟨hp25, ?_⟩
        clear g
        replace h : EV F f 11 z11 130 [some (rf 0 (0)), some (.inl (x1)), some (.inl (x2)), some (.inl (x3)), some (.inl (x4)), some (.inl (v1)), some (.inl (v5)), some (.inl (v9)), some (.inl (v13)), some (.inl (n17)), some (.inl (n20)), some (.inl (n23))] [] σ (.inl (some (.inl w)), σ') := h
        replace h := ei_p h rfl rfl rfl rfl
        obtain ⟨f, g, h⟩ := h
        clear g
        replace h : EV F f 11 z11 131 [some (rf 0 (0)), some (.inl (x1)), some (.inl (x2)), some (.inl (x3)), some (.inl (x4)), some (.inl (v1)), some (.inl (v5)), some (.inl (v9)), some (.inl (v13)), some (.inl (n17)), some (.inl (n20)), some (.inl (n23))] [.inl (x2)] σ (.inl (some (.inl w)), σ') := h
        replace h := ei_p h rfl rfl rfl rfl
        obtain ⟨f, g, h⟩ := h
        clear g
        replace h : EV F f 11 z11 132 [some (rf 0 (0)), some (.inl (x1)), some (.inl (x2)), some (.inl (x3)), some (.inl (x4)), some (.inl (v1)), some (.inl (v5)), some (.inl (v9)), some (.inl (v13)), some (.inl (n17)), some (.inl (n20)), some (.inl (n23))] [.inl (x3), .inl (x2)] σ (.inl (some (.inl w)), σ') := h
        replace h := ei_c h rfl rfl rfl
        rcases h with ⟨hp27, f, g, h⟩ | ⟨hp27, f, g, h⟩
        · skip
          replace hp27 : (x3).toInt ≤ (x2).toInt := ic_ge.mp hp27
          refine Or.inl ⟨hp27, ?_⟩
          clear g
          replace h : EV F f 11 z11 139 [some (rf 0 (0)), some (.inl (x1)), some (.inl (x2)), some (.inl (x3)), some (.inl (x4)), some (.inl (v1)), some (.inl (v5)), some (.inl (v9)), some (.inl (v13)), some (.inl (n17)), some (.inl (n20)), some (.inl (n23))] [] σ (.inl (some (.inl w)), σ') := h
          replace h := ei_p h rfl rfl rfl rfl
          obtain ⟨f, g, h⟩ := h
          clear g
          replace h : EV F f 11 z11 140 [some (rf 0 (0)), some (.inl (x1)), some (.inl (x2)), some (.inl (x3)), some (.inl (x4)), some (.inl (v1)), some (.inl (v5)), some (.inl (v9)), some (.inl (v13)), some (.inl (n17)), some (.inl (n20)), some (.inl (n23))] [.inl (Int32.ofInt 0)] σ (.inl (some (.inl w)), σ') := h
          replace h := ei_p h rfl rfl rfl rfl
          obtain ⟨f, g, h⟩ := h
          clear g
          replace h : EV F f 11 z11 153 [some (rf 0 (0)), some (.inl (x1)), some (.inl (x2)), some (.inl (x3)), some (.inl (x4)), some (.inl (v1)), some (.inl (v5)), some (.inl (v9)), some (.inl (v13)), some (.inl (n17)), some (.inl (n20)), some (.inl (n23))] [.inl (Int32.ofInt 0)] σ (.inl (some (.inl w)), σ') := h
          have e := ei_iret h rfl
          cases e
          exact rfl
        · skip
          replace hp27 : ¬ ((x3).toInt ≤ (x2).toInt) := (not_congr ic_ge).mp hp27
          refine Or.inr ⟨hp27, ?_⟩
          clear g
          replace h : EV F f 11 z11 135 [some (rf 0 (0)), some (.inl (x1)), some (.inl (x2)), some (.inl (x3)), some (.inl (x4)), some (.inl (v1)), some (.inl (v5)), some (.inl (v9)), some (.inl (v13)), some (.inl (n17)), some (.inl (n20)), some (.inl (n23))] [] σ (.inl (some (.inl w)), σ') := h
          replace h := ei_p h rfl rfl rfl rfl
          obtain ⟨f, g, h⟩ := h
          clear g
          replace h : EV F f 11 z11 136 [some (rf 0 (0)), some (.inl (x1)), some (.inl (x2)), some (.inl (x3)), some (.inl (x4)), some (.inl (v1)), some (.inl (v5)), some (.inl (v9)), some (.inl (v13)), some (.inl (n17)), some (.inl (n20)), some (.inl (n23))] [.inl (Int32.ofInt 1)] σ (.inl (some (.inl w)), σ') := h
          replace h := ei_p h rfl rfl rfl rfl
          obtain ⟨f, g, h⟩ := h
          clear g
          replace h : EV F f 11 z11 153 [some (rf 0 (0)), some (.inl (x1)), some (.inl (x2)), some (.inl (x3)), some (.inl (x4)), some (.inl (v1)), some (.inl (v5)), some (.inl (v9)), some (.inl (v13)), some (.inl (n17)), some (.inl (n20)), some (.inl (n23))] [.inl (Int32.ofInt 1)] σ (.inl (some (.inl w)), σ') := h
          have e := ei_iret h rfl
          cases e
          exact rfl
    · skip
      replace hp22 : ¬ ((n20).toInt = (0 : Int)) := (not_congr ic_eq).mp hp22
      refine Or.inr ⟨hp22, ?_⟩
      clear g
      replace h : EV F f 11 z11 97 [some (rf 0 (0)), some (.inl (x1)), some (.inl (x2)), some (.inl (x3)), some (.inl (x4)), some (.inl (v1)), some (.inl (v5)), some (.inl (v9)), some (.inl (v13)), some (.inl (n17)), some (.inl (n20)), none] [] σ (.inl (some (.inl w)), σ') := h
      replace h := ei_p h rfl rfl rfl rfl
      obtain ⟨f, g, h⟩ := h
      clear g
      replace h : EV F f 11 z11 99 [some (rf 0 (0)), some (.inl (x1)), some (.inl (x2)), some (.inl (x3)), some (.inl (x4)), some (.inl (v1)), some (.inl (v5)), some (.inl (v9)), some (.inl (v13)), some (.inl (n17)), some (.inl (n20)), none] [.inl (n20)] σ (.inl (some (.inl w)), σ') := h
      replace h := ei_c h rfl rfl rfl
      rcases h with ⟨hp28, f, g, h⟩ | ⟨hp28, f, g, h⟩
      · skip
        replace hp28 : (0 : Int) ≤ (n20).toInt := ic_ge.mp hp28
        refine Or.inl ⟨hp28, ?_⟩
        clear g
        replace h : EV F f 11 z11 106 [some (rf 0 (0)), some (.inl (x1)), some (.inl (x2)), some (.inl (x3)), some (.inl (x4)), some (.inl (v1)), some (.inl (v5)), some (.inl (v9)), some (.inl (v13)), some (.inl (n17)), some (.inl (n20)), none] [] σ (.inl (some (.inl w)), σ') := h
        replace h := ei_p h rfl rfl rfl rfl
        obtain ⟨f, g, h⟩ := h
        clear g
        replace h : EV F f 11 z11 107 [some (rf 0 (0)), some (.inl (x1)), some (.inl (x2)), some (.inl (x3)), some (.inl (x4)), some (.inl (v1)), some (.inl (v5)), some (.inl (v9)), some (.inl (v13)), some (.inl (n17)), some (.inl (n20)), none] [.inl (Int32.ofInt 0)] σ (.inl (some (.inl w)), σ') := h
        have e := ei_iret h rfl
        cases e
        exact rfl
      · skip
        replace hp28 : ¬ ((0 : Int) ≤ (n20).toInt) := (not_congr ic_ge).mp hp28
        refine Or.inr ⟨hp28, ?_⟩
        clear g
        replace h : EV F f 11 z11 102 [some (rf 0 (0)), some (.inl (x1)), some (.inl (x2)), some (.inl (x3)), some (.inl (x4)), some (.inl (v1)), some (.inl (v5)), some (.inl (v9)), some (.inl (v13)), some (.inl (n17)), some (.inl (n20)), none] [] σ (.inl (some (.inl w)), σ') := h
        replace h := ei_p h rfl rfl rfl rfl
        obtain ⟨f, g, h⟩ := h
        clear g
        replace h : EV F f 11 z11 103 [some (rf 0 (0)), some (.inl (x1)), some (.inl (x2)), some (.inl (x3)), some (.inl (x4)), some (.inl (v1)), some (.inl (v5)), some (.inl (v9)), some (.inl (v13)), some (.inl (n17)), some (.inl (n20)), none] [.inl (Int32.ofInt 1)] σ (.inl (some (.inl w)), σ') := h
        replace h := ei_p h rfl rfl rfl rfl
        obtain ⟨f, g, h⟩ := h
        clear g
        replace h : EV F f 11 z11 107 [some (rf 0 (0)), some (.inl (x1)), some (.inl (x2)), some (.inl (x3)), some (.inl (x4)), some (.inl (v1)), some (.inl (v5)), some (.inl (v9)), some (.inl (v13)), some (.inl (n17)), some (.inl (n20)), none] [.inl (Int32.ofInt 1)] σ (.inl (some (.inl w)), σ') := h
        have e := ei_iret h rfl
        cases e
        exact rfl
  · skip
    replace hp19 : ¬ ((n17).toInt = (0 : Int)) := (not_congr ic_eq).mp hp19
    refine Or.inr ⟨hp19, ?_⟩
    clear g
    replace h : EV F f 11 z11 62 [some (rf 0 (0)), some (.inl (x1)), some (.inl (x2)), some (.inl (x3)), some (.inl (x4)), some (.inl (v1)), some (.inl (v5)), some (.inl (v9)), some (.inl (v13)), some (.inl (n17)), none, none] [] σ (.inl (some (.inl w)), σ') := h
    replace h := ei_p h rfl rfl rfl rfl
    obtain ⟨f, g, h⟩ := h
    clear g
    replace h : EV F f 11 z11 64 [some (rf 0 (0)), some (.inl (x1)), some (.inl (x2)), some (.inl (x3)), some (.inl (x4)), some (.inl (v1)), some (.inl (v5)), some (.inl (v9)), some (.inl (v13)), some (.inl (n17)), none, none] [.inl (n17)] σ (.inl (some (.inl w)), σ') := h
    replace h := ei_c h rfl rfl rfl
    rcases h with ⟨hp29, f, g, h⟩ | ⟨hp29, f, g, h⟩
    · skip
      replace hp29 : (n17).toInt ≤ (0 : Int) := ic_le.mp hp29
      refine Or.inl ⟨hp29, ?_⟩
      clear g
      replace h : EV F f 11 z11 71 [some (rf 0 (0)), some (.inl (x1)), some (.inl (x2)), some (.inl (x3)), some (.inl (x4)), some (.inl (v1)), some (.inl (v5)), some (.inl (v9)), some (.inl (v13)), some (.inl (n17)), none, none] [] σ (.inl (some (.inl w)), σ') := h
      replace h := ei_p h rfl rfl rfl rfl
      obtain ⟨f, g, h⟩ := h
      clear g
      replace h : EV F f 11 z11 72 [some (rf 0 (0)), some (.inl (x1)), some (.inl (x2)), some (.inl (x3)), some (.inl (x4)), some (.inl (v1)), some (.inl (v5)), some (.inl (v9)), some (.inl (v13)), some (.inl (n17)), none, none] [.inl (Int32.ofInt 0)] σ (.inl (some (.inl w)), σ') := h
      have e := ei_iret h rfl
      cases e
      exact rfl
    · skip
      replace hp29 : ¬ ((n17).toInt ≤ (0 : Int)) := (not_congr ic_le).mp hp29
      refine Or.inr ⟨hp29, ?_⟩
      clear g
      replace h : EV F f 11 z11 67 [some (rf 0 (0)), some (.inl (x1)), some (.inl (x2)), some (.inl (x3)), some (.inl (x4)), some (.inl (v1)), some (.inl (v5)), some (.inl (v9)), some (.inl (v13)), some (.inl (n17)), none, none] [] σ (.inl (some (.inl w)), σ') := h
      replace h := ei_p h rfl rfl rfl rfl
      obtain ⟨f, g, h⟩ := h
      clear g
      replace h : EV F f 11 z11 68 [some (rf 0 (0)), some (.inl (x1)), some (.inl (x2)), some (.inl (x3)), some (.inl (x4)), some (.inl (v1)), some (.inl (v5)), some (.inl (v9)), some (.inl (v13)), some (.inl (n17)), none, none] [.inl (Int32.ofInt 1)] σ (.inl (some (.inl w)), σ') := h
      replace h := ei_p h rfl rfl rfl rfl
      obtain ⟨f, g, h⟩ := h
      clear g
      replace h : EV F f 11 z11 72 [some (rf 0 (0)), some (.inl (x1)), some (.inl (x2)), some (.inl (x3)), some (.inl (x4)), some (.inl (v1)), some (.inl (v5)), some (.inl (v9)), some (.inl (v13)), some (.inl (n17)), none, none] [.inl (Int32.ofInt 1)] σ (.inl (some (.inl w)), σ') := h
      have e := ei_iret h rfl
      cases e
      exact rfl
def z10 : mAl := ((yX0_openingPrice, cX0_openingPrice, 6, (some .int), { frames := 3, cells := 0, slots := 0, locals := 80 }, []), rw_X0_openingPrice, false)
theorem z10_at : m_alF[10]? = some z10 := rfl
abbrev B10_5 (σ : mS) (c1 : Int32) (c2 : Int32) (ih : Int32 → Int32 → Int32 → Prop) (u3 : Int32) (u4 : Int32) (w : Int32) : Prop := (((m_i σ 0 (0) 1).toInt ≤ (u4).toInt ∧ w = (u3)) ∨ (¬ ((m_i σ 0 (0) 1).toInt ≤ (u4).toInt) ∧ (((120 : Int) ≤ (u4).toInt ∧ w = (u3)) ∨ (¬ ((120 : Int) ≤ (u4).toInt) ∧ (0 ≤ (u4).toInt ∧ (u4).toInt < 120) ∧ ∃ v4, P99 σ ((u4).toNatClampNeg) v4 ∧ (((v4).toInt = (0 : Int) ∧ ih (u3) ((u4) + Int32.ofInt 1) w) ∨ (¬ ((v4).toInt = (0 : Int)) ∧ (((m_i σ 7 ((u4).toNatClampNeg) 2).toInt ≠ (c1).toInt ∧ ih (u3) ((u4) + Int32.ofInt 1) w) ∨ (¬ ((m_i σ 7 ((u4).toNatClampNeg) 2).toInt ≠ (c1).toInt) ∧ (((u3).toInt = (0 : Int) ∧ ih (m_i σ 7 ((u4).toNatClampNeg) 4) ((u4) + Int32.ofInt 1) w) ∨ (¬ ((u3).toInt = (0 : Int)) ∧ ∃ v11, P11 σ (c1) (m_i σ 7 ((u4).toNatClampNeg) 4) (u3) (c2) v11 ∧ (((v11).toInt = (0 : Int) ∧ ih (u3) ((u4) + Int32.ofInt 1) w) ∨ (¬ ((v11).toInt = (0 : Int)) ∧ ih (m_i σ 7 ((u4).toNatClampNeg) 4) ((u4) + Int32.ofInt 1) w))))))))))))
def Q10_5 (σ : mS) (c1 : Int32) (c2 : Int32) : Nat → Int32 → Int32 → Int32 → Prop
  | 0 => fun _ _ _ => False
  | n + 1 => B10_5 σ c1 c2 (Q10_5 σ c1 c2 n)
theorem q10_5 {F : Nat} {σ σ' : mS} {c1 : Int32} {c2 : Int32} {w : Int32} (hs : HS σ) : ∀ N f, f < N → ∀ (u3 : Int32) (u4 : Int32) (y5 : Option mV), EV F f 10 z10 5 [some (rf 0 (0)), some (.inl (c1)), some (.inl (c2)), some (.inl (u3)), some (.inl (u4)), y5] [] σ (.inl (some (.inl w)), σ') → Q10_5 σ c1 c2 N u3 u4 w := by
  intro N
  induction N with
  | zero => intro f hf; omega
  | succ N IH =>
    intro f hf0 u3 u4 y5 h
    have hf : f < N + 1 := hf0
    clear hf0
    show B10_5 σ c1 c2 (Q10_5 σ c1 c2 N) u3 u4 w
    replace h := ei_p h rfl rfl rfl rfl
    obtain ⟨f, g, h⟩ := h
    replace hf := Nat.lt_of_lt_of_le g (Nat.le_of_lt_succ hf)
    clear g
    replace h : EV F f 10 z10 7 [some (rf 0 (0)), some (.inl (c1)), some (.inl (c2)), some (.inl (u3)), some (.inl (u4)), y5] [.inl (u4)] σ (.inl (some (.inl w)), σ') := h
    replace h := ei_p h rfl rfl rfl rfl
    obtain ⟨f, g, h⟩ := h
    replace hf := Nat.lt_trans g hf
    clear g
    replace h : EV F f 10 z10 8 [some (rf 0 (0)), some (.inl (c1)), some (.inl (c2)), some (.inl (u3)), some (.inl (u4)), y5] [rf 0 (0), .inl (u4)] σ (.inl (some (.inl w)), σ') := h
    replace h := ei_get h rfl rfl
    obtain ⟨f, g, h⟩ := h
    replace hf := Nat.lt_trans g hf
    clear g
    replace h : EV F f 10 z10 11 [some (rf 0 (0)), some (.inl (c1)), some (.inl (c2)), some (.inl (u3)), some (.inl (u4)), y5] [.inl (m_i σ 0 (0) 1), .inl (u4)] σ (.inl (some (.inl w)), σ') := h
    replace h := ei_c h rfl rfl rfl
    rcases h with ⟨hp1, f, g, h⟩ | ⟨hp1, f, g, h⟩
    · skip
      replace hp1 : (m_i σ 0 (0) 1).toInt ≤ (u4).toInt := ic_ge.mp hp1
      refine Or.inl ⟨hp1, ?_⟩
      replace hf := Nat.lt_trans g hf
      clear g
      replace h : EV F f 10 z10 81 [some (rf 0 (0)), some (.inl (c1)), some (.inl (c2)), some (.inl (u3)), some (.inl (u4)), y5] [] σ (.inl (some (.inl w)), σ') := h
      replace h := ei_p h rfl rfl rfl rfl
      obtain ⟨f, g, h⟩ := h
      replace hf := Nat.lt_trans g hf
      clear g
      replace h : EV F f 10 z10 82 [some (rf 0 (0)), some (.inl (c1)), some (.inl (c2)), some (.inl (u3)), some (.inl (u4)), y5] [.inl (u3)] σ (.inl (some (.inl w)), σ') := h
      have e := ei_iret h rfl
      cases e
      exact rfl
    · skip
      replace hp1 : ¬ ((m_i σ 0 (0) 1).toInt ≤ (u4).toInt) := (not_congr ic_ge).mp hp1
      refine Or.inr ⟨hp1, ?_⟩
      replace hf := Nat.lt_trans g hf
      clear g
      replace h : EV F f 10 z10 14 [some (rf 0 (0)), some (.inl (c1)), some (.inl (c2)), some (.inl (u3)), some (.inl (u4)), y5] [] σ (.inl (some (.inl w)), σ') := h
      replace h := ei_p h rfl rfl rfl rfl
      obtain ⟨f, g, h⟩ := h
      replace hf := Nat.lt_trans g hf
      clear g
      replace h : EV F f 10 z10 16 [some (rf 0 (0)), some (.inl (c1)), some (.inl (c2)), some (.inl (u3)), some (.inl (u4)), y5] [.inl (u4)] σ (.inl (some (.inl w)), σ') := h
      replace h := ei_p h rfl rfl rfl rfl
      obtain ⟨f, g, h⟩ := h
      replace hf := Nat.lt_trans g hf
      clear g
      replace h : EV F f 10 z10 17 [some (rf 0 (0)), some (.inl (c1)), some (.inl (c2)), some (.inl (u3)), some (.inl (u4)), y5] [rf 0 (0), .inl (u4)] σ (.inl (some (.inl w)), σ') := h
      replace h := ei_get h rfl (HS_g0_0 hs)
      obtain ⟨f, g, h⟩ := h
      replace hf := Nat.lt_trans g hf
      clear g
      replace h : EV F f 10 z10 20 [some (rf 0 (0)), some (.inl (c1)), some (.inl (c2)), some (.inl (u3)), some (.inl (u4)), y5] [rf 17 (0), .inl (u4)] σ (.inl (some (.inl w)), σ') := h
      replace h := ei_len h rfl (HS_l17_0 hs) ⟨Nat.le_of_ble_eq_true rfl, Nat.le_of_ble_eq_true rfl⟩
      obtain ⟨f, g, h⟩ := h
      replace hf := Nat.lt_trans g hf
      clear g
      replace h : EV F f 10 z10 21 [some (rf 0 (0)), some (.inl (c1)), some (.inl (c2)), some (.inl (u3)), some (.inl (u4)), y5] [.inl (Int32.ofInt 120), .inl (u4)] σ (.inl (some (.inl w)), σ') := h
      replace h := ei_c h rfl rfl rfl
      rcases h with ⟨hp2, f, g, h⟩ | ⟨hp2, f, g, h⟩
      · skip
        replace hp2 : (120 : Int) ≤ (u4).toInt := ic_ge.mp hp2
        refine Or.inl ⟨hp2, ?_⟩
        replace hf := Nat.lt_trans g hf
        clear g
        replace h : EV F f 10 z10 81 [some (rf 0 (0)), some (.inl (c1)), some (.inl (c2)), some (.inl (u3)), some (.inl (u4)), y5] [] σ (.inl (some (.inl w)), σ') := h
        replace h := ei_p h rfl rfl rfl rfl
        obtain ⟨f, g, h⟩ := h
        replace hf := Nat.lt_trans g hf
        clear g
        replace h : EV F f 10 z10 82 [some (rf 0 (0)), some (.inl (c1)), some (.inl (c2)), some (.inl (u3)), some (.inl (u4)), y5] [.inl (u3)] σ (.inl (some (.inl w)), σ') := h
        have e := ei_iret h rfl
        cases e
        exact rfl
      · skip
        replace hp2 : ¬ ((120 : Int) ≤ (u4).toInt) := (not_congr ic_ge).mp hp2
        refine Or.inr ⟨hp2, ?_⟩
        replace hf := Nat.lt_trans g hf
        clear g
        replace h : EV F f 10 z10 24 [some (rf 0 (0)), some (.inl (c1)), some (.inl (c2)), some (.inl (u3)), some (.inl (u4)), y5] [] σ (.inl (some (.inl w)), σ') := h
        replace h := ei_p h rfl rfl rfl rfl
        obtain ⟨f, g, h⟩ := h
        replace hf := Nat.lt_trans g hf
        clear g
        replace h : EV F f 10 z10 25 [some (rf 0 (0)), some (.inl (c1)), some (.inl (c2)), some (.inl (u3)), some (.inl (u4)), y5] [rf 0 (0)] σ (.inl (some (.inl w)), σ') := h
        replace h := ei_get h rfl (HS_g0_0 hs)
        obtain ⟨f, g, h⟩ := h
        replace hf := Nat.lt_trans g hf
        clear g
        replace h : EV F f 10 z10 28 [some (rf 0 (0)), some (.inl (c1)), some (.inl (c2)), some (.inl (u3)), some (.inl (u4)), y5] [rf 17 (0)] σ (.inl (some (.inl w)), σ') := h
        replace h := ei_p h rfl rfl rfl rfl
        obtain ⟨f, g, h⟩ := h
        replace hf := Nat.lt_trans g hf
        clear g
        replace h : EV F f 10 z10 30 [some (rf 0 (0)), some (.inl (c1)), some (.inl (c2)), some (.inl (u3)), some (.inl (u4)), y5] [.inl (u4), rf 17 (0)] σ (.inl (some (.inl w)), σ') := h
        replace h := ei_ald h rfl (HS_a17 hs)
        obtain ⟨vp3, f, g, h⟩ := h
        replace hf := Nat.lt_trans g hf
        clear g
        replace h : EV F f 10 z10 31 [some (rf 0 (0)), some (.inl (c1)), some (.inl (c2)), some (.inl (u3)), some (.inl (u4)), y5] [rf 7 ((u4).toNatClampNeg)] σ (.inl (some (.inl w)), σ') := h
        refine ⟨HS_v17 hs vp3, ?_⟩
        replace h := ei_p h rfl rfl rfl rfl
        obtain ⟨f, g, h⟩ := h
        replace hf := Nat.lt_trans g hf
        clear g
        replace h : EV F f 10 z10 33 [some (rf 0 (0)), some (.inl (c1)), some (.inl (c2)), some (.inl (u3)), some (.inl (u4)), some (rf 7 ((u4).toNatClampNeg))] [] σ (.inl (some (.inl w)), σ') := h
        replace h := ei_p h rfl rfl rfl rfl
        obtain ⟨f, g, h⟩ := h
        replace hf := Nat.lt_trans g hf
        clear g
        replace h : EV F f 10 z10 35 [some (rf 0 (0)), some (.inl (c1)), some (.inl (c2)), some (.inl (u3)), some (.inl (u4)), some (rf 7 ((u4).toNatClampNeg))] [rf 7 ((u4).toNatClampNeg)] σ (.inl (some (.inl w)), σ') := h
        replace h := bk_I (ei_v (as := []) h rfl rfl rfl) rfl z99_at (Or.inr rfl)
        obtain ⟨v4, σ5, r6, f, g, h⟩ := h
        replace hf := Nat.lt_trans g hf
        clear g
        have er6 := ro_run rfl r6
        rw [er6] at h r6
        have p7 := x99 hs r6
        refine ⟨v4, p7, ?_⟩
        replace h : EV F f 10 z10 38 [some (rf 0 (0)), some (.inl (c1)), some (.inl (c2)), some (.inl (u3)), some (.inl (u4)), some (rf 7 ((u4).toNatClampNeg))] [.inl (v4)] σ (.inl (some (.inl w)), σ') := h
        replace h := ei_c h rfl rfl rfl
        rcases h with ⟨hp8, f, g, h⟩ | ⟨hp8, f, g, h⟩
        · skip
          replace hp8 : (v4).toInt = (0 : Int) := ic_eq.mp hp8
          refine Or.inl ⟨hp8, ?_⟩
          replace hf := Nat.lt_trans g hf
          clear g
          replace h : EV F f 10 z10 75 [some (rf 0 (0)), some (.inl (c1)), some (.inl (c2)), some (.inl (u3)), some (.inl (u4)), some (rf 7 ((u4).toNatClampNeg))] [] σ (.inl (some (.inl w)), σ') := h
          replace h := ei_p h rfl rfl rfl rfl
          obtain ⟨f, g, h⟩ := h
          replace hf := Nat.lt_trans g hf
          clear g
          replace h : EV F f 10 z10 78 [some (rf 0 (0)), some (.inl (c1)), some (.inl (c2)), some (.inl (u3)), some (.inl ((u4) + Int32.ofInt 1)), some (rf 7 ((u4).toNatClampNeg))] [] σ (.inl (some (.inl w)), σ') := h
          replace h := ei_p h rfl rfl rfl rfl
          obtain ⟨f, g, h⟩ := h
          replace hf := Nat.lt_trans g hf
          clear g
          replace h : EV F f 10 z10 5 [some (rf 0 (0)), some (.inl (c1)), some (.inl (c2)), some (.inl (u3)), some (.inl ((u4) + Int32.ofInt 1)), some (rf 7 ((u4).toNatClampNeg))] [] σ (.inl (some (.inl w)), σ') := h
          exact IH f hf (u3) ((u4) + Int32.ofInt 1) (some (rf 7 ((u4).toNatClampNeg))) h
        · skip
          replace hp8 : ¬ ((v4).toInt = (0 : Int)) := (not_congr ic_eq).mp hp8
          refine Or.inr ⟨hp8, ?_⟩
          replace hf := Nat.lt_trans g hf
          clear g
          replace h : EV F f 10 z10 41 [some (rf 0 (0)), some (.inl (c1)), some (.inl (c2)), some (.inl (u3)), some (.inl (u4)), some (rf 7 ((u4).toNatClampNeg))] [] σ (.inl (some (.inl w)), σ') := h
          replace h := ei_p h rfl rfl rfl rfl
          obtain ⟨f, g, h⟩ := h
          replace hf := Nat.lt_trans g hf
          clear g
          replace h : EV F f 10 z10 43 [some (rf 0 (0)), some (.inl (c1)), some (.inl (c2)), some (.inl (u3)), some (.inl (u4)), some (rf 7 ((u4).toNatClampNeg))] [rf 7 ((u4).toNatClampNeg)] σ (.inl (some (.inl w)), σ') := h
          replace h := ei_get h rfl rfl
          obtain ⟨f, g, h⟩ := h
          replace hf := Nat.lt_trans g hf
          clear g
          replace h : EV F f 10 z10 46 [some (rf 0 (0)), some (.inl (c1)), some (.inl (c2)), some (.inl (u3)), some (.inl (u4)), some (rf 7 ((u4).toNatClampNeg))] [.inl (m_i σ 7 ((u4).toNatClampNeg) 2)] σ (.inl (some (.inl w)), σ') := h
          replace h := ei_p h rfl rfl rfl rfl
          obtain ⟨f, g, h⟩ := h
          replace hf := Nat.lt_trans g hf
          clear g
          replace h : EV F f 10 z10 47 [some (rf 0 (0)), some (.inl (c1)), some (.inl (c2)), some (.inl (u3)), some (.inl (u4)), some (rf 7 ((u4).toNatClampNeg))] [.inl (c1), .inl (m_i σ 7 ((u4).toNatClampNeg) 2)] σ (.inl (some (.inl w)), σ') := h
          replace h := ei_c h rfl rfl rfl
          rcases h with ⟨hp9, f, g, h⟩ | ⟨hp9, f, g, h⟩
          · skip
            replace hp9 : (m_i σ 7 ((u4).toNatClampNeg) 2).toInt ≠ (c1).toInt := ic_ne.mp hp9
            refine Or.inl ⟨hp9, ?_⟩
            replace hf := Nat.lt_trans g hf
            clear g
            replace h : EV F f 10 z10 75 [some (rf 0 (0)), some (.inl (c1)), some (.inl (c2)), some (.inl (u3)), some (.inl (u4)), some (rf 7 ((u4).toNatClampNeg))] [] σ (.inl (some (.inl w)), σ') := h
            replace h := ei_p h rfl rfl rfl rfl
            obtain ⟨f, g, h⟩ := h
            replace hf := Nat.lt_trans g hf
            clear g
            replace h : EV F f 10 z10 78 [some (rf 0 (0)), some (.inl (c1)), some (.inl (c2)), some (.inl (u3)), some (.inl ((u4) + Int32.ofInt 1)), some (rf 7 ((u4).toNatClampNeg))] [] σ (.inl (some (.inl w)), σ') := h
            replace h := ei_p h rfl rfl rfl rfl
            obtain ⟨f, g, h⟩ := h
            replace hf := Nat.lt_trans g hf
            clear g
            replace h : EV F f 10 z10 5 [some (rf 0 (0)), some (.inl (c1)), some (.inl (c2)), some (.inl (u3)), some (.inl ((u4) + Int32.ofInt 1)), some (rf 7 ((u4).toNatClampNeg))] [] σ (.inl (some (.inl w)), σ') := h
            exact IH f hf (u3) ((u4) + Int32.ofInt 1) (some (rf 7 ((u4).toNatClampNeg))) h
          · skip
            replace hp9 : ¬ ((m_i σ 7 ((u4).toNatClampNeg) 2).toInt ≠ (c1).toInt) := (not_congr ic_ne).mp hp9
            refine Or.inr ⟨hp9, ?_⟩
            replace hf := Nat.lt_trans g hf
            clear g
            replace h : EV F f 10 z10 50 [some (rf 0 (0)), some (.inl (c1)), some (.inl (c2)), some (.inl (u3)), some (.inl (u4)), some (rf 7 ((u4).toNatClampNeg))] [] σ (.inl (some (.inl w)), σ') := h
            replace h := ei_p h rfl rfl rfl rfl
            obtain ⟨f, g, h⟩ := h
            replace hf := Nat.lt_trans g hf
            clear g
            replace h : EV F f 10 z10 51 [some (rf 0 (0)), some (.inl (c1)), some (.inl (c2)), some (.inl (u3)), some (.inl (u4)), some (rf 7 ((u4).toNatClampNeg))] [.inl (u3)] σ (.inl (some (.inl w)), σ') := h
            replace h := ei_c h rfl rfl rfl
            rcases h with ⟨hp10, f, g, h⟩ | ⟨hp10, f, g, h⟩
            · skip
              replace hp10 : (u3).toInt = (0 : Int) := ic_eq.mp hp10
              refine Or.inl ⟨hp10, ?_⟩
              replace hf := Nat.lt_trans g hf
              clear g
              replace h : EV F f 10 z10 69 [some (rf 0 (0)), some (.inl (c1)), some (.inl (c2)), some (.inl (u3)), some (.inl (u4)), some (rf 7 ((u4).toNatClampNeg))] [] σ (.inl (some (.inl w)), σ') := h
              replace h := ei_p h rfl rfl rfl rfl
              obtain ⟨f, g, h⟩ := h
              replace hf := Nat.lt_trans g hf
              clear g
              replace h : EV F f 10 z10 71 [some (rf 0 (0)), some (.inl (c1)), some (.inl (c2)), some (.inl (u3)), some (.inl (u4)), some (rf 7 ((u4).toNatClampNeg))] [rf 7 ((u4).toNatClampNeg)] σ (.inl (some (.inl w)), σ') := h
              replace h := ei_get h rfl rfl
              obtain ⟨f, g, h⟩ := h
              replace hf := Nat.lt_trans g hf
              clear g
              replace h : EV F f 10 z10 74 [some (rf 0 (0)), some (.inl (c1)), some (.inl (c2)), some (.inl (u3)), some (.inl (u4)), some (rf 7 ((u4).toNatClampNeg))] [.inl (m_i σ 7 ((u4).toNatClampNeg) 4)] σ (.inl (some (.inl w)), σ') := h
              replace h := ei_p h rfl rfl rfl rfl
              obtain ⟨f, g, h⟩ := h
              replace hf := Nat.lt_trans g hf
              clear g
              replace h : EV F f 10 z10 75 [some (rf 0 (0)), some (.inl (c1)), some (.inl (c2)), some (.inl (m_i σ 7 ((u4).toNatClampNeg) 4)), some (.inl (u4)), some (rf 7 ((u4).toNatClampNeg))] [] σ (.inl (some (.inl w)), σ') := h
              replace h := ei_p h rfl rfl rfl rfl
              obtain ⟨f, g, h⟩ := h
              replace hf := Nat.lt_trans g hf
              clear g
              replace h : EV F f 10 z10 78 [some (rf 0 (0)), some (.inl (c1)), some (.inl (c2)), some (.inl (m_i σ 7 ((u4).toNatClampNeg) 4)), some (.inl ((u4) + Int32.ofInt 1)), some (rf 7 ((u4).toNatClampNeg))] [] σ (.inl (some (.inl w)), σ') := h
              replace h := ei_p h rfl rfl rfl rfl
              obtain ⟨f, g, h⟩ := h
              replace hf := Nat.lt_trans g hf
              clear g
              replace h : EV F f 10 z10 5 [some (rf 0 (0)), some (.inl (c1)), some (.inl (c2)), some (.inl (m_i σ 7 ((u4).toNatClampNeg) 4)), some (.inl ((u4) + Int32.ofInt 1)), some (rf 7 ((u4).toNatClampNeg))] [] σ (.inl (some (.inl w)), σ') := h
              exact IH f hf (m_i σ 7 ((u4).toNatClampNeg) 4) ((u4) + Int32.ofInt 1) (some (rf 7 ((u4).toNatClampNeg))) h
            · skip
              replace hp10 : ¬ ((u3).toInt = (0 : Int)) := (not_congr ic_eq).mp hp10
              refine Or.inr ⟨hp10, ?_⟩
              replace hf := Nat.lt_trans g hf
              clear g
              replace h : EV F f 10 z10 54 [some (rf 0 (0)), some (.inl (c1)), some (.inl (c2)), some (.inl (u3)), some (.inl (u4)), some (rf 7 ((u4).toNatClampNeg))] [] σ (.inl (some (.inl w)), σ') := h
              replace h := ei_p h rfl rfl rfl rfl
              obtain ⟨f, g, h⟩ := h
              replace hf := Nat.lt_trans g hf
              clear g
              replace h : EV F f 10 z10 55 [some (rf 0 (0)), some (.inl (c1)), some (.inl (c2)), some (.inl (u3)), some (.inl (u4)), some (rf 7 ((u4).toNatClampNeg))] [rf 0 (0)] σ (.inl (some (.inl w)), σ') := h
              replace h := ei_p h rfl rfl rfl rfl
              obtain ⟨f, g, h⟩ := h
              replace hf := Nat.lt_trans g hf
              clear g
              replace h : EV F f 10 z10 56 [some (rf 0 (0)), some (.inl (c1)), some (.inl (c2)), some (.inl (u3)), some (.inl (u4)), some (rf 7 ((u4).toNatClampNeg))] [.inl (c1), rf 0 (0)] σ (.inl (some (.inl w)), σ') := h
              replace h := ei_p h rfl rfl rfl rfl
              obtain ⟨f, g, h⟩ := h
              replace hf := Nat.lt_trans g hf
              clear g
              replace h : EV F f 10 z10 58 [some (rf 0 (0)), some (.inl (c1)), some (.inl (c2)), some (.inl (u3)), some (.inl (u4)), some (rf 7 ((u4).toNatClampNeg))] [rf 7 ((u4).toNatClampNeg), .inl (c1), rf 0 (0)] σ (.inl (some (.inl w)), σ') := h
              replace h := ei_get h rfl rfl
              obtain ⟨f, g, h⟩ := h
              replace hf := Nat.lt_trans g hf
              clear g
              replace h : EV F f 10 z10 61 [some (rf 0 (0)), some (.inl (c1)), some (.inl (c2)), some (.inl (u3)), some (.inl (u4)), some (rf 7 ((u4).toNatClampNeg))] [.inl (m_i σ 7 ((u4).toNatClampNeg) 4), .inl (c1), rf 0 (0)] σ (.inl (some (.inl w)), σ') := h
              replace h := ei_p h rfl rfl rfl rfl
              obtain ⟨f, g, h⟩ := h
              replace hf := Nat.lt_trans g hf
              clear g
              replace h : EV F f 10 z10 62 [some (rf 0 (0)), some (.inl (c1)), some (.inl (c2)), some (.inl (u3)), some (.inl (u4)), some (rf 7 ((u4).toNatClampNeg))] [.inl (u3), .inl (m_i σ 7 ((u4).toNatClampNeg) 4), .inl (c1), rf 0 (0)] σ (.inl (some (.inl w)), σ') := h
              replace h := ei_p h rfl rfl rfl rfl
              obtain ⟨f, g, h⟩ := h
              replace hf := Nat.lt_trans g hf
              clear g
              replace h : EV F f 10 z10 63 [some (rf 0 (0)), some (.inl (c1)), some (.inl (c2)), some (.inl (u3)), some (.inl (u4)), some (rf 7 ((u4).toNatClampNeg))] [.inl (c2), .inl (u3), .inl (m_i σ 7 ((u4).toNatClampNeg) 4), .inl (c1), rf 0 (0)] σ (.inl (some (.inl w)), σ') := h
              replace h := bk_I (ei_v (as := [.inl (c2), .inl (u3), .inl (m_i σ 7 ((u4).toNatClampNeg) 4), .inl (c1)]) h rfl rfl rfl) rfl z11_at (Or.inr rfl)
              obtain ⟨v11, σ12, r13, f, g, h⟩ := h
              replace hf := Nat.lt_trans g hf
              clear g
              have er13 := ro_run rfl r13
              rw [er13] at h r13
              have p14 := x11 hs r13
              refine ⟨v11, p14, ?_⟩
              replace h : EV F f 10 z10 66 [some (rf 0 (0)), some (.inl (c1)), some (.inl (c2)), some (.inl (u3)), some (.inl (u4)), some (rf 7 ((u4).toNatClampNeg))] [.inl (v11)] σ (.inl (some (.inl w)), σ') := h
              replace h := ei_c h rfl rfl rfl
              rcases h with ⟨hp15, f, g, h⟩ | ⟨hp15, f, g, h⟩
              · skip
                replace hp15 : (v11).toInt = (0 : Int) := ic_eq.mp hp15
                refine Or.inl ⟨hp15, ?_⟩
                replace hf := Nat.lt_trans g hf
                clear g
                replace h : EV F f 10 z10 75 [some (rf 0 (0)), some (.inl (c1)), some (.inl (c2)), some (.inl (u3)), some (.inl (u4)), some (rf 7 ((u4).toNatClampNeg))] [] σ (.inl (some (.inl w)), σ') := h
                replace h := ei_p h rfl rfl rfl rfl
                obtain ⟨f, g, h⟩ := h
                replace hf := Nat.lt_trans g hf
                clear g
                replace h : EV F f 10 z10 78 [some (rf 0 (0)), some (.inl (c1)), some (.inl (c2)), some (.inl (u3)), some (.inl ((u4) + Int32.ofInt 1)), some (rf 7 ((u4).toNatClampNeg))] [] σ (.inl (some (.inl w)), σ') := h
                replace h := ei_p h rfl rfl rfl rfl
                obtain ⟨f, g, h⟩ := h
                replace hf := Nat.lt_trans g hf
                clear g
                replace h : EV F f 10 z10 5 [some (rf 0 (0)), some (.inl (c1)), some (.inl (c2)), some (.inl (u3)), some (.inl ((u4) + Int32.ofInt 1)), some (rf 7 ((u4).toNatClampNeg))] [] σ (.inl (some (.inl w)), σ') := h
                exact IH f hf (u3) ((u4) + Int32.ofInt 1) (some (rf 7 ((u4).toNatClampNeg))) h
              · skip
                replace hp15 : ¬ ((v11).toInt = (0 : Int)) := (not_congr ic_eq).mp hp15
                refine Or.inr ⟨hp15, ?_⟩
                replace hf := Nat.lt_trans g hf
                clear g
                replace h : EV F f 10 z10 69 [some (rf 0 (0)), some (.inl (c1)), some (.inl (c2)), some (.inl (u3)), some (.inl (u4)), some (rf 7 ((u4).toNatClampNeg))] [] σ (.inl (some (.inl w)), σ') := h
                replace h := ei_p h rfl rfl rfl rfl
                obtain ⟨f, g, h⟩ := h
                replace hf := Nat.lt_trans g hf
                clear g
                replace h : EV F f 10 z10 71 [some (rf 0 (0)), some (.inl (c1)), some (.inl (c2)), some (.inl (u3)), some (.inl (u4)), some (rf 7 ((u4).toNatClampNeg))] [rf 7 ((u4).toNatClampNeg)] σ (.inl (some (.inl w)), σ') := h
                replace h := ei_get h rfl rfl
                obtain ⟨f, g, h⟩ := h
                replace hf := Nat.lt_trans g hf
                clear g
                replace h : EV F f 10 z10 74 [some (rf 0 (0)), some (.inl (c1)), some (.inl (c2)), some (.inl (u3)), some (.inl (u4)), some (rf 7 ((u4).toNatClampNeg))] [.inl (m_i σ 7 ((u4).toNatClampNeg) 4)] σ (.inl (some (.inl w)), σ') := h
                replace h := ei_p h rfl rfl rfl rfl
                obtain ⟨f, g, h⟩ := h
                replace hf := Nat.lt_trans g hf
                clear g
                replace h : EV F f 10 z10 75 [some (rf 0 (0)), some (.inl (c1)), some (.inl (c2)), some (.inl (m_i σ 7 ((u4).toNatClampNeg) 4)), some (.inl (u4)), some (rf 7 ((u4).toNatClampNeg))] [] σ (.inl (some (.inl w)), σ') := h
                replace h := ei_p h rfl rfl rfl rfl
                obtain ⟨f, g, h⟩ := h
                replace hf := Nat.lt_trans g hf
                clear g
                replace h : EV F f 10 z10 78 [some (rf 0 (0)), some (.inl (c1)), some (.inl (c2)), some (.inl (m_i σ 7 ((u4).toNatClampNeg) 4)), some (.inl ((u4) + Int32.ofInt 1)), some (rf 7 ((u4).toNatClampNeg))] [] σ (.inl (some (.inl w)), σ') := h
                replace h := ei_p h rfl rfl rfl rfl
                obtain ⟨f, g, h⟩ := h
                replace hf := Nat.lt_trans g hf
                clear g
                replace h : EV F f 10 z10 5 [some (rf 0 (0)), some (.inl (c1)), some (.inl (c2)), some (.inl (m_i σ 7 ((u4).toNatClampNeg) 4)), some (.inl ((u4) + Int32.ofInt 1)), some (rf 7 ((u4).toNatClampNeg))] [] σ (.inl (some (.inl w)), σ') := h
                exact IH f hf (m_i σ 7 ((u4).toNatClampNeg) 4) ((u4) + Int32.ofInt 1) (some (rf 7 ((u4).toNatClampNeg))) h
def P10 (σ : mS) (x1 : Int32) (x2 : Int32) (w : Int32) : Prop := ∃ n, Q10_5 σ (x1) (x2) n (Int32.ofInt 0) (Int32.ofInt 0) w
theorem x10 {σ σ' : mS} {x1 : Int32} {x2 : Int32} {w : Int32} (hs : HS σ) (h : ev_run sm_all 10 [rf 0 (0), .inl (x1), .inl (x2)] σ (.inl (some (.inl w))) σ') : P10 σ x1 x2 w := by
  unfold P10
  obtain ⟨F, f, h⟩ := ei_go h z10_at
  replace h : EV F f 10 z10 0 [some (rf 0 (0)), some (.inl (x1)), some (.inl (x2)), none, none, none] [] σ (.inl (some (.inl w)), σ') := h
  replace h := ei_p h rfl rfl rfl rfl
  obtain ⟨f, g, h⟩ := h
  clear g
  replace h : EV F f 10 z10 1 [some (rf 0 (0)), some (.inl (x1)), some (.inl (x2)), none, none, none] [.inl (Int32.ofInt 0)] σ (.inl (some (.inl w)), σ') := h
  replace h := ei_p h rfl rfl rfl rfl
  obtain ⟨f, g, h⟩ := h
  clear g
  replace h : EV F f 10 z10 2 [some (rf 0 (0)), some (.inl (x1)), some (.inl (x2)), some (.inl (Int32.ofInt 0)), none, none] [] σ (.inl (some (.inl w)), σ') := h
  replace h := ei_p h rfl rfl rfl rfl
  obtain ⟨f, g, h⟩ := h
  clear g
  replace h : EV F f 10 z10 3 [some (rf 0 (0)), some (.inl (x1)), some (.inl (x2)), some (.inl (Int32.ofInt 0)), none, none] [.inl (Int32.ofInt 0)] σ (.inl (some (.inl w)), σ') := h
  replace h := ei_p h rfl rfl rfl rfl
  obtain ⟨f, g, h⟩ := h
  clear g
  replace h : EV F f 10 z10 5 [some (rf 0 (0)), some (.inl (x1)), some (.inl (x2)), some (.inl (Int32.ofInt 0)), some (.inl (Int32.ofInt 0)), none] [] σ (.inl (some (.inl w)), σ') := h
  exact ⟨f + 1, q10_5 hs (f + 1) f (Nat.lt_succ_self f) (Int32.ofInt 0) (Int32.ofInt 0) _ h⟩
def z106 : mAl := ((yX7_goAway, cX7_goAway, 1, none, { frames := 0, cells := 0, slots := 0, locals := 0 }, []), rw_X7_goAway, false)
theorem z106_at : m_alF[106]? = some z106 := rfl
abbrev L106 : List (Nat × Nat) := [(7, 6), (7, 7), (7, 9), (7, 12)]
abbrev w106 : Nat → Nat → Bool := wl L106
def S106 : List Nat := [106]
theorem W106 : fw_S w106 S106 = true := by decide +kernel
def P106 (σ : mS) (a : Nat) (σ' : mS) : Prop := ∃ σ2, σ2 = m_set σ 7 (a) (9) (.inl (Int32.ofInt 0)) ∧ ∃ σ5, σ5 = m_set σ2 7 (a) (6) (.inl (Int32.ofInt 0)) ∧ ∃ σ8, σ8 = m_set σ5 7 (a) (7) (.inl (Int32.ofInt 0)) ∧ ((m_r σ8 7 (a) 12 = none ∧ σ' = σ8) ∨ (∃ q11, m_r σ8 7 (a) 12 = some q11 ∧ ∃ i14, m_r σ8 7 (a) 12 = some (7, i14) ∧ ∃ σ17, σ17 = m_set σ8 7 (i14) (12) (.inr (.inr none)) ∧ ∃ σ20, σ20 = m_set σ17 7 (a) (12) (.inr (.inr none)) ∧ σ' = σ20))
theorem x106 {σ σ' : mS} {a : Nat} (hs : HS σ) (h : ev_run sm_all 106 [rf 7 (a)] σ (.inl none) σ') : P106 σ a σ' := by
  unfold P106
  obtain ⟨F, f, h⟩ := ei_go h z106_at
  replace h : EV F f 106 z106 0 [some (rf 7 (a))] [] σ (.inl none, σ') := h
  replace h := ei_p h rfl rfl rfl rfl
  obtain ⟨f, g, h⟩ := h
  clear g
  replace h : EV F f 106 z106 1 [some (rf 7 (a))] [rf 7 (a)] σ (.inl none, σ') := h
  replace h := ei_p h rfl rfl rfl rfl
  obtain ⟨f, g, h⟩ := h
  clear g
  replace h : EV F f 106 z106 2 [some (rf 7 (a))] [.inl (Int32.ofInt 0), rf 7 (a)] σ (.inl none, σ') := h
  replace h := ei_put h rfl
  obtain ⟨ht1, f, g, h⟩ := h
  clear g
  obtain ⟨σ2, e3⟩ : ∃ s, s = m_set σ 7 (a) (9) (.inl (Int32.ofInt 0)) := ⟨_, rfl⟩
  rw [← e3] at h
  have hsσ2 : HS σ2 := by rw [e3]; exact HS_set hs rfl
  refine ⟨σ2, e3, ?_⟩
  replace h : EV F f 106 z106 5 [some (rf 7 (a))] [] σ2 (.inl none, σ') := h
  replace h := ei_p h rfl rfl rfl rfl
  obtain ⟨f, g, h⟩ := h
  clear g
  replace h : EV F f 106 z106 6 [some (rf 7 (a))] [rf 7 (a)] σ2 (.inl none, σ') := h
  replace h := ei_p h rfl rfl rfl rfl
  obtain ⟨f, g, h⟩ := h
  clear g
  replace h : EV F f 106 z106 7 [some (rf 7 (a))] [.inl (Int32.ofInt 0), rf 7 (a)] σ2 (.inl none, σ') := h
  replace h := ei_put h rfl
  obtain ⟨ht4, f, g, h⟩ := h
  clear g
  obtain ⟨σ5, e6⟩ : ∃ s, s = m_set σ2 7 (a) (6) (.inl (Int32.ofInt 0)) := ⟨_, rfl⟩
  rw [← e6] at h
  have hsσ5 : HS σ5 := by rw [e6]; exact HS_set hsσ2 rfl
  refine ⟨σ5, e6, ?_⟩
  replace h : EV F f 106 z106 10 [some (rf 7 (a))] [] σ5 (.inl none, σ') := h
  replace h := ei_p h rfl rfl rfl rfl
  obtain ⟨f, g, h⟩ := h
  clear g
  replace h : EV F f 106 z106 11 [some (rf 7 (a))] [rf 7 (a)] σ5 (.inl none, σ') := h
  replace h := ei_p h rfl rfl rfl rfl
  obtain ⟨f, g, h⟩ := h
  clear g
  replace h : EV F f 106 z106 12 [some (rf 7 (a))] [.inl (Int32.ofInt 0), rf 7 (a)] σ5 (.inl none, σ') := h
  replace h := ei_put h rfl
  obtain ⟨ht7, f, g, h⟩ := h
  clear g
  obtain ⟨σ8, e9⟩ : ∃ s, s = m_set σ5 7 (a) (7) (.inl (Int32.ofInt 0)) := ⟨_, rfl⟩
  rw [← e9] at h
  have hsσ8 : HS σ8 := by rw [e9]; exact HS_set hsσ5 rfl
  refine ⟨σ8, e9, ?_⟩
  replace h : EV F f 106 z106 15 [some (rf 7 (a))] [] σ8 (.inl none, σ') := h
  replace h := ei_p h rfl rfl rfl rfl
  obtain ⟨f, g, h⟩ := h
  clear g
  replace h : EV F f 106 z106 16 [some (rf 7 (a))] [rf 7 (a)] σ8 (.inl none, σ') := h
  replace h := ei_get h rfl rfl
  obtain ⟨f, g, h⟩ := h
  clear g
  replace h : EV F f 106 z106 19 [some (rf 7 (a))] [.inr (.inr (m_r σ8 7 (a) 12))] σ8 (.inl none, σ') := h
  rcases r_cs (m_r σ8 7 (a) 12) with e10 | ⟨q11, e10⟩
  · skip
    rw [e10] at h
    refine Or.inl ⟨e10, ?_⟩
    replace h : EV F f 106 z106 19 [some (rf 7 (a))] [.inr (.inr none)] σ8 (.inl none, σ') := h
    replace h := ei_c h rfl rfl rfl
    rcases h with ⟨hp12, f, g, h⟩ | ⟨hp12, f, g, h⟩
    · skip
      clear g
      replace h : EV F f 106 z106 35 [some (rf 7 (a))] [] σ8 (.inl none, σ') := h
      have e := ei_ret h rfl
      cases e
      exact rfl
    · exact absurd rfl hp12
  · skip
    rw [e10] at h
    refine Or.inr ⟨q11, e10, ?_⟩
    replace h : EV F f 106 z106 19 [some (rf 7 (a))] [.inr (.inr (some q11))] σ8 (.inl none, σ') := h
    replace h := ei_c h rfl rfl rfl
    rcases h with ⟨hp13, f, g, h⟩ | ⟨hp13, f, g, h⟩
    · exact absurd hp13 (fun z => by cases z)
    · skip
      clear g
      replace h : EV F f 106 z106 22 [some (rf 7 (a))] [] σ8 (.inl none, σ') := h
      replace h := ei_p h rfl rfl rfl rfl
      obtain ⟨f, g, h⟩ := h
      clear g
      replace h : EV F f 106 z106 23 [some (rf 7 (a))] [rf 7 (a)] σ8 (.inl none, σ') := h
      replace h := ei_get h rfl rfl
      obtain ⟨f, g, h⟩ := h
      clear g
      replace h : EV F f 106 z106 26 [some (rf 7 (a))] [.inr (.inr (m_r σ8 7 (a) 12))] σ8 (.inl none, σ') := h
      replace h := ei_p h rfl rfl rfl rfl
      obtain ⟨f, g, h⟩ := h
      clear g
      replace h : EV F f 106 z106 27 [some (rf 7 (a))] [.inr (.inr none), .inr (.inr (m_r σ8 7 (a) 12))] σ8 (.inl none, σ') := h
      obtain ⟨i14, e15⟩ := ei_pp h rfl
      rw [e15] at h
      refine ⟨i14, e15, ?_⟩
      replace h : EV F f 106 z106 27 [some (rf 7 (a))] [.inr (.inr none), rf 7 (i14)] σ8 (.inl none, σ') := h
      replace h := ei_put h rfl
      obtain ⟨ht16, f, g, h⟩ := h
      clear g
      obtain ⟨σ17, e18⟩ : ∃ s, s = m_set σ8 7 (i14) (12) (.inr (.inr none)) := ⟨_, rfl⟩
      rw [← e18] at h
      have hsσ17 : HS σ17 := by rw [e18]; exact HS_set hsσ8 rfl
      refine ⟨σ17, e18, ?_⟩
      replace h : EV F f 106 z106 30 [some (rf 7 (a))] [] σ17 (.inl none, σ') := h
      replace h := ei_p h rfl rfl rfl rfl
      obtain ⟨f, g, h⟩ := h
      clear g
      replace h : EV F f 106 z106 31 [some (rf 7 (a))] [rf 7 (a)] σ17 (.inl none, σ') := h
      replace h := ei_p h rfl rfl rfl rfl
      obtain ⟨f, g, h⟩ := h
      clear g
      replace h : EV F f 106 z106 32 [some (rf 7 (a))] [.inr (.inr none), rf 7 (a)] σ17 (.inl none, σ') := h
      replace h := ei_put h rfl
      obtain ⟨ht19, f, g, h⟩ := h
      clear g
      obtain ⟨σ20, e21⟩ : ∃ s, s = m_set σ17 7 (a) (12) (.inr (.inr none)) := ⟨_, rfl⟩
      rw [← e21] at h
      have hsσ20 : HS σ20 := by rw [e21]; exact HS_set hsσ17 rfl
      refine ⟨σ20, e21, ?_⟩
      replace h : EV F f 106 z106 35 [some (rf 7 (a))] [] σ20 (.inl none, σ') := h
      have e := ei_ret h rfl
      cases e
      exact rfl
def z12 : mAl := ((yX0_useShown, cX0_useShown, 3, none, { frames := 2, cells := 0, slots := 0, locals := 41 }, []), rw_X0_useShown, false)
theorem z12_at : m_alF[12]? = some z12 := rfl
abbrev L12 : List (Nat × Nat) := [(0, 2), (7, 6), (7, 7), (7, 9), (7, 11), (7, 12)]
abbrev w12 : Nat → Nat → Bool := wl L12
def S12 : List Nat := [5, 12, 105, 106]
theorem W12 : fw_S w12 S12 = true := by decide +kernel
def P12 (σ : mS) (x1 : mR) (x2 : Int32) (σ' : mS) : Prop := ∃ i1, x1 = some (7, i1) ∧ ∃ σ4, σ4 = m_set σ 7 (i1) (6) (.inl ((m_i σ 7 (i1) 6) - (x2))) ∧ ∃ σ7, σ7 = m_set σ4 7 (i1) (7) (.inl ((m_i σ4 7 (i1) 7) - (x2))) ∧ (((m_i σ7 7 (i1) 6).toInt ≠ (0 : Int) ∧ (((m_i σ7 7 (i1) 7).toInt ≠ (0 : Int) ∧ σ' = σ7) ∨ (¬ ((m_i σ7 7 (i1) 7).toInt ≠ (0 : Int)) ∧ ∃ σ12, fw_e w5 σ7 σ12 ∧ P5 σ7 (some (7, i1)) σ12 ∧ σ' = σ12))) ∨ (¬ ((m_i σ7 7 (i1) 6).toInt ≠ (0 : Int)) ∧ ∃ σ16, fw_e w106 σ7 σ16 ∧ P106 σ7 (i1) σ16 ∧ σ' = σ16))
theorem x12 {σ σ' : mS} {x1 : mR} {x2 : Int32} (hs : HS σ) (h : ev_run sm_all 12 [rf 0 (0), .inr (.inr (x1)), .inl (x2)] σ (.inl none) σ') : P12 σ x1 x2 σ' := by
  unfold P12
  obtain ⟨F, f, h⟩ := ei_go h z12_at
  replace h : EV F f 12 z12 0 [some (rf 0 (0)), some (.inr (.inr (x1))), some (.inl (x2))] [] σ (.inl none, σ') := h
  replace h := ei_p h rfl rfl rfl rfl
  obtain ⟨f, g, h⟩ := h
  clear g
  replace h : EV F f 12 z12 1 [some (rf 0 (0)), some (.inr (.inr (x1))), some (.inl (x2))] [.inr (.inr (x1))] σ (.inl none, σ') := h
  replace h := ei_p h rfl rfl rfl rfl
  obtain ⟨f, g, h⟩ := h
  clear g
  replace h : EV F f 12 z12 2 [some (rf 0 (0)), some (.inr (.inr (x1))), some (.inl (x2))] [.inr (.inr (x1)), .inr (.inr (x1))] σ (.inl none, σ') := h
  obtain ⟨i1, e2⟩ := ei_gp h rfl
  rw [e2] at h
  refine ⟨i1, e2, ?_⟩
  replace h : EV F f 12 z12 2 [some (rf 0 (0)), some (rf 7 (i1)), some (.inl (x2))] [rf 7 (i1), rf 7 (i1)] σ (.inl none, σ') := h
  replace h := ei_get h rfl rfl
  obtain ⟨f, g, h⟩ := h
  clear g
  replace h : EV F f 12 z12 5 [some (rf 0 (0)), some (rf 7 (i1)), some (.inl (x2))] [.inl (m_i σ 7 (i1) 6), rf 7 (i1)] σ (.inl none, σ') := h
  replace h := ei_p h rfl rfl rfl rfl
  obtain ⟨f, g, h⟩ := h
  clear g
  replace h : EV F f 12 z12 6 [some (rf 0 (0)), some (rf 7 (i1)), some (.inl (x2))] [.inl (x2), .inl (m_i σ 7 (i1) 6), rf 7 (i1)] σ (.inl none, σ') := h
  replace h := ei_p h rfl rfl rfl rfl
  obtain ⟨f, g, h⟩ := h
  clear g
  replace h : EV F f 12 z12 7 [some (rf 0 (0)), some (rf 7 (i1)), some (.inl (x2))] [.inl ((m_i σ 7 (i1) 6) - (x2)), rf 7 (i1)] σ (.inl none, σ') := h
  replace h := ei_put h rfl
  obtain ⟨ht3, f, g, h⟩ := h
  clear g
  obtain ⟨σ4, e5⟩ : ∃ s, s = m_set σ 7 (i1) (6) (.inl ((m_i σ 7 (i1) 6) - (x2))) := ⟨_, rfl⟩
  rw [← e5] at h
  have hsσ4 : HS σ4 := by rw [e5]; exact HS_set hs rfl
  refine ⟨σ4, e5, ?_⟩
  replace h : EV F f 12 z12 10 [some (rf 0 (0)), some (rf 7 (i1)), some (.inl (x2))] [] σ4 (.inl none, σ') := h
  replace h := ei_p h rfl rfl rfl rfl
  obtain ⟨f, g, h⟩ := h
  clear g
  replace h : EV F f 12 z12 11 [some (rf 0 (0)), some (rf 7 (i1)), some (.inl (x2))] [rf 7 (i1)] σ4 (.inl none, σ') := h
  replace h := ei_p h rfl rfl rfl rfl
  obtain ⟨f, g, h⟩ := h
  clear g
  replace h : EV F f 12 z12 12 [some (rf 0 (0)), some (rf 7 (i1)), some (.inl (x2))] [rf 7 (i1), rf 7 (i1)] σ4 (.inl none, σ') := h
  replace h := ei_get h rfl rfl
  obtain ⟨f, g, h⟩ := h
  clear g
  replace h : EV F f 12 z12 15 [some (rf 0 (0)), some (rf 7 (i1)), some (.inl (x2))] [.inl (m_i σ4 7 (i1) 7), rf 7 (i1)] σ4 (.inl none, σ') := h
  replace h := ei_p h rfl rfl rfl rfl
  obtain ⟨f, g, h⟩ := h
  clear g
  replace h : EV F f 12 z12 16 [some (rf 0 (0)), some (rf 7 (i1)), some (.inl (x2))] [.inl (x2), .inl (m_i σ4 7 (i1) 7), rf 7 (i1)] σ4 (.inl none, σ') := h
  replace h := ei_p h rfl rfl rfl rfl
  obtain ⟨f, g, h⟩ := h
  clear g
  replace h : EV F f 12 z12 17 [some (rf 0 (0)), some (rf 7 (i1)), some (.inl (x2))] [.inl ((m_i σ4 7 (i1) 7) - (x2)), rf 7 (i1)] σ4 (.inl none, σ') := h
  replace h := ei_put h rfl
  obtain ⟨ht6, f, g, h⟩ := h
  clear g
  obtain ⟨σ7, e8⟩ : ∃ s, s = m_set σ4 7 (i1) (7) (.inl ((m_i σ4 7 (i1) 7) - (x2))) := ⟨_, rfl⟩
  rw [← e8] at h
  have hsσ7 : HS σ7 := by rw [e8]; exact HS_set hsσ4 rfl
  refine ⟨σ7, e8, ?_⟩
  replace h : EV F f 12 z12 20 [some (rf 0 (0)), some (rf 7 (i1)), some (.inl (x2))] [] σ7 (.inl none, σ') := h
  replace h := ei_p h rfl rfl rfl rfl
  obtain ⟨f, g, h⟩ := h
  clear g
  replace h : EV F f 12 z12 21 [some (rf 0 (0)), some (rf 7 (i1)), some (.inl (x2))] [rf 7 (i1)] σ7 (.inl none, σ') := h
  replace h := ei_get h rfl rfl
  obtain ⟨f, g, h⟩ := h
  clear g
  replace h : EV F f 12 z12 24 [some (rf 0 (0)), some (rf 7 (i1)), some (.inl (x2))] [.inl (m_i σ7 7 (i1) 6)] σ7 (.inl none, σ') := h
  replace h := ei_c h rfl rfl rfl
  rcases h with ⟨hp9, f, g, h⟩ | ⟨hp9, f, g, h⟩
  · skip
    replace hp9 : (m_i σ7 7 (i1) 6).toInt ≠ (0 : Int) := ic_ne.mp hp9
    refine Or.inl ⟨hp9, ?_⟩
    clear g
    replace h : EV F f 12 z12 34 [some (rf 0 (0)), some (rf 7 (i1)), some (.inl (x2))] [] σ7 (.inl none, σ') := h
    replace h := ei_p h rfl rfl rfl rfl
    obtain ⟨f, g, h⟩ := h
    clear g
    replace h : EV F f 12 z12 35 [some (rf 0 (0)), some (rf 7 (i1)), some (.inl (x2))] [rf 7 (i1)] σ7 (.inl none, σ') := h
    replace h := ei_get h rfl rfl
    obtain ⟨f, g, h⟩ := h
    clear g
    replace h : EV F f 12 z12 38 [some (rf 0 (0)), some (rf 7 (i1)), some (.inl (x2))] [.inl (m_i σ7 7 (i1) 7)] σ7 (.inl none, σ') := h
    replace h := ei_c h rfl rfl rfl
    rcases h with ⟨hp10, f, g, h⟩ | ⟨hp10, f, g, h⟩
    · skip
      replace hp10 : (m_i σ7 7 (i1) 7).toInt ≠ (0 : Int) := ic_ne.mp hp10
      refine Or.inl ⟨hp10, ?_⟩
      clear g
      replace h : EV F f 12 z12 46 [some (rf 0 (0)), some (rf 7 (i1)), some (.inl (x2))] [] σ7 (.inl none, σ') := h
      have e := ei_ret h rfl
      cases e
      exact rfl
    · skip
      replace hp10 : ¬ ((m_i σ7 7 (i1) 7).toInt ≠ (0 : Int)) := (not_congr ic_ne).mp hp10
      refine Or.inr ⟨hp10, ?_⟩
      clear g
      replace h : EV F f 12 z12 41 [some (rf 0 (0)), some (rf 7 (i1)), some (.inl (x2))] [] σ7 (.inl none, σ') := h
      replace h := ei_p h rfl rfl rfl rfl
      obtain ⟨f, g, h⟩ := h
      clear g
      replace h : EV F f 12 z12 42 [some (rf 0 (0)), some (rf 7 (i1)), some (.inl (x2))] [rf 0 (0)] σ7 (.inl none, σ') := h
      replace h := ei_p h rfl rfl rfl rfl
      obtain ⟨f, g, h⟩ := h
      clear g
      replace h : EV F f 12 z12 43 [some (rf 0 (0)), some (rf 7 (i1)), some (.inl (x2))] [rf 7 (i1), rf 0 (0)] σ7 (.inl none, σ') := h
      replace h := bk_0 (ei_v (as := [rf 7 (i1)]) h rfl rfl rfl) rfl z5_at rfl
      obtain ⟨σ12, r13, f, g, h⟩ := h
      clear g
      have p14 := x5 hsσ7 r13
      have hsσ12 : HS σ12 := HS_run rfl r13 hsσ7
      refine ⟨σ12, fw_run W5 rfl r13, p14, ?_⟩
      replace h : EV F f 12 z12 46 [some (rf 0 (0)), some (rf 7 (i1)), some (.inl (x2))] [] σ12 (.inl none, σ') := h
      have e := ei_ret h rfl
      cases e
      exact rfl
  · skip
    replace hp9 : ¬ ((m_i σ7 7 (i1) 6).toInt ≠ (0 : Int)) := (not_congr ic_ne).mp hp9
    refine Or.inr ⟨hp9, ?_⟩
    clear g
    replace h : EV F f 12 z12 27 [some (rf 0 (0)), some (rf 7 (i1)), some (.inl (x2))] [] σ7 (.inl none, σ') := h
    replace h := ei_p h rfl rfl rfl rfl
    obtain ⟨f, g, h⟩ := h
    clear g
    replace h : EV F f 12 z12 28 [some (rf 0 (0)), some (rf 7 (i1)), some (.inl (x2))] [rf 7 (i1)] σ7 (.inl none, σ') := h
    replace h := bk_0 (ei_v (as := []) h rfl rfl rfl) rfl z106_at rfl
    obtain ⟨σ16, r17, f, g, h⟩ := h
    clear g
    have p18 := x106 hsσ7 r17
    have hsσ16 : HS σ16 := HS_run rfl r17 hsσ7
    refine ⟨σ16, fw_run W106 rfl r17, p18, ?_⟩
    replace h : EV F f 12 z12 31 [some (rf 0 (0)), some (rf 7 (i1)), some (.inl (x2))] [] σ16 (.inl none, σ') := h
    replace h := ei_p h rfl rfl rfl rfl
    obtain ⟨f, g, h⟩ := h
    clear g
    replace h : EV F f 12 z12 46 [some (rf 0 (0)), some (rf 7 (i1)), some (.inl (x2))] [] σ16 (.inl none, σ') := h
    have e := ei_ret h rfl
    cases e
    exact rfl
def z13 : mAl := ((yX0_useAll, cX0_useAll, 3, none, { frames := 1, cells := 0, slots := 0, locals := 20 }, []), rw_X0_useAll, false)
theorem z13_at : m_alF[13]? = some z13 := rfl
abbrev L13 : List (Nat × Nat) := [(7, 6), (7, 7), (7, 9), (7, 12)]
abbrev w13 : Nat → Nat → Bool := wl L13
def S13 : List Nat := [13, 105, 106]
theorem W13 : fw_S w13 S13 = true := by decide +kernel
def P13 (σ : mS) (x1 : mR) (x2 : Int32) (σ' : mS) : Prop := ∃ i1, x1 = some (7, i1) ∧ ∃ σ4, σ4 = m_set σ 7 (i1) (6) (.inl ((m_i σ 7 (i1) 6) - (x2))) ∧ (((m_i σ4 7 (i1) 6).toInt ≠ (0 : Int) ∧ ∃ σ8, fw_e w105 σ4 σ8 ∧ P105 σ4 (i1) σ8 ∧ σ' = σ8) ∨ (¬ ((m_i σ4 7 (i1) 6).toInt ≠ (0 : Int)) ∧ ∃ σ12, fw_e w106 σ4 σ12 ∧ P106 σ4 (i1) σ12 ∧ σ' = σ12))
theorem x13 {σ σ' : mS} {x1 : mR} {x2 : Int32} (hs : HS σ) (h : ev_run sm_all 13 [rf 0 (0), .inr (.inr (x1)), .inl (x2)] σ (.inl none) σ') : P13 σ x1 x2 σ' := by
  unfold P13
  obtain ⟨F, f, h⟩ := ei_go h z13_at
  replace h : EV F f 13 z13 0 [some (rf 0 (0)), some (.inr (.inr (x1))), some (.inl (x2))] [] σ (.inl none, σ') := h
  replace h := ei_p h rfl rfl rfl rfl
  obtain ⟨f, g, h⟩ := h
  clear g
  replace h : EV F f 13 z13 1 [some (rf 0 (0)), some (.inr (.inr (x1))), some (.inl (x2))] [.inr (.inr (x1))] σ (.inl none, σ') := h
  replace h := ei_p h rfl rfl rfl rfl
  obtain ⟨f, g, h⟩ := h
  clear g
  replace h : EV F f 13 z13 2 [some (rf 0 (0)), some (.inr (.inr (x1))), some (.inl (x2))] [.inr (.inr (x1)), .inr (.inr (x1))] σ (.inl none, σ') := h
  obtain ⟨i1, e2⟩ := ei_gp h rfl
  rw [e2] at h
  refine ⟨i1, e2, ?_⟩
  replace h : EV F f 13 z13 2 [some (rf 0 (0)), some (rf 7 (i1)), some (.inl (x2))] [rf 7 (i1), rf 7 (i1)] σ (.inl none, σ') := h
  replace h := ei_get h rfl rfl
  obtain ⟨f, g, h⟩ := h
  clear g
  replace h : EV F f 13 z13 5 [some (rf 0 (0)), some (rf 7 (i1)), some (.inl (x2))] [.inl (m_i σ 7 (i1) 6), rf 7 (i1)] σ (.inl none, σ') := h
  replace h := ei_p h rfl rfl rfl rfl
  obtain ⟨f, g, h⟩ := h
  clear g
  replace h : EV F f 13 z13 6 [some (rf 0 (0)), some (rf 7 (i1)), some (.inl (x2))] [.inl (x2), .inl (m_i σ 7 (i1) 6), rf 7 (i1)] σ (.inl none, σ') := h
  replace h := ei_p h rfl rfl rfl rfl
  obtain ⟨f, g, h⟩ := h
  clear g
  replace h : EV F f 13 z13 7 [some (rf 0 (0)), some (rf 7 (i1)), some (.inl (x2))] [.inl ((m_i σ 7 (i1) 6) - (x2)), rf 7 (i1)] σ (.inl none, σ') := h
  replace h := ei_put h rfl
  obtain ⟨ht3, f, g, h⟩ := h
  clear g
  obtain ⟨σ4, e5⟩ : ∃ s, s = m_set σ 7 (i1) (6) (.inl ((m_i σ 7 (i1) 6) - (x2))) := ⟨_, rfl⟩
  rw [← e5] at h
  have hsσ4 : HS σ4 := by rw [e5]; exact HS_set hs rfl
  refine ⟨σ4, e5, ?_⟩
  replace h : EV F f 13 z13 10 [some (rf 0 (0)), some (rf 7 (i1)), some (.inl (x2))] [] σ4 (.inl none, σ') := h
  replace h := ei_p h rfl rfl rfl rfl
  obtain ⟨f, g, h⟩ := h
  clear g
  replace h : EV F f 13 z13 11 [some (rf 0 (0)), some (rf 7 (i1)), some (.inl (x2))] [rf 7 (i1)] σ4 (.inl none, σ') := h
  replace h := ei_get h rfl rfl
  obtain ⟨f, g, h⟩ := h
  clear g
  replace h : EV F f 13 z13 14 [some (rf 0 (0)), some (rf 7 (i1)), some (.inl (x2))] [.inl (m_i σ4 7 (i1) 6)] σ4 (.inl none, σ') := h
  replace h := ei_c h rfl rfl rfl
  rcases h with ⟨hp6, f, g, h⟩ | ⟨hp6, f, g, h⟩
  · skip
    replace hp6 : (m_i σ4 7 (i1) 6).toInt ≠ (0 : Int) := ic_ne.mp hp6
    refine Or.inl ⟨hp6, ?_⟩
    clear g
    replace h : EV F f 13 z13 24 [some (rf 0 (0)), some (rf 7 (i1)), some (.inl (x2))] [] σ4 (.inl none, σ') := h
    replace h := ei_p h rfl rfl rfl rfl
    obtain ⟨f, g, h⟩ := h
    clear g
    replace h : EV F f 13 z13 25 [some (rf 0 (0)), some (rf 7 (i1)), some (.inl (x2))] [rf 7 (i1)] σ4 (.inl none, σ') := h
    replace h := bk_0 (ei_v (as := []) h rfl rfl rfl) rfl z105_at rfl
    obtain ⟨σ8, r9, f, g, h⟩ := h
    clear g
    have p10 := x105 hsσ4 r9
    have hsσ8 : HS σ8 := HS_run rfl r9 hsσ4
    refine ⟨σ8, fw_run W105 rfl r9, p10, ?_⟩
    replace h : EV F f 13 z13 28 [some (rf 0 (0)), some (rf 7 (i1)), some (.inl (x2))] [] σ8 (.inl none, σ') := h
    have e := ei_ret h rfl
    cases e
    exact rfl
  · skip
    replace hp6 : ¬ ((m_i σ4 7 (i1) 6).toInt ≠ (0 : Int)) := (not_congr ic_ne).mp hp6
    refine Or.inr ⟨hp6, ?_⟩
    clear g
    replace h : EV F f 13 z13 17 [some (rf 0 (0)), some (rf 7 (i1)), some (.inl (x2))] [] σ4 (.inl none, σ') := h
    replace h := ei_p h rfl rfl rfl rfl
    obtain ⟨f, g, h⟩ := h
    clear g
    replace h : EV F f 13 z13 18 [some (rf 0 (0)), some (rf 7 (i1)), some (.inl (x2))] [rf 7 (i1)] σ4 (.inl none, σ') := h
    replace h := bk_0 (ei_v (as := []) h rfl rfl rfl) rfl z106_at rfl
    obtain ⟨σ12, r13, f, g, h⟩ := h
    clear g
    have p14 := x106 hsσ4 r13
    have hsσ12 : HS σ12 := HS_run rfl r13 hsσ4
    refine ⟨σ12, fw_run W106 rfl r13, p14, ?_⟩
    replace h : EV F f 13 z13 21 [some (rf 0 (0)), some (rf 7 (i1)), some (.inl (x2))] [] σ12 (.inl none, σ') := h
    replace h := ei_p h rfl rfl rfl rfl
    obtain ⟨f, g, h⟩ := h
    clear g
    replace h : EV F f 13 z13 28 [some (rf 0 (0)), some (rf 7 (i1)), some (.inl (x2))] [] σ12 (.inl none, σ') := h
    have e := ei_ret h rfl
    cases e
    exact rfl
def z14 : mAl := ((yX0_takeAwayOf, cX0_takeAwayOf, 3, none, { frames := 1, cells := 0, slots := 0, locals := 20 }, []), rw_X0_takeAwayOf, false)
theorem z14_at : m_alF[14]? = some z14 := rfl
abbrev L14 : List (Nat × Nat) := [(7, 6), (7, 7), (7, 9), (7, 12)]
abbrev w14 : Nat → Nat → Bool := wl L14
def S14 : List Nat := [14, 106]
theorem W14 : fw_S w14 S14 = true := by decide +kernel
abbrev B14_2 (c1 : Int32) (ih : Int32 → mS → mS → Prop) (u2 : Int32) (τ : mS) (σ' : mS) : Prop := (((m_i τ 0 (0) 1).toInt ≤ (u2).toInt ∧ σ' = τ) ∨ (¬ ((m_i τ 0 (0) 1).toInt ≤ (u2).toInt) ∧ (((120 : Int) ≤ (u2).toInt ∧ σ' = τ) ∨ (¬ ((120 : Int) ≤ (u2).toInt) ∧ (0 ≤ (u2).toInt ∧ (u2).toInt < 120) ∧ (((m_i τ 7 ((u2).toNatClampNeg) 1).toInt ≠ (c1).toInt ∧ ih ((u2) + Int32.ofInt 1) τ σ') ∨ (¬ ((m_i τ 7 ((u2).toNatClampNeg) 1).toInt ≠ (c1).toInt) ∧ (0 ≤ (u2).toInt ∧ (u2).toInt < 120) ∧ ∃ σ7, fw_e w106 τ σ7 ∧ P106 τ ((u2).toNatClampNeg) σ7 ∧ ih ((u2) + Int32.ofInt 1) σ7 σ'))))))
def Q14_2 (c1 : Int32) : Nat → Int32 → mS → mS → Prop
  | 0 => fun _ _ _ => False
  | n + 1 => B14_2 c1 (Q14_2 c1 n)
theorem q14_2 {F : Nat} {σ' : mS} {c1 : Int32} : ∀ N f, f < N → ∀ (u2 : Int32) (τ : mS), HS τ → EV F f 14 z14 2 [some (rf 0 (0)), some (.inl (c1)), some (.inl (u2))] [] τ (.inl none, σ') → Q14_2 c1 N u2 τ σ' := by
  intro N
  induction N with
  | zero => intro f hf; omega
  | succ N IH =>
    intro f hf0 u2 τ hsτ h
    have hf : f < N + 1 := hf0
    clear hf0
    show B14_2 c1 (Q14_2 c1 N) u2 τ σ'
    replace h := ei_p h rfl rfl rfl rfl
    obtain ⟨f, g, h⟩ := h
    replace hf := Nat.lt_of_lt_of_le g (Nat.le_of_lt_succ hf)
    clear g
    replace h : EV F f 14 z14 3 [some (rf 0 (0)), some (.inl (c1)), some (.inl (u2))] [.inl (u2)] τ (.inl none, σ') := h
    replace h := ei_p h rfl rfl rfl rfl
    obtain ⟨f, g, h⟩ := h
    replace hf := Nat.lt_trans g hf
    clear g
    replace h : EV F f 14 z14 4 [some (rf 0 (0)), some (.inl (c1)), some (.inl (u2))] [rf 0 (0), .inl (u2)] τ (.inl none, σ') := h
    replace h := ei_get h rfl rfl
    obtain ⟨f, g, h⟩ := h
    replace hf := Nat.lt_trans g hf
    clear g
    replace h : EV F f 14 z14 7 [some (rf 0 (0)), some (.inl (c1)), some (.inl (u2))] [.inl (m_i τ 0 (0) 1), .inl (u2)] τ (.inl none, σ') := h
    replace h := ei_c h rfl rfl rfl
    rcases h with ⟨hp1, f, g, h⟩ | ⟨hp1, f, g, h⟩
    · skip
      replace hp1 : (m_i τ 0 (0) 1).toInt ≤ (u2).toInt := ic_ge.mp hp1
      refine Or.inl ⟨hp1, ?_⟩
      replace hf := Nat.lt_trans g hf
      clear g
      replace h : EV F f 14 z14 47 [some (rf 0 (0)), some (.inl (c1)), some (.inl (u2))] [] τ (.inl none, σ') := h
      have e := ei_ret h rfl
      cases e
      exact rfl
    · skip
      replace hp1 : ¬ ((m_i τ 0 (0) 1).toInt ≤ (u2).toInt) := (not_congr ic_ge).mp hp1
      refine Or.inr ⟨hp1, ?_⟩
      replace hf := Nat.lt_trans g hf
      clear g
      replace h : EV F f 14 z14 10 [some (rf 0 (0)), some (.inl (c1)), some (.inl (u2))] [] τ (.inl none, σ') := h
      replace h := ei_p h rfl rfl rfl rfl
      obtain ⟨f, g, h⟩ := h
      replace hf := Nat.lt_trans g hf
      clear g
      replace h : EV F f 14 z14 11 [some (rf 0 (0)), some (.inl (c1)), some (.inl (u2))] [.inl (u2)] τ (.inl none, σ') := h
      replace h := ei_p h rfl rfl rfl rfl
      obtain ⟨f, g, h⟩ := h
      replace hf := Nat.lt_trans g hf
      clear g
      replace h : EV F f 14 z14 12 [some (rf 0 (0)), some (.inl (c1)), some (.inl (u2))] [rf 0 (0), .inl (u2)] τ (.inl none, σ') := h
      replace h := ei_get h rfl (HS_g0_0 hsτ)
      obtain ⟨f, g, h⟩ := h
      replace hf := Nat.lt_trans g hf
      clear g
      replace h : EV F f 14 z14 15 [some (rf 0 (0)), some (.inl (c1)), some (.inl (u2))] [rf 17 (0), .inl (u2)] τ (.inl none, σ') := h
      replace h := ei_len h rfl (HS_l17_0 hsτ) ⟨Nat.le_of_ble_eq_true rfl, Nat.le_of_ble_eq_true rfl⟩
      obtain ⟨f, g, h⟩ := h
      replace hf := Nat.lt_trans g hf
      clear g
      replace h : EV F f 14 z14 16 [some (rf 0 (0)), some (.inl (c1)), some (.inl (u2))] [.inl (Int32.ofInt 120), .inl (u2)] τ (.inl none, σ') := h
      replace h := ei_c h rfl rfl rfl
      rcases h with ⟨hp2, f, g, h⟩ | ⟨hp2, f, g, h⟩
      · skip
        replace hp2 : (120 : Int) ≤ (u2).toInt := ic_ge.mp hp2
        refine Or.inl ⟨hp2, ?_⟩
        replace hf := Nat.lt_trans g hf
        clear g
        replace h : EV F f 14 z14 47 [some (rf 0 (0)), some (.inl (c1)), some (.inl (u2))] [] τ (.inl none, σ') := h
        have e := ei_ret h rfl
        cases e
        exact rfl
      · skip
        replace hp2 : ¬ ((120 : Int) ≤ (u2).toInt) := (not_congr ic_ge).mp hp2
        refine Or.inr ⟨hp2, ?_⟩
        replace hf := Nat.lt_trans g hf
        clear g
        replace h : EV F f 14 z14 19 [some (rf 0 (0)), some (.inl (c1)), some (.inl (u2))] [] τ (.inl none, σ') := h
        replace h := ei_p h rfl rfl rfl rfl
        obtain ⟨f, g, h⟩ := h
        replace hf := Nat.lt_trans g hf
        clear g
        replace h : EV F f 14 z14 20 [some (rf 0 (0)), some (.inl (c1)), some (.inl (u2))] [rf 0 (0)] τ (.inl none, σ') := h
        replace h := ei_get h rfl (HS_g0_0 hsτ)
        obtain ⟨f, g, h⟩ := h
        replace hf := Nat.lt_trans g hf
        clear g
        replace h : EV F f 14 z14 23 [some (rf 0 (0)), some (.inl (c1)), some (.inl (u2))] [rf 17 (0)] τ (.inl none, σ') := h
        replace h := ei_p h rfl rfl rfl rfl
        obtain ⟨f, g, h⟩ := h
        replace hf := Nat.lt_trans g hf
        clear g
        replace h : EV F f 14 z14 24 [some (rf 0 (0)), some (.inl (c1)), some (.inl (u2))] [.inl (u2), rf 17 (0)] τ (.inl none, σ') := h
        replace h := ei_ald h rfl (HS_a17 hsτ)
        obtain ⟨vp3, f, g, h⟩ := h
        replace hf := Nat.lt_trans g hf
        clear g
        replace h : EV F f 14 z14 25 [some (rf 0 (0)), some (.inl (c1)), some (.inl (u2))] [rf 7 ((u2).toNatClampNeg)] τ (.inl none, σ') := h
        refine ⟨HS_v17 hsτ vp3, ?_⟩
        replace h := ei_get h rfl rfl
        obtain ⟨f, g, h⟩ := h
        replace hf := Nat.lt_trans g hf
        clear g
        replace h : EV F f 14 z14 28 [some (rf 0 (0)), some (.inl (c1)), some (.inl (u2))] [.inl (m_i τ 7 ((u2).toNatClampNeg) 1)] τ (.inl none, σ') := h
        replace h := ei_p h rfl rfl rfl rfl
        obtain ⟨f, g, h⟩ := h
        replace hf := Nat.lt_trans g hf
        clear g
        replace h : EV F f 14 z14 29 [some (rf 0 (0)), some (.inl (c1)), some (.inl (u2))] [.inl (c1), .inl (m_i τ 7 ((u2).toNatClampNeg) 1)] τ (.inl none, σ') := h
        replace h := ei_c h rfl rfl rfl
        rcases h with ⟨hp4, f, g, h⟩ | ⟨hp4, f, g, h⟩
        · skip
          replace hp4 : (m_i τ 7 ((u2).toNatClampNeg) 1).toInt ≠ (c1).toInt := ic_ne.mp hp4
          refine Or.inl ⟨hp4, ?_⟩
          replace hf := Nat.lt_trans g hf
          clear g
          replace h : EV F f 14 z14 41 [some (rf 0 (0)), some (.inl (c1)), some (.inl (u2))] [] τ (.inl none, σ') := h
          replace h := ei_p h rfl rfl rfl rfl
          obtain ⟨f, g, h⟩ := h
          replace hf := Nat.lt_trans g hf
          clear g
          replace h : EV F f 14 z14 44 [some (rf 0 (0)), some (.inl (c1)), some (.inl ((u2) + Int32.ofInt 1))] [] τ (.inl none, σ') := h
          replace h := ei_p h rfl rfl rfl rfl
          obtain ⟨f, g, h⟩ := h
          replace hf := Nat.lt_trans g hf
          clear g
          replace h : EV F f 14 z14 2 [some (rf 0 (0)), some (.inl (c1)), some (.inl ((u2) + Int32.ofInt 1))] [] τ (.inl none, σ') := h
          exact IH f hf ((u2) + Int32.ofInt 1) τ hsτ h
        · skip
          replace hp4 : ¬ ((m_i τ 7 ((u2).toNatClampNeg) 1).toInt ≠ (c1).toInt) := (not_congr ic_ne).mp hp4
          refine Or.inr ⟨hp4, ?_⟩
          replace hf := Nat.lt_trans g hf
          clear g
          replace h : EV F f 14 z14 32 [some (rf 0 (0)), some (.inl (c1)), some (.inl (u2))] [] τ (.inl none, σ') := h
          replace h := ei_p h rfl rfl rfl rfl
          obtain ⟨f, g, h⟩ := h
          replace hf := Nat.lt_trans g hf
          clear g
          replace h : EV F f 14 z14 33 [some (rf 0 (0)), some (.inl (c1)), some (.inl (u2))] [rf 0 (0)] τ (.inl none, σ') := h
          replace h := ei_get h rfl (HS_g0_0 hsτ)
          obtain ⟨f, g, h⟩ := h
          replace hf := Nat.lt_trans g hf
          clear g
          replace h : EV F f 14 z14 36 [some (rf 0 (0)), some (.inl (c1)), some (.inl (u2))] [rf 17 (0)] τ (.inl none, σ') := h
          replace h := ei_p h rfl rfl rfl rfl
          obtain ⟨f, g, h⟩ := h
          replace hf := Nat.lt_trans g hf
          clear g
          replace h : EV F f 14 z14 37 [some (rf 0 (0)), some (.inl (c1)), some (.inl (u2))] [.inl (u2), rf 17 (0)] τ (.inl none, σ') := h
          replace h := ei_ald h rfl (HS_a17 hsτ)
          obtain ⟨vp5, f, g, h⟩ := h
          replace hf := Nat.lt_trans g hf
          clear g
          replace h : EV F f 14 z14 38 [some (rf 0 (0)), some (.inl (c1)), some (.inl (u2))] [rf 7 ((u2).toNatClampNeg)] τ (.inl none, σ') := h
          refine ⟨HS_v17 hsτ vp5, ?_⟩
          replace h := bk_0 (ei_v (as := []) h rfl rfl rfl) rfl z106_at rfl
          obtain ⟨σ7, r8, f, g, h⟩ := h
          replace hf := Nat.lt_trans g hf
          clear g
          have p9 := x106 hsτ r8
          have hsσ7 : HS σ7 := HS_run rfl r8 hsτ
          refine ⟨σ7, fw_run W106 rfl r8, p9, ?_⟩
          replace h : EV F f 14 z14 41 [some (rf 0 (0)), some (.inl (c1)), some (.inl (u2))] [] σ7 (.inl none, σ') := h
          replace h := ei_p h rfl rfl rfl rfl
          obtain ⟨f, g, h⟩ := h
          replace hf := Nat.lt_trans g hf
          clear g
          replace h : EV F f 14 z14 44 [some (rf 0 (0)), some (.inl (c1)), some (.inl ((u2) + Int32.ofInt 1))] [] σ7 (.inl none, σ') := h
          replace h := ei_p h rfl rfl rfl rfl
          obtain ⟨f, g, h⟩ := h
          replace hf := Nat.lt_trans g hf
          clear g
          replace h : EV F f 14 z14 2 [some (rf 0 (0)), some (.inl (c1)), some (.inl ((u2) + Int32.ofInt 1))] [] σ7 (.inl none, σ') := h
          exact IH f hf ((u2) + Int32.ofInt 1) σ7 hsσ7 h
def P14 (σ : mS) (x1 : Int32) (σ' : mS) : Prop := ∃ n, Q14_2 (x1) n (Int32.ofInt 0) σ σ'
theorem x14 {σ σ' : mS} {x1 : Int32} (hs : HS σ) (h : ev_run sm_all 14 [rf 0 (0), .inl (x1)] σ (.inl none) σ') : P14 σ x1 σ' := by
  unfold P14
  obtain ⟨F, f, h⟩ := ei_go h z14_at
  replace h : EV F f 14 z14 0 [some (rf 0 (0)), some (.inl (x1)), none] [] σ (.inl none, σ') := h
  replace h := ei_p h rfl rfl rfl rfl
  obtain ⟨f, g, h⟩ := h
  clear g
  replace h : EV F f 14 z14 1 [some (rf 0 (0)), some (.inl (x1)), none] [.inl (Int32.ofInt 0)] σ (.inl none, σ') := h
  replace h := ei_p h rfl rfl rfl rfl
  obtain ⟨f, g, h⟩ := h
  clear g
  replace h : EV F f 14 z14 2 [some (rf 0 (0)), some (.inl (x1)), some (.inl (Int32.ofInt 0))] [] σ (.inl none, σ') := h
  exact ⟨f + 1, q14_2 (f + 1) f (Nat.lt_succ_self f) (Int32.ofInt 0) σ hs h⟩
def z117 : mAl := ((yX8_partOf, cX8_partOf, 2, (some .int), { frames := 1, cells := 0, slots := 0, locals := 23 }, []), rw_X8_partOf, false)
theorem z117_at : m_alF[117]? = some z117 := rfl
def P117 (σ : mS) (x1 : Int32) (x2 : Int32) (w : Int32) : Prop := (((0 : Int) < (x2).toInt ∧ w = (jmax (Int32.ofInt 1) ((x1) / (x2)))) ∨ (¬ ((0 : Int) < (x2).toInt) ∧ w = (x1)))
theorem x117 {σ σ' : mS} {x1 : Int32} {x2 : Int32} {w : Int32} (hs : HS σ) (h : ev_run sm_all 117 [.inl (x1), .inl (x2)] σ (.inl (some (.inl w))) σ') : P117 σ x1 x2 w := by
  unfold P117
  obtain ⟨F, f, h⟩ := ei_go h z117_at
  replace h : EV F f 117 z117 0 [some (.inl (x1)), some (.inl (x2))] [] σ (.inl (some (.inl w)), σ') := h
  replace h := ei_p h rfl rfl rfl rfl
  obtain ⟨f, g, h⟩ := h
  clear g
  replace h : EV F f 117 z117 1 [some (.inl (x1)), some (.inl (x2))] [.inl (x2)] σ (.inl (some (.inl w)), σ') := h
  replace h := ei_c h rfl rfl rfl
  rcases h with ⟨hp1, f, g, h⟩ | ⟨hp1, f, g, h⟩
  · skip
    replace hp1 : (0 : Int) < (x2).toInt := ic_gt.mp hp1
    refine Or.inl ⟨hp1, ?_⟩
    clear g
    replace h : EV F f 117 z117 8 [some (.inl (x1)), some (.inl (x2))] [] σ (.inl (some (.inl w)), σ') := h
    replace h := ei_p h rfl rfl rfl rfl
    obtain ⟨f, g, h⟩ := h
    clear g
    replace h : EV F f 117 z117 9 [some (.inl (x1)), some (.inl (x2))] [.inl (Int32.ofInt 1)] σ (.inl (some (.inl w)), σ') := h
    replace h := ei_p h rfl rfl rfl rfl
    obtain ⟨f, g, h⟩ := h
    clear g
    replace h : EV F f 117 z117 10 [some (.inl (x1)), some (.inl (x2))] [.inl (x1), .inl (Int32.ofInt 1)] σ (.inl (some (.inl w)), σ') := h
    replace h := ei_p h rfl rfl rfl rfl
    obtain ⟨f, g, h⟩ := h
    clear g
    replace h : EV F f 117 z117 11 [some (.inl (x1)), some (.inl (x2))] [.inl (x2), .inl (x1), .inl (Int32.ofInt 1)] σ (.inl (some (.inl w)), σ') := h
    replace h := ei_idiv h rfl
    obtain ⟨hd2, f, g, h⟩ := h
    clear g
    replace h : EV F f 117 z117 12 [some (.inl (x1)), some (.inl (x2))] [.inl ((x1) / (x2)), .inl (Int32.ofInt 1)] σ (.inl (some (.inl w)), σ') := h
    replace h := ei_m (st' := [.inl (jmax (Int32.ofInt 1) ((x1) / (x2)))]) h rfl (Nat.le_of_ble_eq_true rfl) (fun w hw => (Option.some.inj (ev_if_some.mp hw).2).symm)
    obtain ⟨f, g, h⟩ := h
    clear g
    replace h : EV F f 117 z117 15 [some (.inl (x1)), some (.inl (x2))] [.inl (jmax (Int32.ofInt 1) ((x1) / (x2)))] σ (.inl (some (.inl w)), σ') := h
    have e := ei_iret h rfl
    cases e
    exact rfl
  · skip
    replace hp1 : ¬ ((0 : Int) < (x2).toInt) := (not_congr ic_gt).mp hp1
    refine Or.inr ⟨hp1, ?_⟩
    clear g
    replace h : EV F f 117 z117 4 [some (.inl (x1)), some (.inl (x2))] [] σ (.inl (some (.inl w)), σ') := h
    replace h := ei_p h rfl rfl rfl rfl
    obtain ⟨f, g, h⟩ := h
    clear g
    replace h : EV F f 117 z117 5 [some (.inl (x1)), some (.inl (x2))] [.inl (x1)] σ (.inl (some (.inl w)), σ') := h
    replace h := ei_p h rfl rfl rfl rfl
    obtain ⟨f, g, h⟩ := h
    clear g
    replace h : EV F f 117 z117 15 [some (.inl (x1)), some (.inl (x2))] [.inl (x1)] σ (.inl (some (.inl w)), σ') := h
    have e := ei_iret h rfl
    cases e
    exact rfl
def z107 : mAl := ((yX7_divideBy, cX7_divideBy, 2, none, { frames := 2, cells := 0, slots := 0, locals := 44 }, []), rw_X7_divideBy, false)
theorem z107_at : m_alF[107]? = some z107 := rfl
abbrev L107 : List (Nat × Nat) := [(7, 4), (7, 5), (7, 6), (7, 7), (7, 8)]
abbrev w107 : Nat → Nat → Bool := wl L107
def S107 : List Nat := [107, 117]
theorem W107 : fw_S w107 S107 = true := by decide +kernel
def P107 (σ : mS) (a : Nat) (x1 : Int32) (σ' : mS) : Prop := ∃ v1, P117 σ (m_i σ 7 (a) 4) (x1) v1 ∧ ∃ σ6, σ6 = m_set σ 7 (a) (4) (.inl (v1)) ∧ ∃ v8, P117 σ6 (m_i σ6 7 (a) 8) (x1) v8 ∧ ∃ σ13, σ13 = m_set σ6 7 (a) (8) (.inl (v8)) ∧ ∃ σ16, σ16 = m_set σ13 7 (a) (5) (.inl ((m_i σ13 7 (a) 5) * (x1))) ∧ ∃ σ19, σ19 = m_set σ16 7 (a) (6) (.inl ((m_i σ16 7 (a) 6) * (x1))) ∧ ∃ σ22, σ22 = m_set σ19 7 (a) (7) (.inl ((m_i σ19 7 (a) 7) * (x1))) ∧ σ' = σ22
theorem x107 {σ σ' : mS} {a : Nat} {x1 : Int32} (hs : HS σ) (h : ev_run sm_all 107 [rf 7 (a), .inl (x1)] σ (.inl none) σ') : P107 σ a x1 σ' := by
  unfold P107
  obtain ⟨F, f, h⟩ := ei_go h z107_at
  replace h : EV F f 107 z107 0 [some (rf 7 (a)), some (.inl (x1))] [] σ (.inl none, σ') := h
  replace h := ei_p h rfl rfl rfl rfl
  obtain ⟨f, g, h⟩ := h
  clear g
  replace h : EV F f 107 z107 1 [some (rf 7 (a)), some (.inl (x1))] [rf 7 (a)] σ (.inl none, σ') := h
  replace h := ei_p h rfl rfl rfl rfl
  obtain ⟨f, g, h⟩ := h
  clear g
  replace h : EV F f 107 z107 2 [some (rf 7 (a)), some (.inl (x1))] [rf 7 (a), rf 7 (a)] σ (.inl none, σ') := h
  replace h := ei_get h rfl rfl
  obtain ⟨f, g, h⟩ := h
  clear g
  replace h : EV F f 107 z107 5 [some (rf 7 (a)), some (.inl (x1))] [.inl (m_i σ 7 (a) 4), rf 7 (a)] σ (.inl none, σ') := h
  replace h := ei_p h rfl rfl rfl rfl
  obtain ⟨f, g, h⟩ := h
  clear g
  replace h : EV F f 107 z107 6 [some (rf 7 (a)), some (.inl (x1))] [.inl (x1), .inl (m_i σ 7 (a) 4), rf 7 (a)] σ (.inl none, σ') := h
  replace h := bk_I (ei_s (as := [.inl (x1), .inl (m_i σ 7 (a) 4)]) h rfl (Nat.le_of_ble_eq_true rfl) rfl rfl) rfl z117_at (Or.inl rfl)
  obtain ⟨v1, σ2, r3, f, g, h⟩ := h
  clear g
  have er3 := ro_run rfl r3
  rw [er3] at h r3
  have p4 := x117 hs r3
  refine ⟨v1, p4, ?_⟩
  replace h : EV F f 107 z107 9 [some (rf 7 (a)), some (.inl (x1))] [.inl (v1), rf 7 (a)] σ (.inl none, σ') := h
  replace h := ei_put h rfl
  obtain ⟨ht5, f, g, h⟩ := h
  clear g
  obtain ⟨σ6, e7⟩ : ∃ s, s = m_set σ 7 (a) (4) (.inl (v1)) := ⟨_, rfl⟩
  rw [← e7] at h
  have hsσ6 : HS σ6 := by rw [e7]; exact HS_set hs rfl
  refine ⟨σ6, e7, ?_⟩
  replace h : EV F f 107 z107 12 [some (rf 7 (a)), some (.inl (x1))] [] σ6 (.inl none, σ') := h
  replace h := ei_p h rfl rfl rfl rfl
  obtain ⟨f, g, h⟩ := h
  clear g
  replace h : EV F f 107 z107 13 [some (rf 7 (a)), some (.inl (x1))] [rf 7 (a)] σ6 (.inl none, σ') := h
  replace h := ei_p h rfl rfl rfl rfl
  obtain ⟨f, g, h⟩ := h
  clear g
  replace h : EV F f 107 z107 14 [some (rf 7 (a)), some (.inl (x1))] [rf 7 (a), rf 7 (a)] σ6 (.inl none, σ') := h
  replace h := ei_get h rfl rfl
  obtain ⟨f, g, h⟩ := h
  clear g
  replace h : EV F f 107 z107 17 [some (rf 7 (a)), some (.inl (x1))] [.inl (m_i σ6 7 (a) 8), rf 7 (a)] σ6 (.inl none, σ') := h
  replace h := ei_p h rfl rfl rfl rfl
  obtain ⟨f, g, h⟩ := h
  clear g
  replace h : EV F f 107 z107 18 [some (rf 7 (a)), some (.inl (x1))] [.inl (x1), .inl (m_i σ6 7 (a) 8), rf 7 (a)] σ6 (.inl none, σ') := h
  replace h := bk_I (ei_s (as := [.inl (x1), .inl (m_i σ6 7 (a) 8)]) h rfl (Nat.le_of_ble_eq_true rfl) rfl rfl) rfl z117_at (Or.inl rfl)
  obtain ⟨v8, σ9, r10, f, g, h⟩ := h
  clear g
  have er10 := ro_run rfl r10
  rw [er10] at h r10
  have p11 := x117 hsσ6 r10
  refine ⟨v8, p11, ?_⟩
  replace h : EV F f 107 z107 21 [some (rf 7 (a)), some (.inl (x1))] [.inl (v8), rf 7 (a)] σ6 (.inl none, σ') := h
  replace h := ei_put h rfl
  obtain ⟨ht12, f, g, h⟩ := h
  clear g
  obtain ⟨σ13, e14⟩ : ∃ s, s = m_set σ6 7 (a) (8) (.inl (v8)) := ⟨_, rfl⟩
  rw [← e14] at h
  have hsσ13 : HS σ13 := by rw [e14]; exact HS_set hsσ6 rfl
  refine ⟨σ13, e14, ?_⟩
  replace h : EV F f 107 z107 24 [some (rf 7 (a)), some (.inl (x1))] [] σ13 (.inl none, σ') := h
  replace h := ei_p h rfl rfl rfl rfl
  obtain ⟨f, g, h⟩ := h
  clear g
  replace h : EV F f 107 z107 25 [some (rf 7 (a)), some (.inl (x1))] [rf 7 (a)] σ13 (.inl none, σ') := h
  replace h := ei_p h rfl rfl rfl rfl
  obtain ⟨f, g, h⟩ := h
  clear g
  replace h : EV F f 107 z107 26 [some (rf 7 (a)), some (.inl (x1))] [rf 7 (a), rf 7 (a)] σ13 (.inl none, σ') := h
  replace h := ei_get h rfl rfl
  obtain ⟨f, g, h⟩ := h
  clear g
  replace h : EV F f 107 z107 29 [some (rf 7 (a)), some (.inl (x1))] [.inl (m_i σ13 7 (a) 5), rf 7 (a)] σ13 (.inl none, σ') := h
  replace h := ei_p h rfl rfl rfl rfl
  obtain ⟨f, g, h⟩ := h
  clear g
  replace h : EV F f 107 z107 30 [some (rf 7 (a)), some (.inl (x1))] [.inl (x1), .inl (m_i σ13 7 (a) 5), rf 7 (a)] σ13 (.inl none, σ') := h
  replace h := ei_p h rfl rfl rfl rfl
  obtain ⟨f, g, h⟩ := h
  clear g
  replace h : EV F f 107 z107 31 [some (rf 7 (a)), some (.inl (x1))] [.inl ((m_i σ13 7 (a) 5) * (x1)), rf 7 (a)] σ13 (.inl none, σ') := h
  replace h := ei_put h rfl
  obtain ⟨ht15, f, g, h⟩ := h
  clear g
  obtain ⟨σ16, e17⟩ : ∃ s, s = m_set σ13 7 (a) (5) (.inl ((m_i σ13 7 (a) 5) * (x1))) := ⟨_, rfl⟩
  rw [← e17] at h
  have hsσ16 : HS σ16 := by rw [e17]; exact HS_set hsσ13 rfl
  refine ⟨σ16, e17, ?_⟩
  replace h : EV F f 107 z107 34 [some (rf 7 (a)), some (.inl (x1))] [] σ16 (.inl none, σ') := h
  replace h := ei_p h rfl rfl rfl rfl
  obtain ⟨f, g, h⟩ := h
  clear g
  replace h : EV F f 107 z107 35 [some (rf 7 (a)), some (.inl (x1))] [rf 7 (a)] σ16 (.inl none, σ') := h
  replace h := ei_p h rfl rfl rfl rfl
  obtain ⟨f, g, h⟩ := h
  clear g
  replace h : EV F f 107 z107 36 [some (rf 7 (a)), some (.inl (x1))] [rf 7 (a), rf 7 (a)] σ16 (.inl none, σ') := h
  replace h := ei_get h rfl rfl
  obtain ⟨f, g, h⟩ := h
  clear g
  replace h : EV F f 107 z107 39 [some (rf 7 (a)), some (.inl (x1))] [.inl (m_i σ16 7 (a) 6), rf 7 (a)] σ16 (.inl none, σ') := h
  replace h := ei_p h rfl rfl rfl rfl
  obtain ⟨f, g, h⟩ := h
  clear g
  replace h : EV F f 107 z107 40 [some (rf 7 (a)), some (.inl (x1))] [.inl (x1), .inl (m_i σ16 7 (a) 6), rf 7 (a)] σ16 (.inl none, σ') := h
  replace h := ei_p h rfl rfl rfl rfl
  obtain ⟨f, g, h⟩ := h
  clear g
  replace h : EV F f 107 z107 41 [some (rf 7 (a)), some (.inl (x1))] [.inl ((m_i σ16 7 (a) 6) * (x1)), rf 7 (a)] σ16 (.inl none, σ') := h
  replace h := ei_put h rfl
  obtain ⟨ht18, f, g, h⟩ := h
  clear g
  obtain ⟨σ19, e20⟩ : ∃ s, s = m_set σ16 7 (a) (6) (.inl ((m_i σ16 7 (a) 6) * (x1))) := ⟨_, rfl⟩
  rw [← e20] at h
  have hsσ19 : HS σ19 := by rw [e20]; exact HS_set hsσ16 rfl
  refine ⟨σ19, e20, ?_⟩
  replace h : EV F f 107 z107 44 [some (rf 7 (a)), some (.inl (x1))] [] σ19 (.inl none, σ') := h
  replace h := ei_p h rfl rfl rfl rfl
  obtain ⟨f, g, h⟩ := h
  clear g
  replace h : EV F f 107 z107 45 [some (rf 7 (a)), some (.inl (x1))] [rf 7 (a)] σ19 (.inl none, σ') := h
  replace h := ei_p h rfl rfl rfl rfl
  obtain ⟨f, g, h⟩ := h
  clear g
  replace h : EV F f 107 z107 46 [some (rf 7 (a)), some (.inl (x1))] [rf 7 (a), rf 7 (a)] σ19 (.inl none, σ') := h
  replace h := ei_get h rfl rfl
  obtain ⟨f, g, h⟩ := h
  clear g
  replace h : EV F f 107 z107 49 [some (rf 7 (a)), some (.inl (x1))] [.inl (m_i σ19 7 (a) 7), rf 7 (a)] σ19 (.inl none, σ') := h
  replace h := ei_p h rfl rfl rfl rfl
  obtain ⟨f, g, h⟩ := h
  clear g
  replace h : EV F f 107 z107 50 [some (rf 7 (a)), some (.inl (x1))] [.inl (x1), .inl (m_i σ19 7 (a) 7), rf 7 (a)] σ19 (.inl none, σ') := h
  replace h := ei_p h rfl rfl rfl rfl
  obtain ⟨f, g, h⟩ := h
  clear g
  replace h : EV F f 107 z107 51 [some (rf 7 (a)), some (.inl (x1))] [.inl ((m_i σ19 7 (a) 7) * (x1)), rf 7 (a)] σ19 (.inl none, σ') := h
  replace h := ei_put h rfl
  obtain ⟨ht21, f, g, h⟩ := h
  clear g
  obtain ⟨σ22, e23⟩ : ∃ s, s = m_set σ19 7 (a) (7) (.inl ((m_i σ19 7 (a) 7) * (x1))) := ⟨_, rfl⟩
  rw [← e23] at h
  have hsσ22 : HS σ22 := by rw [e23]; exact HS_set hsσ19 rfl
  refine ⟨σ22, e23, ?_⟩
  replace h : EV F f 107 z107 54 [some (rf 7 (a)), some (.inl (x1))] [] σ22 (.inl none, σ') := h
  have e := ei_ret h rfl
  cases e
  exact rfl
def z15 : mAl := ((yX0_divide, cX0_divide, 4, none, { frames := 3, cells := 0, slots := 0, locals := 65 }, []), rw_X0_divide, false)
theorem z15_at : m_alF[15]? = some z15 := rfl
abbrev L15 : List (Nat × Nat) := [(7, 4), (7, 5), (7, 6), (7, 7), (7, 8)]
abbrev w15 : Nat → Nat → Bool := wl L15
def S15 : List Nat := [15, 107, 117]
theorem W15 : fw_S w15 S15 = true := by decide +kernel
abbrev B15_2 (c1 : Int32) (c2 : Int32) (ih : Int32 → mS → mS → Prop) (u3 : Int32) (τ : mS) (σ' : mS) : Prop := (((m_i τ 0 (0) 1).toInt ≤ (u3).toInt ∧ σ' = τ) ∨ (¬ ((m_i τ 0 (0) 1).toInt ≤ (u3).toInt) ∧ (((120 : Int) ≤ (u3).toInt ∧ σ' = τ) ∨ (¬ ((120 : Int) ≤ (u3).toInt) ∧ (0 ≤ (u3).toInt ∧ (u3).toInt < 120) ∧ (((m_i τ 7 ((u3).toNatClampNeg) 2).toInt ≠ (c1).toInt ∧ ih ((u3) + Int32.ofInt 1) τ σ') ∨ (¬ ((m_i τ 7 ((u3).toNatClampNeg) 2).toInt ≠ (c1).toInt) ∧ (0 ≤ (u3).toInt ∧ (u3).toInt < 120) ∧ ∃ σ7, fw_e w107 τ σ7 ∧ P107 τ ((u3).toNatClampNeg) (c2) σ7 ∧ ih ((u3) + Int32.ofInt 1) σ7 σ'))))))
def Q15_2 (c1 : Int32) (c2 : Int32) : Nat → Int32 → mS → mS → Prop
  | 0 => fun _ _ _ => False
  | n + 1 => B15_2 c1 c2 (Q15_2 c1 c2 n)
theorem q15_2 {F : Nat} {σ' : mS} {c1 : Int32} {c2 : Int32} : ∀ N f, f < N → ∀ (u3 : Int32) (τ : mS), HS τ → EV F f 15 z15 2 [some (rf 0 (0)), some (.inl (c1)), some (.inl (c2)), some (.inl (u3))] [] τ (.inl none, σ') → Q15_2 c1 c2 N u3 τ σ' := by
  intro N
  induction N with
  | zero => intro f hf; omega
  | succ N IH =>
    intro f hf0 u3 τ hsτ h
    have hf : f < N + 1 := hf0
    clear hf0
    show B15_2 c1 c2 (Q15_2 c1 c2 N) u3 τ σ'
    replace h := ei_p h rfl rfl rfl rfl
    obtain ⟨f, g, h⟩ := h
    replace hf := Nat.lt_of_lt_of_le g (Nat.le_of_lt_succ hf)
    clear g
    replace h : EV F f 15 z15 3 [some (rf 0 (0)), some (.inl (c1)), some (.inl (c2)), some (.inl (u3))] [.inl (u3)] τ (.inl none, σ') := h
    replace h := ei_p h rfl rfl rfl rfl
    obtain ⟨f, g, h⟩ := h
    replace hf := Nat.lt_trans g hf
    clear g
    replace h : EV F f 15 z15 4 [some (rf 0 (0)), some (.inl (c1)), some (.inl (c2)), some (.inl (u3))] [rf 0 (0), .inl (u3)] τ (.inl none, σ') := h
    replace h := ei_get h rfl rfl
    obtain ⟨f, g, h⟩ := h
    replace hf := Nat.lt_trans g hf
    clear g
    replace h : EV F f 15 z15 7 [some (rf 0 (0)), some (.inl (c1)), some (.inl (c2)), some (.inl (u3))] [.inl (m_i τ 0 (0) 1), .inl (u3)] τ (.inl none, σ') := h
    replace h := ei_c h rfl rfl rfl
    rcases h with ⟨hp1, f, g, h⟩ | ⟨hp1, f, g, h⟩
    · skip
      replace hp1 : (m_i τ 0 (0) 1).toInt ≤ (u3).toInt := ic_ge.mp hp1
      refine Or.inl ⟨hp1, ?_⟩
      replace hf := Nat.lt_trans g hf
      clear g
      replace h : EV F f 15 z15 48 [some (rf 0 (0)), some (.inl (c1)), some (.inl (c2)), some (.inl (u3))] [] τ (.inl none, σ') := h
      have e := ei_ret h rfl
      cases e
      exact rfl
    · skip
      replace hp1 : ¬ ((m_i τ 0 (0) 1).toInt ≤ (u3).toInt) := (not_congr ic_ge).mp hp1
      refine Or.inr ⟨hp1, ?_⟩
      replace hf := Nat.lt_trans g hf
      clear g
      replace h : EV F f 15 z15 10 [some (rf 0 (0)), some (.inl (c1)), some (.inl (c2)), some (.inl (u3))] [] τ (.inl none, σ') := h
      replace h := ei_p h rfl rfl rfl rfl
      obtain ⟨f, g, h⟩ := h
      replace hf := Nat.lt_trans g hf
      clear g
      replace h : EV F f 15 z15 11 [some (rf 0 (0)), some (.inl (c1)), some (.inl (c2)), some (.inl (u3))] [.inl (u3)] τ (.inl none, σ') := h
      replace h := ei_p h rfl rfl rfl rfl
      obtain ⟨f, g, h⟩ := h
      replace hf := Nat.lt_trans g hf
      clear g
      replace h : EV F f 15 z15 12 [some (rf 0 (0)), some (.inl (c1)), some (.inl (c2)), some (.inl (u3))] [rf 0 (0), .inl (u3)] τ (.inl none, σ') := h
      replace h := ei_get h rfl (HS_g0_0 hsτ)
      obtain ⟨f, g, h⟩ := h
      replace hf := Nat.lt_trans g hf
      clear g
      replace h : EV F f 15 z15 15 [some (rf 0 (0)), some (.inl (c1)), some (.inl (c2)), some (.inl (u3))] [rf 17 (0), .inl (u3)] τ (.inl none, σ') := h
      replace h := ei_len h rfl (HS_l17_0 hsτ) ⟨Nat.le_of_ble_eq_true rfl, Nat.le_of_ble_eq_true rfl⟩
      obtain ⟨f, g, h⟩ := h
      replace hf := Nat.lt_trans g hf
      clear g
      replace h : EV F f 15 z15 16 [some (rf 0 (0)), some (.inl (c1)), some (.inl (c2)), some (.inl (u3))] [.inl (Int32.ofInt 120), .inl (u3)] τ (.inl none, σ') := h
      replace h := ei_c h rfl rfl rfl
      rcases h with ⟨hp2, f, g, h⟩ | ⟨hp2, f, g, h⟩
      · skip
        replace hp2 : (120 : Int) ≤ (u3).toInt := ic_ge.mp hp2
        refine Or.inl ⟨hp2, ?_⟩
        replace hf := Nat.lt_trans g hf
        clear g
        replace h : EV F f 15 z15 48 [some (rf 0 (0)), some (.inl (c1)), some (.inl (c2)), some (.inl (u3))] [] τ (.inl none, σ') := h
        have e := ei_ret h rfl
        cases e
        exact rfl
      · skip
        replace hp2 : ¬ ((120 : Int) ≤ (u3).toInt) := (not_congr ic_ge).mp hp2
        refine Or.inr ⟨hp2, ?_⟩
        replace hf := Nat.lt_trans g hf
        clear g
        replace h : EV F f 15 z15 19 [some (rf 0 (0)), some (.inl (c1)), some (.inl (c2)), some (.inl (u3))] [] τ (.inl none, σ') := h
        replace h := ei_p h rfl rfl rfl rfl
        obtain ⟨f, g, h⟩ := h
        replace hf := Nat.lt_trans g hf
        clear g
        replace h : EV F f 15 z15 20 [some (rf 0 (0)), some (.inl (c1)), some (.inl (c2)), some (.inl (u3))] [rf 0 (0)] τ (.inl none, σ') := h
        replace h := ei_get h rfl (HS_g0_0 hsτ)
        obtain ⟨f, g, h⟩ := h
        replace hf := Nat.lt_trans g hf
        clear g
        replace h : EV F f 15 z15 23 [some (rf 0 (0)), some (.inl (c1)), some (.inl (c2)), some (.inl (u3))] [rf 17 (0)] τ (.inl none, σ') := h
        replace h := ei_p h rfl rfl rfl rfl
        obtain ⟨f, g, h⟩ := h
        replace hf := Nat.lt_trans g hf
        clear g
        replace h : EV F f 15 z15 24 [some (rf 0 (0)), some (.inl (c1)), some (.inl (c2)), some (.inl (u3))] [.inl (u3), rf 17 (0)] τ (.inl none, σ') := h
        replace h := ei_ald h rfl (HS_a17 hsτ)
        obtain ⟨vp3, f, g, h⟩ := h
        replace hf := Nat.lt_trans g hf
        clear g
        replace h : EV F f 15 z15 25 [some (rf 0 (0)), some (.inl (c1)), some (.inl (c2)), some (.inl (u3))] [rf 7 ((u3).toNatClampNeg)] τ (.inl none, σ') := h
        refine ⟨HS_v17 hsτ vp3, ?_⟩
        replace h := ei_get h rfl rfl
        obtain ⟨f, g, h⟩ := h
        replace hf := Nat.lt_trans g hf
        clear g
        replace h : EV F f 15 z15 28 [some (rf 0 (0)), some (.inl (c1)), some (.inl (c2)), some (.inl (u3))] [.inl (m_i τ 7 ((u3).toNatClampNeg) 2)] τ (.inl none, σ') := h
        replace h := ei_p h rfl rfl rfl rfl
        obtain ⟨f, g, h⟩ := h
        replace hf := Nat.lt_trans g hf
        clear g
        replace h : EV F f 15 z15 29 [some (rf 0 (0)), some (.inl (c1)), some (.inl (c2)), some (.inl (u3))] [.inl (c1), .inl (m_i τ 7 ((u3).toNatClampNeg) 2)] τ (.inl none, σ') := h
        replace h := ei_c h rfl rfl rfl
        rcases h with ⟨hp4, f, g, h⟩ | ⟨hp4, f, g, h⟩
        · skip
          replace hp4 : (m_i τ 7 ((u3).toNatClampNeg) 2).toInt ≠ (c1).toInt := ic_ne.mp hp4
          refine Or.inl ⟨hp4, ?_⟩
          replace hf := Nat.lt_trans g hf
          clear g
          replace h : EV F f 15 z15 42 [some (rf 0 (0)), some (.inl (c1)), some (.inl (c2)), some (.inl (u3))] [] τ (.inl none, σ') := h
          replace h := ei_p h rfl rfl rfl rfl
          obtain ⟨f, g, h⟩ := h
          replace hf := Nat.lt_trans g hf
          clear g
          replace h : EV F f 15 z15 45 [some (rf 0 (0)), some (.inl (c1)), some (.inl (c2)), some (.inl ((u3) + Int32.ofInt 1))] [] τ (.inl none, σ') := h
          replace h := ei_p h rfl rfl rfl rfl
          obtain ⟨f, g, h⟩ := h
          replace hf := Nat.lt_trans g hf
          clear g
          replace h : EV F f 15 z15 2 [some (rf 0 (0)), some (.inl (c1)), some (.inl (c2)), some (.inl ((u3) + Int32.ofInt 1))] [] τ (.inl none, σ') := h
          exact IH f hf ((u3) + Int32.ofInt 1) τ hsτ h
        · skip
          replace hp4 : ¬ ((m_i τ 7 ((u3).toNatClampNeg) 2).toInt ≠ (c1).toInt) := (not_congr ic_ne).mp hp4
          refine Or.inr ⟨hp4, ?_⟩
          replace hf := Nat.lt_trans g hf
          clear g
          replace h : EV F f 15 z15 32 [some (rf 0 (0)), some (.inl (c1)), some (.inl (c2)), some (.inl (u3))] [] τ (.inl none, σ') := h
          replace h := ei_p h rfl rfl rfl rfl
          obtain ⟨f, g, h⟩ := h
          replace hf := Nat.lt_trans g hf
          clear g
          replace h : EV F f 15 z15 33 [some (rf 0 (0)), some (.inl (c1)), some (.inl (c2)), some (.inl (u3))] [rf 0 (0)] τ (.inl none, σ') := h
          replace h := ei_get h rfl (HS_g0_0 hsτ)
          obtain ⟨f, g, h⟩ := h
          replace hf := Nat.lt_trans g hf
          clear g
          replace h : EV F f 15 z15 36 [some (rf 0 (0)), some (.inl (c1)), some (.inl (c2)), some (.inl (u3))] [rf 17 (0)] τ (.inl none, σ') := h
          replace h := ei_p h rfl rfl rfl rfl
          obtain ⟨f, g, h⟩ := h
          replace hf := Nat.lt_trans g hf
          clear g
          replace h : EV F f 15 z15 37 [some (rf 0 (0)), some (.inl (c1)), some (.inl (c2)), some (.inl (u3))] [.inl (u3), rf 17 (0)] τ (.inl none, σ') := h
          replace h := ei_ald h rfl (HS_a17 hsτ)
          obtain ⟨vp5, f, g, h⟩ := h
          replace hf := Nat.lt_trans g hf
          clear g
          replace h : EV F f 15 z15 38 [some (rf 0 (0)), some (.inl (c1)), some (.inl (c2)), some (.inl (u3))] [rf 7 ((u3).toNatClampNeg)] τ (.inl none, σ') := h
          refine ⟨HS_v17 hsτ vp5, ?_⟩
          replace h := ei_p h rfl rfl rfl rfl
          obtain ⟨f, g, h⟩ := h
          replace hf := Nat.lt_trans g hf
          clear g
          replace h : EV F f 15 z15 39 [some (rf 0 (0)), some (.inl (c1)), some (.inl (c2)), some (.inl (u3))] [.inl (c2), rf 7 ((u3).toNatClampNeg)] τ (.inl none, σ') := h
          replace h := bk_0 (ei_v (as := [.inl (c2)]) h rfl rfl rfl) rfl z107_at rfl
          obtain ⟨σ7, r8, f, g, h⟩ := h
          replace hf := Nat.lt_trans g hf
          clear g
          have p9 := x107 hsτ r8
          have hsσ7 : HS σ7 := HS_run rfl r8 hsτ
          refine ⟨σ7, fw_run W107 rfl r8, p9, ?_⟩
          replace h : EV F f 15 z15 42 [some (rf 0 (0)), some (.inl (c1)), some (.inl (c2)), some (.inl (u3))] [] σ7 (.inl none, σ') := h
          replace h := ei_p h rfl rfl rfl rfl
          obtain ⟨f, g, h⟩ := h
          replace hf := Nat.lt_trans g hf
          clear g
          replace h : EV F f 15 z15 45 [some (rf 0 (0)), some (.inl (c1)), some (.inl (c2)), some (.inl ((u3) + Int32.ofInt 1))] [] σ7 (.inl none, σ') := h
          replace h := ei_p h rfl rfl rfl rfl
          obtain ⟨f, g, h⟩ := h
          replace hf := Nat.lt_trans g hf
          clear g
          replace h : EV F f 15 z15 2 [some (rf 0 (0)), some (.inl (c1)), some (.inl (c2)), some (.inl ((u3) + Int32.ofInt 1))] [] σ7 (.inl none, σ') := h
          exact IH f hf ((u3) + Int32.ofInt 1) σ7 hsσ7 h
def P15 (σ : mS) (x1 : Int32) (x2 : Int32) (σ' : mS) : Prop := ∃ n, Q15_2 (x1) (x2) n (Int32.ofInt 0) σ σ'
theorem x15 {σ σ' : mS} {x1 : Int32} {x2 : Int32} (hs : HS σ) (h : ev_run sm_all 15 [rf 0 (0), .inl (x1), .inl (x2)] σ (.inl none) σ') : P15 σ x1 x2 σ' := by
  unfold P15
  obtain ⟨F, f, h⟩ := ei_go h z15_at
  replace h : EV F f 15 z15 0 [some (rf 0 (0)), some (.inl (x1)), some (.inl (x2)), none] [] σ (.inl none, σ') := h
  replace h := ei_p h rfl rfl rfl rfl
  obtain ⟨f, g, h⟩ := h
  clear g
  replace h : EV F f 15 z15 1 [some (rf 0 (0)), some (.inl (x1)), some (.inl (x2)), none] [.inl (Int32.ofInt 0)] σ (.inl none, σ') := h
  replace h := ei_p h rfl rfl rfl rfl
  obtain ⟨f, g, h⟩ := h
  clear g
  replace h : EV F f 15 z15 2 [some (rf 0 (0)), some (.inl (x1)), some (.inl (x2)), some (.inl (Int32.ofInt 0))] [] σ (.inl none, σ') := h
  exact ⟨f + 1, q15_2 (f + 1) f (Nat.lt_succ_self f) (Int32.ofInt 0) σ hs h⟩
def z24 : mAl := ((yX2_paperAt, cX2_paperAt, 2, (some (.object "NettingHall$Paper")), { frames := 0, cells := 0, slots := 0, locals := 0 }, []), rw_X2_paperAt, false)
theorem z24_at : m_alF[24]? = some z24 := rfl
def P24 (σ : mS) (x1 : Int32) (w : mR) : Prop := (((x1).toInt < (0 : Int) ∧ w = none) ∨ (¬ ((x1).toInt < (0 : Int)) ∧ (((x1).toInt < (3 : Int) ∧ (0 ≤ (x1).toInt ∧ (x1).toInt < 3) ∧ w = (some (8, (x1).toNatClampNeg))) ∨ (¬ ((x1).toInt < (3 : Int)) ∧ w = none))))
theorem x24 {σ σ' : mS} {x1 : Int32} {w : mR} (hs : HS σ) (h : ev_run sm_all 24 [rf 2 (0), .inl (x1)] σ (.inl (some (.inr (.inr w)))) σ') : P24 σ x1 w := by
  unfold P24
  obtain ⟨F, f, h⟩ := ei_go h z24_at
  replace h : EV F f 24 z24 0 [some (rf 2 (0)), some (.inl (x1))] [] σ (.inl (some (.inr (.inr w))), σ') := h
  replace h := ei_p h rfl rfl rfl rfl
  obtain ⟨f, g, h⟩ := h
  clear g
  replace h : EV F f 24 z24 1 [some (rf 2 (0)), some (.inl (x1))] [.inl (x1)] σ (.inl (some (.inr (.inr w))), σ') := h
  replace h := ei_c h rfl rfl rfl
  rcases h with ⟨hp1, f, g, h⟩ | ⟨hp1, f, g, h⟩
  · skip
    replace hp1 : (x1).toInt < (0 : Int) := ic_lt.mp hp1
    refine Or.inl ⟨hp1, ?_⟩
    clear g
    replace h : EV F f 24 z24 13 [some (rf 2 (0)), some (.inl (x1))] [] σ (.inl (some (.inr (.inr w))), σ') := h
    replace h := ei_p h rfl rfl rfl rfl
    obtain ⟨f, g, h⟩ := h
    clear g
    replace h : EV F f 24 z24 14 [some (rf 2 (0)), some (.inl (x1))] [.inr (.inr none)] σ (.inl (some (.inr (.inr w))), σ') := h
    replace h := ei_p h rfl rfl rfl rfl
    obtain ⟨f, g, h⟩ := h
    clear g
    replace h : EV F f 24 z24 23 [some (rf 2 (0)), some (.inl (x1))] [.inr (.inr none)] σ (.inl (some (.inr (.inr w))), σ') := h
    have e := ei_aret h rfl
    cases e
    exact rfl
  · skip
    replace hp1 : ¬ ((x1).toInt < (0 : Int)) := (not_congr ic_lt).mp hp1
    refine Or.inr ⟨hp1, ?_⟩
    clear g
    replace h : EV F f 24 z24 4 [some (rf 2 (0)), some (.inl (x1))] [] σ (.inl (some (.inr (.inr w))), σ') := h
    replace h := ei_p h rfl rfl rfl rfl
    obtain ⟨f, g, h⟩ := h
    clear g
    replace h : EV F f 24 z24 5 [some (rf 2 (0)), some (.inl (x1))] [.inl (x1)] σ (.inl (some (.inr (.inr w))), σ') := h
    replace h := ei_p h rfl rfl rfl rfl
    obtain ⟨f, g, h⟩ := h
    clear g
    replace h : EV F f 24 z24 6 [some (rf 2 (0)), some (.inl (x1))] [rf 2 (0), .inl (x1)] σ (.inl (some (.inr (.inr w))), σ') := h
    replace h := ei_get h rfl (HS_g2_2 hs)
    obtain ⟨f, g, h⟩ := h
    clear g
    replace h : EV F f 24 z24 9 [some (rf 2 (0)), some (.inl (x1))] [rf 18 (0), .inl (x1)] σ (.inl (some (.inr (.inr w))), σ') := h
    replace h := ei_len h rfl (HS_l18_0 hs) ⟨Nat.le_of_ble_eq_true rfl, Nat.le_of_ble_eq_true rfl⟩
    obtain ⟨f, g, h⟩ := h
    clear g
    replace h : EV F f 24 z24 10 [some (rf 2 (0)), some (.inl (x1))] [.inl (Int32.ofInt 3), .inl (x1)] σ (.inl (some (.inr (.inr w))), σ') := h
    replace h := ei_c h rfl rfl rfl
    rcases h with ⟨hp2, f, g, h⟩ | ⟨hp2, f, g, h⟩
    · skip
      replace hp2 : (x1).toInt < (3 : Int) := ic_lt.mp hp2
      refine Or.inl ⟨hp2, ?_⟩
      clear g
      replace h : EV F f 24 z24 17 [some (rf 2 (0)), some (.inl (x1))] [] σ (.inl (some (.inr (.inr w))), σ') := h
      replace h := ei_p h rfl rfl rfl rfl
      obtain ⟨f, g, h⟩ := h
      clear g
      replace h : EV F f 24 z24 18 [some (rf 2 (0)), some (.inl (x1))] [rf 2 (0)] σ (.inl (some (.inr (.inr w))), σ') := h
      replace h := ei_get h rfl (HS_g2_2 hs)
      obtain ⟨f, g, h⟩ := h
      clear g
      replace h : EV F f 24 z24 21 [some (rf 2 (0)), some (.inl (x1))] [rf 18 (0)] σ (.inl (some (.inr (.inr w))), σ') := h
      replace h := ei_p h rfl rfl rfl rfl
      obtain ⟨f, g, h⟩ := h
      clear g
      replace h : EV F f 24 z24 22 [some (rf 2 (0)), some (.inl (x1))] [.inl (x1), rf 18 (0)] σ (.inl (some (.inr (.inr w))), σ') := h
      replace h := ei_ald h rfl (HS_a18 hs)
      obtain ⟨vp3, f, g, h⟩ := h
      clear g
      replace h : EV F f 24 z24 23 [some (rf 2 (0)), some (.inl (x1))] [rf 8 ((x1).toNatClampNeg)] σ (.inl (some (.inr (.inr w))), σ') := h
      refine ⟨HS_v18 hs vp3, ?_⟩
      have e := ei_aret h rfl
      cases e
      exact rfl
    · skip
      replace hp2 : ¬ ((x1).toInt < (3 : Int)) := (not_congr ic_lt).mp hp2
      refine Or.inr ⟨hp2, ?_⟩
      clear g
      replace h : EV F f 24 z24 13 [some (rf 2 (0)), some (.inl (x1))] [] σ (.inl (some (.inr (.inr w))), σ') := h
      replace h := ei_p h rfl rfl rfl rfl
      obtain ⟨f, g, h⟩ := h
      clear g
      replace h : EV F f 24 z24 14 [some (rf 2 (0)), some (.inl (x1))] [.inr (.inr none)] σ (.inl (some (.inr (.inr w))), σ') := h
      replace h := ei_p h rfl rfl rfl rfl
      obtain ⟨f, g, h⟩ := h
      clear g
      replace h : EV F f 24 z24 23 [some (rf 2 (0)), some (.inl (x1))] [.inr (.inr none)] σ (.inl (some (.inr (.inr w))), σ') := h
      have e := ei_aret h rfl
      cases e
      exact rfl
def z112 : mAl := ((yX8_wakesStops, cX8_wakesStops, 1, (some .boolean), { frames := 0, cells := 0, slots := 0, locals := 0 }, []), rw_X8_wakesStops, false)
theorem z112_at : m_alF[112]? = some z112 := rfl
def P112 (σ : mS) (a : Nat) (w : Int32) : Prop := (((m_i σ 8 (a) 7).toInt = (0 : Int) ∧ w = (Int32.ofInt 0)) ∨ (¬ ((m_i σ 8 (a) 7).toInt = (0 : Int)) ∧ (((m_i σ 8 (a) 1).toInt ≠ (0 : Int) ∧ w = (Int32.ofInt 0)) ∨ (¬ ((m_i σ 8 (a) 1).toInt ≠ (0 : Int)) ∧ w = (Int32.ofInt 1)))))
theorem x112 {σ σ' : mS} {a : Nat} {w : Int32} (hs : HS σ) (h : ev_run sm_all 112 [rf 8 (a)] σ (.inl (some (.inl w))) σ') : P112 σ a w := by
  unfold P112
  obtain ⟨F, f, h⟩ := ei_go h z112_at
  replace h : EV F f 112 z112 0 [some (rf 8 (a))] [] σ (.inl (some (.inl w)), σ') := h
  replace h := ei_p h rfl rfl rfl rfl
  obtain ⟨f, g, h⟩ := h
  clear g
  replace h : EV F f 112 z112 1 [some (rf 8 (a))] [rf 8 (a)] σ (.inl (some (.inl w)), σ') := h
  replace h := ei_get h rfl rfl
  obtain ⟨f, g, h⟩ := h
  clear g
  replace h : EV F f 112 z112 4 [some (rf 8 (a))] [.inl (m_i σ 8 (a) 7)] σ (.inl (some (.inl w)), σ') := h
  replace h := ei_c h rfl rfl rfl
  rcases h with ⟨hp1, f, g, h⟩ | ⟨hp1, f, g, h⟩
  · skip
    replace hp1 : (m_i σ 8 (a) 7).toInt = (0 : Int) := ic_eq.mp hp1
    refine Or.inl ⟨hp1, ?_⟩
    clear g
    replace h : EV F f 112 z112 18 [some (rf 8 (a))] [] σ (.inl (some (.inl w)), σ') := h
    replace h := ei_p h rfl rfl rfl rfl
    obtain ⟨f, g, h⟩ := h
    clear g
    replace h : EV F f 112 z112 19 [some (rf 8 (a))] [.inl (Int32.ofInt 0)] σ (.inl (some (.inl w)), σ') := h
    have e := ei_iret h rfl
    cases e
    exact rfl
  · skip
    replace hp1 : ¬ ((m_i σ 8 (a) 7).toInt = (0 : Int)) := (not_congr ic_eq).mp hp1
    refine Or.inr ⟨hp1, ?_⟩
    clear g
    replace h : EV F f 112 z112 7 [some (rf 8 (a))] [] σ (.inl (some (.inl w)), σ') := h
    replace h := ei_p h rfl rfl rfl rfl
    obtain ⟨f, g, h⟩ := h
    clear g
    replace h : EV F f 112 z112 8 [some (rf 8 (a))] [rf 8 (a)] σ (.inl (some (.inl w)), σ') := h
    replace h := ei_get h rfl rfl
    obtain ⟨f, g, h⟩ := h
    clear g
    replace h : EV F f 112 z112 11 [some (rf 8 (a))] [.inl (m_i σ 8 (a) 1)] σ (.inl (some (.inl w)), σ') := h
    replace h := ei_c h rfl rfl rfl
    rcases h with ⟨hp2, f, g, h⟩ | ⟨hp2, f, g, h⟩
    · skip
      replace hp2 : (m_i σ 8 (a) 1).toInt ≠ (0 : Int) := ic_ne.mp hp2
      refine Or.inl ⟨hp2, ?_⟩
      clear g
      replace h : EV F f 112 z112 18 [some (rf 8 (a))] [] σ (.inl (some (.inl w)), σ') := h
      replace h := ei_p h rfl rfl rfl rfl
      obtain ⟨f, g, h⟩ := h
      clear g
      replace h : EV F f 112 z112 19 [some (rf 8 (a))] [.inl (Int32.ofInt 0)] σ (.inl (some (.inl w)), σ') := h
      have e := ei_iret h rfl
      cases e
      exact rfl
    · skip
      replace hp2 : ¬ ((m_i σ 8 (a) 1).toInt ≠ (0 : Int)) := (not_congr ic_ne).mp hp2
      refine Or.inr ⟨hp2, ?_⟩
      clear g
      replace h : EV F f 112 z112 14 [some (rf 8 (a))] [] σ (.inl (some (.inl w)), σ') := h
      replace h := ei_p h rfl rfl rfl rfl
      obtain ⟨f, g, h⟩ := h
      clear g
      replace h : EV F f 112 z112 15 [some (rf 8 (a))] [.inl (Int32.ofInt 1)] σ (.inl (some (.inl w)), σ') := h
      replace h := ei_p h rfl rfl rfl rfl
      obtain ⟨f, g, h⟩ := h
      clear g
      replace h : EV F f 112 z112 19 [some (rf 8 (a))] [.inl (Int32.ofInt 1)] σ (.inl (some (.inl w)), σ') := h
      have e := ei_iret h rfl
      cases e
      exact rfl
def z104 : mAl := ((yX7_wakesAt, cX7_wakesAt, 2, (some .boolean), { frames := 0, cells := 0, slots := 0, locals := 0 }, []), rw_X7_wakesAt, false)
theorem z104_at : m_alF[104]? = some z104 := rfl
def P104 (σ : mS) (a : Nat) (x1 : Int32) (w : Int32) : Prop := (((m_i σ 7 (a) 3).toInt ≠ (0 : Int) ∧ (((m_i σ 7 (a) 8).toInt < (x1).toInt ∧ w = (Int32.ofInt 0)) ∨ (¬ ((m_i σ 7 (a) 8).toInt < (x1).toInt) ∧ w = (Int32.ofInt 1)))) ∨ (¬ ((m_i σ 7 (a) 3).toInt ≠ (0 : Int)) ∧ (((x1).toInt < (m_i σ 7 (a) 8).toInt ∧ w = (Int32.ofInt 0)) ∨ (¬ ((x1).toInt < (m_i σ 7 (a) 8).toInt) ∧ w = (Int32.ofInt 1)))))
theorem x104 {σ σ' : mS} {a : Nat} {x1 : Int32} {w : Int32} (hs : HS σ) (h : ev_run sm_all 104 [rf 7 (a), .inl (x1)] σ (.inl (some (.inl w))) σ') : P104 σ a x1 w := by
  unfold P104
  obtain ⟨F, f, h⟩ := ei_go h z104_at
  replace h : EV F f 104 z104 0 [some (rf 7 (a)), some (.inl (x1))] [] σ (.inl (some (.inl w)), σ') := h
  replace h := ei_p h rfl rfl rfl rfl
  obtain ⟨f, g, h⟩ := h
  clear g
  replace h : EV F f 104 z104 1 [some (rf 7 (a)), some (.inl (x1))] [rf 7 (a)] σ (.inl (some (.inl w)), σ') := h
  replace h := ei_get h rfl rfl
  obtain ⟨f, g, h⟩ := h
  clear g
  replace h : EV F f 104 z104 4 [some (rf 7 (a)), some (.inl (x1))] [.inl (m_i σ 7 (a) 3)] σ (.inl (some (.inl w)), σ') := h
  replace h := ei_c h rfl rfl rfl
  rcases h with ⟨hp1, f, g, h⟩ | ⟨hp1, f, g, h⟩
  · skip
    replace hp1 : (m_i σ 7 (a) 3).toInt ≠ (0 : Int) := ic_ne.mp hp1
    refine Or.inl ⟨hp1, ?_⟩
    clear g
    replace h : EV F f 104 z104 23 [some (rf 7 (a)), some (.inl (x1))] [] σ (.inl (some (.inl w)), σ') := h
    replace h := ei_p h rfl rfl rfl rfl
    obtain ⟨f, g, h⟩ := h
    clear g
    replace h : EV F f 104 z104 24 [some (rf 7 (a)), some (.inl (x1))] [.inl (x1)] σ (.inl (some (.inl w)), σ') := h
    replace h := ei_p h rfl rfl rfl rfl
    obtain ⟨f, g, h⟩ := h
    clear g
    replace h : EV F f 104 z104 25 [some (rf 7 (a)), some (.inl (x1))] [rf 7 (a), .inl (x1)] σ (.inl (some (.inl w)), σ') := h
    replace h := ei_get h rfl rfl
    obtain ⟨f, g, h⟩ := h
    clear g
    replace h : EV F f 104 z104 28 [some (rf 7 (a)), some (.inl (x1))] [.inl (m_i σ 7 (a) 8), .inl (x1)] σ (.inl (some (.inl w)), σ') := h
    replace h := ei_c h rfl rfl rfl
    rcases h with ⟨hp2, f, g, h⟩ | ⟨hp2, f, g, h⟩
    · skip
      replace hp2 : (m_i σ 7 (a) 8).toInt < (x1).toInt := ic_gt.mp hp2
      refine Or.inl ⟨hp2, ?_⟩
      clear g
      replace h : EV F f 104 z104 35 [some (rf 7 (a)), some (.inl (x1))] [] σ (.inl (some (.inl w)), σ') := h
      replace h := ei_p h rfl rfl rfl rfl
      obtain ⟨f, g, h⟩ := h
      clear g
      replace h : EV F f 104 z104 36 [some (rf 7 (a)), some (.inl (x1))] [.inl (Int32.ofInt 0)] σ (.inl (some (.inl w)), σ') := h
      have e := ei_iret h rfl
      cases e
      exact rfl
    · skip
      replace hp2 : ¬ ((m_i σ 7 (a) 8).toInt < (x1).toInt) := (not_congr ic_gt).mp hp2
      refine Or.inr ⟨hp2, ?_⟩
      clear g
      replace h : EV F f 104 z104 31 [some (rf 7 (a)), some (.inl (x1))] [] σ (.inl (some (.inl w)), σ') := h
      replace h := ei_p h rfl rfl rfl rfl
      obtain ⟨f, g, h⟩ := h
      clear g
      replace h : EV F f 104 z104 32 [some (rf 7 (a)), some (.inl (x1))] [.inl (Int32.ofInt 1)] σ (.inl (some (.inl w)), σ') := h
      replace h := ei_p h rfl rfl rfl rfl
      obtain ⟨f, g, h⟩ := h
      clear g
      replace h : EV F f 104 z104 36 [some (rf 7 (a)), some (.inl (x1))] [.inl (Int32.ofInt 1)] σ (.inl (some (.inl w)), σ') := h
      have e := ei_iret h rfl
      cases e
      exact rfl
  · skip
    replace hp1 : ¬ ((m_i σ 7 (a) 3).toInt ≠ (0 : Int)) := (not_congr ic_ne).mp hp1
    refine Or.inr ⟨hp1, ?_⟩
    clear g
    replace h : EV F f 104 z104 7 [some (rf 7 (a)), some (.inl (x1))] [] σ (.inl (some (.inl w)), σ') := h
    replace h := ei_p h rfl rfl rfl rfl
    obtain ⟨f, g, h⟩ := h
    clear g
    replace h : EV F f 104 z104 8 [some (rf 7 (a)), some (.inl (x1))] [.inl (x1)] σ (.inl (some (.inl w)), σ') := h
    replace h := ei_p h rfl rfl rfl rfl
    obtain ⟨f, g, h⟩ := h
    clear g
    replace h : EV F f 104 z104 9 [some (rf 7 (a)), some (.inl (x1))] [rf 7 (a), .inl (x1)] σ (.inl (some (.inl w)), σ') := h
    replace h := ei_get h rfl rfl
    obtain ⟨f, g, h⟩ := h
    clear g
    replace h : EV F f 104 z104 12 [some (rf 7 (a)), some (.inl (x1))] [.inl (m_i σ 7 (a) 8), .inl (x1)] σ (.inl (some (.inl w)), σ') := h
    replace h := ei_c h rfl rfl rfl
    rcases h with ⟨hp3, f, g, h⟩ | ⟨hp3, f, g, h⟩
    · skip
      replace hp3 : (x1).toInt < (m_i σ 7 (a) 8).toInt := ic_lt.mp hp3
      refine Or.inl ⟨hp3, ?_⟩
      clear g
      replace h : EV F f 104 z104 19 [some (rf 7 (a)), some (.inl (x1))] [] σ (.inl (some (.inl w)), σ') := h
      replace h := ei_p h rfl rfl rfl rfl
      obtain ⟨f, g, h⟩ := h
      clear g
      replace h : EV F f 104 z104 20 [some (rf 7 (a)), some (.inl (x1))] [.inl (Int32.ofInt 0)] σ (.inl (some (.inl w)), σ') := h
      replace h := ei_p h rfl rfl rfl rfl
      obtain ⟨f, g, h⟩ := h
      clear g
      replace h : EV F f 104 z104 36 [some (rf 7 (a)), some (.inl (x1))] [.inl (Int32.ofInt 0)] σ (.inl (some (.inl w)), σ') := h
      have e := ei_iret h rfl
      cases e
      exact rfl
    · skip
      replace hp3 : ¬ ((x1).toInt < (m_i σ 7 (a) 8).toInt) := (not_congr ic_lt).mp hp3
      refine Or.inr ⟨hp3, ?_⟩
      clear g
      replace h : EV F f 104 z104 15 [some (rf 7 (a)), some (.inl (x1))] [] σ (.inl (some (.inl w)), σ') := h
      replace h := ei_p h rfl rfl rfl rfl
      obtain ⟨f, g, h⟩ := h
      clear g
      replace h : EV F f 104 z104 16 [some (rf 7 (a)), some (.inl (x1))] [.inl (Int32.ofInt 1)] σ (.inl (some (.inl w)), σ') := h
      replace h := ei_p h rfl rfl rfl rfl
      obtain ⟨f, g, h⟩ := h
      clear g
      replace h : EV F f 104 z104 36 [some (rf 7 (a)), some (.inl (x1))] [.inl (Int32.ofInt 1)] σ (.inl (some (.inl w)), σ') := h
      have e := ei_iret h rfl
      cases e
      exact rfl
def z16 : mAl := ((yX0_firstToWake, cX0_firstToWake, 5, (some (.object "NettingHall$Order")), { frames := 1, cells := 0, slots := 0, locals := 21 }, []), rw_X0_firstToWake, false)
theorem z16_at : m_alF[16]? = some z16 := rfl
def J16_77 (σ : mS) (w : mR) : Prop := w = none
theorem j16_77 {F f : Nat} {σ σ' : mS} {y0 : Option mV} {y1 : Option mV} {y2 : Option mV} {y3 : Option mV} {y4 : Option mV} {w : mR} (hs : HS σ) (h : EV F f 16 z16 77 [y0, y1, y2, y3, y4] [] σ (.inl (some (.inr (.inr w))), σ')) : J16_77 σ w := by
  unfold J16_77
  replace h := ei_p h rfl rfl rfl rfl
  obtain ⟨f, g, h⟩ := h
  clear g
  replace h : EV F f 16 z16 78 [y0, y1, y2, y3, y4] [.inr (.inr none)] σ (.inl (some (.inr (.inr w))), σ') := h
  have e := ei_aret h rfl
  cases e
  exact rfl
abbrev B16_2 (σ : mS) (ih : Int32 → mR → Prop) (u2 : Int32) (w : mR) : Prop := (((m_i σ 0 (0) 1).toInt ≤ (u2).toInt ∧ J16_77 σ w) ∨ (¬ ((m_i σ 0 (0) 1).toInt ≤ (u2).toInt) ∧ (((120 : Int) ≤ (u2).toInt ∧ J16_77 σ w) ∨ (¬ ((120 : Int) ≤ (u2).toInt) ∧ (0 ≤ (u2).toInt ∧ (u2).toInt < 120) ∧ ∃ v4, P24 σ (m_i σ 7 ((u2).toNatClampNeg) 2) v4 ∧ (((m_i σ 7 ((u2).toNatClampNeg) 9).toInt ≠ (2 : Int) ∧ ih ((u2) + Int32.ofInt 1) w) ∨ (¬ ((m_i σ 7 ((u2).toNatClampNeg) 9).toInt ≠ (2 : Int)) ∧ ((v4 = none ∧ ih ((u2) + Int32.ofInt 1) w) ∨ (∃ q10, v4 = some q10 ∧ ∃ i13, (some q10 : mR) = some (8, i13) ∧ ∃ v15, P112 σ (i13) v15 ∧ (((v15).toInt = (0 : Int) ∧ ih ((u2) + Int32.ofInt 1) w) ∨ (¬ ((v15).toInt = (0 : Int)) ∧ ∃ v20, P104 σ ((u2).toNatClampNeg) (m_i σ 8 (i13) 2) v20 ∧ (((v20).toInt = (0 : Int) ∧ ih ((u2) + Int32.ofInt 1) w) ∨ (¬ ((v20).toInt = (0 : Int)) ∧ w = (some (7, (u2).toNatClampNeg))))))))))))))
def Q16_2 (σ : mS) : Nat → Int32 → mR → Prop
  | 0 => fun _ _ => False
  | n + 1 => B16_2 σ (Q16_2 σ n)
theorem q16_2 {F : Nat} {σ σ' : mS} {w : mR} (hs : HS σ) : ∀ N f, f < N → ∀ (u2 : Int32) (y3 : Option mV) (y4 : Option mV), EV F f 16 z16 2 [some (rf 0 (0)), some (rf 2 (0)), some (.inl (u2)), y3, y4] [] σ (.inl (some (.inr (.inr w))), σ') → Q16_2 σ N u2 w := by
  intro N
  induction N with
  | zero => intro f hf; omega
  | succ N IH =>
    intro f hf0 u2 y3 y4 h
    have hf : f < N + 1 := hf0
    clear hf0
    show B16_2 σ (Q16_2 σ N) u2 w
    replace h := ei_p h rfl rfl rfl rfl
    obtain ⟨f, g, h⟩ := h
    replace hf := Nat.lt_of_lt_of_le g (Nat.le_of_lt_succ hf)
    clear g
    replace h : EV F f 16 z16 3 [some (rf 0 (0)), some (rf 2 (0)), some (.inl (u2)), y3, y4] [.inl (u2)] σ (.inl (some (.inr (.inr w))), σ') := h
    replace h := ei_p h rfl rfl rfl rfl
    obtain ⟨f, g, h⟩ := h
    replace hf := Nat.lt_trans g hf
    clear g
    replace h : EV F f 16 z16 4 [some (rf 0 (0)), some (rf 2 (0)), some (.inl (u2)), y3, y4] [rf 0 (0), .inl (u2)] σ (.inl (some (.inr (.inr w))), σ') := h
    replace h := ei_get h rfl rfl
    obtain ⟨f, g, h⟩ := h
    replace hf := Nat.lt_trans g hf
    clear g
    replace h : EV F f 16 z16 7 [some (rf 0 (0)), some (rf 2 (0)), some (.inl (u2)), y3, y4] [.inl (m_i σ 0 (0) 1), .inl (u2)] σ (.inl (some (.inr (.inr w))), σ') := h
    replace h := ei_c h rfl rfl rfl
    rcases h with ⟨hp1, f, g, h⟩ | ⟨hp1, f, g, h⟩
    · skip
      replace hp1 : (m_i σ 0 (0) 1).toInt ≤ (u2).toInt := ic_ge.mp hp1
      refine Or.inl ⟨hp1, ?_⟩
      replace hf := Nat.lt_trans g hf
      clear g
      replace h : EV F f 16 z16 77 [some (rf 0 (0)), some (rf 2 (0)), some (.inl (u2)), y3, y4] [] σ (.inl (some (.inr (.inr w))), σ') := h
      exact j16_77 hs h
    · skip
      replace hp1 : ¬ ((m_i σ 0 (0) 1).toInt ≤ (u2).toInt) := (not_congr ic_ge).mp hp1
      refine Or.inr ⟨hp1, ?_⟩
      replace hf := Nat.lt_trans g hf
      clear g
      replace h : EV F f 16 z16 10 [some (rf 0 (0)), some (rf 2 (0)), some (.inl (u2)), y3, y4] [] σ (.inl (some (.inr (.inr w))), σ') := h
      replace h := ei_p h rfl rfl rfl rfl
      obtain ⟨f, g, h⟩ := h
      replace hf := Nat.lt_trans g hf
      clear g
      replace h : EV F f 16 z16 11 [some (rf 0 (0)), some (rf 2 (0)), some (.inl (u2)), y3, y4] [.inl (u2)] σ (.inl (some (.inr (.inr w))), σ') := h
      replace h := ei_p h rfl rfl rfl rfl
      obtain ⟨f, g, h⟩ := h
      replace hf := Nat.lt_trans g hf
      clear g
      replace h : EV F f 16 z16 12 [some (rf 0 (0)), some (rf 2 (0)), some (.inl (u2)), y3, y4] [rf 0 (0), .inl (u2)] σ (.inl (some (.inr (.inr w))), σ') := h
      replace h := ei_get h rfl (HS_g0_0 hs)
      obtain ⟨f, g, h⟩ := h
      replace hf := Nat.lt_trans g hf
      clear g
      replace h : EV F f 16 z16 15 [some (rf 0 (0)), some (rf 2 (0)), some (.inl (u2)), y3, y4] [rf 17 (0), .inl (u2)] σ (.inl (some (.inr (.inr w))), σ') := h
      replace h := ei_len h rfl (HS_l17_0 hs) ⟨Nat.le_of_ble_eq_true rfl, Nat.le_of_ble_eq_true rfl⟩
      obtain ⟨f, g, h⟩ := h
      replace hf := Nat.lt_trans g hf
      clear g
      replace h : EV F f 16 z16 16 [some (rf 0 (0)), some (rf 2 (0)), some (.inl (u2)), y3, y4] [.inl (Int32.ofInt 120), .inl (u2)] σ (.inl (some (.inr (.inr w))), σ') := h
      replace h := ei_c h rfl rfl rfl
      rcases h with ⟨hp2, f, g, h⟩ | ⟨hp2, f, g, h⟩
      · skip
        replace hp2 : (120 : Int) ≤ (u2).toInt := ic_ge.mp hp2
        refine Or.inl ⟨hp2, ?_⟩
        replace hf := Nat.lt_trans g hf
        clear g
        replace h : EV F f 16 z16 77 [some (rf 0 (0)), some (rf 2 (0)), some (.inl (u2)), y3, y4] [] σ (.inl (some (.inr (.inr w))), σ') := h
        exact j16_77 hs h
      · skip
        replace hp2 : ¬ ((120 : Int) ≤ (u2).toInt) := (not_congr ic_ge).mp hp2
        refine Or.inr ⟨hp2, ?_⟩
        replace hf := Nat.lt_trans g hf
        clear g
        replace h : EV F f 16 z16 19 [some (rf 0 (0)), some (rf 2 (0)), some (.inl (u2)), y3, y4] [] σ (.inl (some (.inr (.inr w))), σ') := h
        replace h := ei_p h rfl rfl rfl rfl
        obtain ⟨f, g, h⟩ := h
        replace hf := Nat.lt_trans g hf
        clear g
        replace h : EV F f 16 z16 20 [some (rf 0 (0)), some (rf 2 (0)), some (.inl (u2)), y3, y4] [rf 0 (0)] σ (.inl (some (.inr (.inr w))), σ') := h
        replace h := ei_get h rfl (HS_g0_0 hs)
        obtain ⟨f, g, h⟩ := h
        replace hf := Nat.lt_trans g hf
        clear g
        replace h : EV F f 16 z16 23 [some (rf 0 (0)), some (rf 2 (0)), some (.inl (u2)), y3, y4] [rf 17 (0)] σ (.inl (some (.inr (.inr w))), σ') := h
        replace h := ei_p h rfl rfl rfl rfl
        obtain ⟨f, g, h⟩ := h
        replace hf := Nat.lt_trans g hf
        clear g
        replace h : EV F f 16 z16 24 [some (rf 0 (0)), some (rf 2 (0)), some (.inl (u2)), y3, y4] [.inl (u2), rf 17 (0)] σ (.inl (some (.inr (.inr w))), σ') := h
        replace h := ei_ald h rfl (HS_a17 hs)
        obtain ⟨vp3, f, g, h⟩ := h
        replace hf := Nat.lt_trans g hf
        clear g
        replace h : EV F f 16 z16 25 [some (rf 0 (0)), some (rf 2 (0)), some (.inl (u2)), y3, y4] [rf 7 ((u2).toNatClampNeg)] σ (.inl (some (.inr (.inr w))), σ') := h
        refine ⟨HS_v17 hs vp3, ?_⟩
        replace h := ei_p h rfl rfl rfl rfl
        obtain ⟨f, g, h⟩ := h
        replace hf := Nat.lt_trans g hf
        clear g
        replace h : EV F f 16 z16 26 [some (rf 0 (0)), some (rf 2 (0)), some (.inl (u2)), some (rf 7 ((u2).toNatClampNeg)), y4] [] σ (.inl (some (.inr (.inr w))), σ') := h
        replace h := ei_p h rfl rfl rfl rfl
        obtain ⟨f, g, h⟩ := h
        replace hf := Nat.lt_trans g hf
        clear g
        replace h : EV F f 16 z16 27 [some (rf 0 (0)), some (rf 2 (0)), some (.inl (u2)), some (rf 7 ((u2).toNatClampNeg)), y4] [rf 2 (0)] σ (.inl (some (.inr (.inr w))), σ') := h
        replace h := ei_p h rfl rfl rfl rfl
        obtain ⟨f, g, h⟩ := h
        replace hf := Nat.lt_trans g hf
        clear g
        replace h : EV F f 16 z16 28 [some (rf 0 (0)), some (rf 2 (0)), some (.inl (u2)), some (rf 7 ((u2).toNatClampNeg)), y4] [rf 7 ((u2).toNatClampNeg), rf 2 (0)] σ (.inl (some (.inr (.inr w))), σ') := h
        replace h := ei_get h rfl rfl
        obtain ⟨f, g, h⟩ := h
        replace hf := Nat.lt_trans g hf
        clear g
        replace h : EV F f 16 z16 31 [some (rf 0 (0)), some (rf 2 (0)), some (.inl (u2)), some (rf 7 ((u2).toNatClampNeg)), y4] [.inl (m_i σ 7 ((u2).toNatClampNeg) 2), rf 2 (0)] σ (.inl (some (.inr (.inr w))), σ') := h
        replace h := bk_R (ei_v (as := [.inl (m_i σ 7 ((u2).toNatClampNeg) 2)]) h rfl rfl rfl) rfl z24_at rfl
        obtain ⟨v4, σ5, r6, f, g, h⟩ := h
        replace hf := Nat.lt_trans g hf
        clear g
        have er6 := ro_run rfl r6
        rw [er6] at h r6
        have p7 := x24 hs r6
        refine ⟨v4, p7, ?_⟩
        replace h : EV F f 16 z16 34 [some (rf 0 (0)), some (rf 2 (0)), some (.inl (u2)), some (rf 7 ((u2).toNatClampNeg)), y4] [.inr (.inr (v4))] σ (.inl (some (.inr (.inr w))), σ') := h
        replace h := ei_p h rfl rfl rfl rfl
        obtain ⟨f, g, h⟩ := h
        replace hf := Nat.lt_trans g hf
        clear g
        replace h : EV F f 16 z16 36 [some (rf 0 (0)), some (rf 2 (0)), some (.inl (u2)), some (rf 7 ((u2).toNatClampNeg)), some (.inr (.inr (v4)))] [] σ (.inl (some (.inr (.inr w))), σ') := h
        replace h := ei_p h rfl rfl rfl rfl
        obtain ⟨f, g, h⟩ := h
        replace hf := Nat.lt_trans g hf
        clear g
        replace h : EV F f 16 z16 37 [some (rf 0 (0)), some (rf 2 (0)), some (.inl (u2)), some (rf 7 ((u2).toNatClampNeg)), some (.inr (.inr (v4)))] [rf 7 ((u2).toNatClampNeg)] σ (.inl (some (.inr (.inr w))), σ') := h
        replace h := ei_get h rfl rfl
        obtain ⟨f, g, h⟩ := h
        replace hf := Nat.lt_trans g hf
        clear g
        replace h : EV F f 16 z16 40 [some (rf 0 (0)), some (rf 2 (0)), some (.inl (u2)), some (rf 7 ((u2).toNatClampNeg)), some (.inr (.inr (v4)))] [.inl (m_i σ 7 ((u2).toNatClampNeg) 9)] σ (.inl (some (.inr (.inr w))), σ') := h
        replace h := ei_p h rfl rfl rfl rfl
        obtain ⟨f, g, h⟩ := h
        replace hf := Nat.lt_trans g hf
        clear g
        replace h : EV F f 16 z16 41 [some (rf 0 (0)), some (rf 2 (0)), some (.inl (u2)), some (rf 7 ((u2).toNatClampNeg)), some (.inr (.inr (v4)))] [.inl (Int32.ofInt 2), .inl (m_i σ 7 ((u2).toNatClampNeg) 9)] σ (.inl (some (.inr (.inr w))), σ') := h
        replace h := ei_c h rfl rfl rfl
        rcases h with ⟨hp8, f, g, h⟩ | ⟨hp8, f, g, h⟩
        · skip
          replace hp8 : (m_i σ 7 ((u2).toNatClampNeg) 9).toInt ≠ (2 : Int) := ic_ne.mp hp8
          refine Or.inl ⟨hp8, ?_⟩
          replace hf := Nat.lt_trans g hf
          clear g
          replace h : EV F f 16 z16 71 [some (rf 0 (0)), some (rf 2 (0)), some (.inl (u2)), some (rf 7 ((u2).toNatClampNeg)), some (.inr (.inr (v4)))] [] σ (.inl (some (.inr (.inr w))), σ') := h
          replace h := ei_p h rfl rfl rfl rfl
          obtain ⟨f, g, h⟩ := h
          replace hf := Nat.lt_trans g hf
          clear g
          replace h : EV F f 16 z16 74 [some (rf 0 (0)), some (rf 2 (0)), some (.inl ((u2) + Int32.ofInt 1)), some (rf 7 ((u2).toNatClampNeg)), some (.inr (.inr (v4)))] [] σ (.inl (some (.inr (.inr w))), σ') := h
          replace h := ei_p h rfl rfl rfl rfl
          obtain ⟨f, g, h⟩ := h
          replace hf := Nat.lt_trans g hf
          clear g
          replace h : EV F f 16 z16 2 [some (rf 0 (0)), some (rf 2 (0)), some (.inl ((u2) + Int32.ofInt 1)), some (rf 7 ((u2).toNatClampNeg)), some (.inr (.inr (v4)))] [] σ (.inl (some (.inr (.inr w))), σ') := h
          exact IH f hf ((u2) + Int32.ofInt 1) (some (rf 7 ((u2).toNatClampNeg))) (some (.inr (.inr (v4)))) h
        · skip
          replace hp8 : ¬ ((m_i σ 7 ((u2).toNatClampNeg) 9).toInt ≠ (2 : Int)) := (not_congr ic_ne).mp hp8
          refine Or.inr ⟨hp8, ?_⟩
          replace hf := Nat.lt_trans g hf
          clear g
          replace h : EV F f 16 z16 44 [some (rf 0 (0)), some (rf 2 (0)), some (.inl (u2)), some (rf 7 ((u2).toNatClampNeg)), some (.inr (.inr (v4)))] [] σ (.inl (some (.inr (.inr w))), σ') := h
          replace h := ei_p h rfl rfl rfl rfl
          obtain ⟨f, g, h⟩ := h
          replace hf := Nat.lt_trans g hf
          clear g
          replace h : EV F f 16 z16 46 [some (rf 0 (0)), some (rf 2 (0)), some (.inl (u2)), some (rf 7 ((u2).toNatClampNeg)), some (.inr (.inr (v4)))] [.inr (.inr (v4))] σ (.inl (some (.inr (.inr w))), σ') := h
          rcases r_cs (v4) with e9 | ⟨q10, e9⟩
          · skip
            rw [e9] at h
            refine Or.inl ⟨e9, ?_⟩
            replace h : EV F f 16 z16 46 [some (rf 0 (0)), some (rf 2 (0)), some (.inl (u2)), some (rf 7 ((u2).toNatClampNeg)), some (.inr (.inr none))] [.inr (.inr none)] σ (.inl (some (.inr (.inr w))), σ') := h
            replace h := ei_c h rfl rfl rfl
            rcases h with ⟨hp11, f, g, h⟩ | ⟨hp11, f, g, h⟩
            · skip
              replace hf := Nat.lt_trans g hf
              clear g
              replace h : EV F f 16 z16 71 [some (rf 0 (0)), some (rf 2 (0)), some (.inl (u2)), some (rf 7 ((u2).toNatClampNeg)), some (.inr (.inr none))] [] σ (.inl (some (.inr (.inr w))), σ') := h
              replace h := ei_p h rfl rfl rfl rfl
              obtain ⟨f, g, h⟩ := h
              replace hf := Nat.lt_trans g hf
              clear g
              replace h : EV F f 16 z16 74 [some (rf 0 (0)), some (rf 2 (0)), some (.inl ((u2) + Int32.ofInt 1)), some (rf 7 ((u2).toNatClampNeg)), some (.inr (.inr none))] [] σ (.inl (some (.inr (.inr w))), σ') := h
              replace h := ei_p h rfl rfl rfl rfl
              obtain ⟨f, g, h⟩ := h
              replace hf := Nat.lt_trans g hf
              clear g
              replace h : EV F f 16 z16 2 [some (rf 0 (0)), some (rf 2 (0)), some (.inl ((u2) + Int32.ofInt 1)), some (rf 7 ((u2).toNatClampNeg)), some (.inr (.inr none))] [] σ (.inl (some (.inr (.inr w))), σ') := h
              exact IH f hf ((u2) + Int32.ofInt 1) (some (rf 7 ((u2).toNatClampNeg))) (some (.inr (.inr none))) h
            · exact absurd rfl hp11
          · skip
            rw [e9] at h
            refine Or.inr ⟨q10, e9, ?_⟩
            replace h : EV F f 16 z16 46 [some (rf 0 (0)), some (rf 2 (0)), some (.inl (u2)), some (rf 7 ((u2).toNatClampNeg)), some (.inr (.inr (some q10)))] [.inr (.inr (some q10))] σ (.inl (some (.inr (.inr w))), σ') := h
            replace h := ei_c h rfl rfl rfl
            rcases h with ⟨hp12, f, g, h⟩ | ⟨hp12, f, g, h⟩
            · exact absurd hp12 (fun z => by cases z)
            · skip
              replace hf := Nat.lt_trans g hf
              clear g
              replace h : EV F f 16 z16 49 [some (rf 0 (0)), some (rf 2 (0)), some (.inl (u2)), some (rf 7 ((u2).toNatClampNeg)), some (.inr (.inr (some q10)))] [] σ (.inl (some (.inr (.inr w))), σ') := h
              replace h := ei_p h rfl rfl rfl rfl
              obtain ⟨f, g, h⟩ := h
              replace hf := Nat.lt_trans g hf
              clear g
              replace h : EV F f 16 z16 51 [some (rf 0 (0)), some (rf 2 (0)), some (.inl (u2)), some (rf 7 ((u2).toNatClampNeg)), some (.inr (.inr (some q10)))] [.inr (.inr (some q10))] σ (.inl (some (.inr (.inr w))), σ') := h
              obtain ⟨i13, e14⟩ := ei_vp (as := []) h rfl rfl
              rw [Option.some.inj e14] at h
              refine ⟨i13, e14, ?_⟩
              replace h : EV F f 16 z16 51 [some (rf 0 (0)), some (rf 2 (0)), some (.inl (u2)), some (rf 7 ((u2).toNatClampNeg)), some (rf 8 (i13))] [rf 8 (i13)] σ (.inl (some (.inr (.inr w))), σ') := h
              replace h := bk_I (ei_v (as := []) h rfl rfl rfl) rfl z112_at (Or.inr rfl)
              obtain ⟨v15, σ16, r17, f, g, h⟩ := h
              replace hf := Nat.lt_trans g hf
              clear g
              have er17 := ro_run rfl r17
              rw [er17] at h r17
              have p18 := x112 hs r17
              refine ⟨v15, p18, ?_⟩
              replace h : EV F f 16 z16 54 [some (rf 0 (0)), some (rf 2 (0)), some (.inl (u2)), some (rf 7 ((u2).toNatClampNeg)), some (rf 8 (i13))] [.inl (v15)] σ (.inl (some (.inr (.inr w))), σ') := h
              replace h := ei_c h rfl rfl rfl
              rcases h with ⟨hp19, f, g, h⟩ | ⟨hp19, f, g, h⟩
              · skip
                replace hp19 : (v15).toInt = (0 : Int) := ic_eq.mp hp19
                refine Or.inl ⟨hp19, ?_⟩
                replace hf := Nat.lt_trans g hf
                clear g
                replace h : EV F f 16 z16 71 [some (rf 0 (0)), some (rf 2 (0)), some (.inl (u2)), some (rf 7 ((u2).toNatClampNeg)), some (rf 8 (i13))] [] σ (.inl (some (.inr (.inr w))), σ') := h
                replace h := ei_p h rfl rfl rfl rfl
                obtain ⟨f, g, h⟩ := h
                replace hf := Nat.lt_trans g hf
                clear g
                replace h : EV F f 16 z16 74 [some (rf 0 (0)), some (rf 2 (0)), some (.inl ((u2) + Int32.ofInt 1)), some (rf 7 ((u2).toNatClampNeg)), some (rf 8 (i13))] [] σ (.inl (some (.inr (.inr w))), σ') := h
                replace h := ei_p h rfl rfl rfl rfl
                obtain ⟨f, g, h⟩ := h
                replace hf := Nat.lt_trans g hf
                clear g
                replace h : EV F f 16 z16 2 [some (rf 0 (0)), some (rf 2 (0)), some (.inl ((u2) + Int32.ofInt 1)), some (rf 7 ((u2).toNatClampNeg)), some (rf 8 (i13))] [] σ (.inl (some (.inr (.inr w))), σ') := h
                exact IH f hf ((u2) + Int32.ofInt 1) (some (rf 7 ((u2).toNatClampNeg))) (some (rf 8 (i13))) h
              · skip
                replace hp19 : ¬ ((v15).toInt = (0 : Int)) := (not_congr ic_eq).mp hp19
                refine Or.inr ⟨hp19, ?_⟩
                replace hf := Nat.lt_trans g hf
                clear g
                replace h : EV F f 16 z16 57 [some (rf 0 (0)), some (rf 2 (0)), some (.inl (u2)), some (rf 7 ((u2).toNatClampNeg)), some (rf 8 (i13))] [] σ (.inl (some (.inr (.inr w))), σ') := h
                replace h := ei_p h rfl rfl rfl rfl
                obtain ⟨f, g, h⟩ := h
                replace hf := Nat.lt_trans g hf
                clear g
                replace h : EV F f 16 z16 58 [some (rf 0 (0)), some (rf 2 (0)), some (.inl (u2)), some (rf 7 ((u2).toNatClampNeg)), some (rf 8 (i13))] [rf 7 ((u2).toNatClampNeg)] σ (.inl (some (.inr (.inr w))), σ') := h
                replace h := ei_p h rfl rfl rfl rfl
                obtain ⟨f, g, h⟩ := h
                replace hf := Nat.lt_trans g hf
                clear g
                replace h : EV F f 16 z16 60 [some (rf 0 (0)), some (rf 2 (0)), some (.inl (u2)), some (rf 7 ((u2).toNatClampNeg)), some (rf 8 (i13))] [rf 8 (i13), rf 7 ((u2).toNatClampNeg)] σ (.inl (some (.inr (.inr w))), σ') := h
                replace h := ei_get h rfl rfl
                obtain ⟨f, g, h⟩ := h
                replace hf := Nat.lt_trans g hf
                clear g
                replace h : EV F f 16 z16 63 [some (rf 0 (0)), some (rf 2 (0)), some (.inl (u2)), some (rf 7 ((u2).toNatClampNeg)), some (rf 8 (i13))] [.inl (m_i σ 8 (i13) 2), rf 7 ((u2).toNatClampNeg)] σ (.inl (some (.inr (.inr w))), σ') := h
                replace h := bk_I (ei_v (as := [.inl (m_i σ 8 (i13) 2)]) h rfl rfl rfl) rfl z104_at (Or.inr rfl)
                obtain ⟨v20, σ21, r22, f, g, h⟩ := h
                replace hf := Nat.lt_trans g hf
                clear g
                have er22 := ro_run rfl r22
                rw [er22] at h r22
                have p23 := x104 hs r22
                refine ⟨v20, p23, ?_⟩
                replace h : EV F f 16 z16 66 [some (rf 0 (0)), some (rf 2 (0)), some (.inl (u2)), some (rf 7 ((u2).toNatClampNeg)), some (rf 8 (i13))] [.inl (v20)] σ (.inl (some (.inr (.inr w))), σ') := h
                replace h := ei_c h rfl rfl rfl
                rcases h with ⟨hp24, f, g, h⟩ | ⟨hp24, f, g, h⟩
                · skip
                  replace hp24 : (v20).toInt = (0 : Int) := ic_eq.mp hp24
                  refine Or.inl ⟨hp24, ?_⟩
                  replace hf := Nat.lt_trans g hf
                  clear g
                  replace h : EV F f 16 z16 71 [some (rf 0 (0)), some (rf 2 (0)), some (.inl (u2)), some (rf 7 ((u2).toNatClampNeg)), some (rf 8 (i13))] [] σ (.inl (some (.inr (.inr w))), σ') := h
                  replace h := ei_p h rfl rfl rfl rfl
                  obtain ⟨f, g, h⟩ := h
                  replace hf := Nat.lt_trans g hf
                  clear g
                  replace h : EV F f 16 z16 74 [some (rf 0 (0)), some (rf 2 (0)), some (.inl ((u2) + Int32.ofInt 1)), some (rf 7 ((u2).toNatClampNeg)), some (rf 8 (i13))] [] σ (.inl (some (.inr (.inr w))), σ') := h
                  replace h := ei_p h rfl rfl rfl rfl
                  obtain ⟨f, g, h⟩ := h
                  replace hf := Nat.lt_trans g hf
                  clear g
                  replace h : EV F f 16 z16 2 [some (rf 0 (0)), some (rf 2 (0)), some (.inl ((u2) + Int32.ofInt 1)), some (rf 7 ((u2).toNatClampNeg)), some (rf 8 (i13))] [] σ (.inl (some (.inr (.inr w))), σ') := h
                  exact IH f hf ((u2) + Int32.ofInt 1) (some (rf 7 ((u2).toNatClampNeg))) (some (rf 8 (i13))) h
                · skip
                  replace hp24 : ¬ ((v20).toInt = (0 : Int)) := (not_congr ic_eq).mp hp24
                  refine Or.inr ⟨hp24, ?_⟩
                  replace hf := Nat.lt_trans g hf
                  clear g
                  replace h : EV F f 16 z16 69 [some (rf 0 (0)), some (rf 2 (0)), some (.inl (u2)), some (rf 7 ((u2).toNatClampNeg)), some (rf 8 (i13))] [] σ (.inl (some (.inr (.inr w))), σ') := h
                  replace h := ei_p h rfl rfl rfl rfl
                  obtain ⟨f, g, h⟩ := h
                  replace hf := Nat.lt_trans g hf
                  clear g
                  replace h : EV F f 16 z16 70 [some (rf 0 (0)), some (rf 2 (0)), some (.inl (u2)), some (rf 7 ((u2).toNatClampNeg)), some (rf 8 (i13))] [rf 7 ((u2).toNatClampNeg)] σ (.inl (some (.inr (.inr w))), σ') := h
                  have e := ei_aret h rfl
                  cases e
                  exact rfl
def P16 (σ : mS) (w : mR) : Prop := ∃ n, Q16_2 σ n (Int32.ofInt 0) w
theorem x16 {σ σ' : mS} {w : mR} (hs : HS σ) (h : ev_run sm_all 16 [rf 0 (0), rf 2 (0)] σ (.inl (some (.inr (.inr w)))) σ') : P16 σ w := by
  unfold P16
  obtain ⟨F, f, h⟩ := ei_go h z16_at
  replace h : EV F f 16 z16 0 [some (rf 0 (0)), some (rf 2 (0)), none, none, none] [] σ (.inl (some (.inr (.inr w))), σ') := h
  replace h := ei_p h rfl rfl rfl rfl
  obtain ⟨f, g, h⟩ := h
  clear g
  replace h : EV F f 16 z16 1 [some (rf 0 (0)), some (rf 2 (0)), none, none, none] [.inl (Int32.ofInt 0)] σ (.inl (some (.inr (.inr w))), σ') := h
  replace h := ei_p h rfl rfl rfl rfl
  obtain ⟨f, g, h⟩ := h
  clear g
  replace h : EV F f 16 z16 2 [some (rf 0 (0)), some (rf 2 (0)), some (.inl (Int32.ofInt 0)), none, none] [] σ (.inl (some (.inr (.inr w))), σ') := h
  exact ⟨f + 1, q16_2 hs (f + 1) f (Nat.lt_succ_self f) (Int32.ofInt 0) _ _ h⟩
def z18 : mAl := ((yX1_init, cX1_init, 5, none, { frames := 1, cells := 0, slots := 0, locals := 20 }, []), rw_X1_init, true)
theorem z18_at : m_alF[18]? = some z18 := rfl
abbrev L18 : List (Nat × Nat) := [(1, 0), (1, 1), (1, 2), (1, 3)]
abbrev w18 : Nat → Nat → Bool := wl L18
def S18 : List Nat := [18]
theorem W18 : fw_S w18 S18 = true := by decide +kernel
def P18 (σ : mS) (a : Nat) (x1 : Int32) (x2 : Int32) (x3 : Int32) (x4 : Int32) (σ' : mS) : Prop := ∃ σ2, σ2 = m_set σ 1 (a) (0) (.inl (x1)) ∧ ∃ σ5, σ5 = m_set σ2 1 (a) (1) (.inl (x2)) ∧ ∃ σ8, σ8 = m_set σ5 1 (a) (2) (.inl (x3)) ∧ ∃ σ11, σ11 = m_set σ8 1 (a) (3) (.inl (x4)) ∧ σ' = σ11
theorem x18 {σ σ' : mS} {a : Nat} {x1 : Int32} {x2 : Int32} {x3 : Int32} {x4 : Int32} (hs : HS σ) (h : ev_run sm_all 18 [rf 1 (a), .inl (x1), .inl (x2), .inl (x3), .inl (x4)] σ (.inl none) σ') : P18 σ a x1 x2 x3 x4 σ' := by
  unfold P18
  obtain ⟨F, f, h⟩ := ei_go h z18_at
  replace h : EV F f 18 z18 0 [some (rf 1 (a)), some (.inl (x1)), some (.inl (x2)), some (.inl (x3)), some (.inl (x4))] [] σ (.inl none, σ') := h
  replace h := ei_p h rfl rfl rfl rfl
  obtain ⟨f, g, h⟩ := h
  clear g
  replace h : EV F f 18 z18 1 [some (rf 1 (a)), some (.inl (x1)), some (.inl (x2)), some (.inl (x3)), some (.inl (x4))] [rf 1 (a)] σ (.inl none, σ') := h
  replace h := ei_obj h rfl
  obtain ⟨f, g, h⟩ := h
  clear g
  replace h : EV F f 18 z18 4 [some (rf 1 (a)), some (.inl (x1)), some (.inl (x2)), some (.inl (x3)), some (.inl (x4))] [] σ (.inl none, σ') := h
  replace h := ei_p h rfl rfl rfl rfl
  obtain ⟨f, g, h⟩ := h
  clear g
  replace h : EV F f 18 z18 5 [some (rf 1 (a)), some (.inl (x1)), some (.inl (x2)), some (.inl (x3)), some (.inl (x4))] [rf 1 (a)] σ (.inl none, σ') := h
  replace h := ei_p h rfl rfl rfl rfl
  obtain ⟨f, g, h⟩ := h
  clear g
  replace h : EV F f 18 z18 6 [some (rf 1 (a)), some (.inl (x1)), some (.inl (x2)), some (.inl (x3)), some (.inl (x4))] [.inl (x1), rf 1 (a)] σ (.inl none, σ') := h
  replace h := ei_put h rfl
  obtain ⟨ht1, f, g, h⟩ := h
  clear g
  obtain ⟨σ2, e3⟩ : ∃ s, s = m_set σ 1 (a) (0) (.inl (x1)) := ⟨_, rfl⟩
  rw [← e3] at h
  have hsσ2 : HS σ2 := by rw [e3]; exact HS_set hs rfl
  refine ⟨σ2, e3, ?_⟩
  replace h : EV F f 18 z18 9 [some (rf 1 (a)), some (.inl (x1)), some (.inl (x2)), some (.inl (x3)), some (.inl (x4))] [] σ2 (.inl none, σ') := h
  replace h := ei_p h rfl rfl rfl rfl
  obtain ⟨f, g, h⟩ := h
  clear g
  replace h : EV F f 18 z18 10 [some (rf 1 (a)), some (.inl (x1)), some (.inl (x2)), some (.inl (x3)), some (.inl (x4))] [rf 1 (a)] σ2 (.inl none, σ') := h
  replace h := ei_p h rfl rfl rfl rfl
  obtain ⟨f, g, h⟩ := h
  clear g
  replace h : EV F f 18 z18 11 [some (rf 1 (a)), some (.inl (x1)), some (.inl (x2)), some (.inl (x3)), some (.inl (x4))] [.inl (x2), rf 1 (a)] σ2 (.inl none, σ') := h
  replace h := ei_put h rfl
  obtain ⟨ht4, f, g, h⟩ := h
  clear g
  obtain ⟨σ5, e6⟩ : ∃ s, s = m_set σ2 1 (a) (1) (.inl (x2)) := ⟨_, rfl⟩
  rw [← e6] at h
  have hsσ5 : HS σ5 := by rw [e6]; exact HS_set hsσ2 rfl
  refine ⟨σ5, e6, ?_⟩
  replace h : EV F f 18 z18 14 [some (rf 1 (a)), some (.inl (x1)), some (.inl (x2)), some (.inl (x3)), some (.inl (x4))] [] σ5 (.inl none, σ') := h
  replace h := ei_p h rfl rfl rfl rfl
  obtain ⟨f, g, h⟩ := h
  clear g
  replace h : EV F f 18 z18 15 [some (rf 1 (a)), some (.inl (x1)), some (.inl (x2)), some (.inl (x3)), some (.inl (x4))] [rf 1 (a)] σ5 (.inl none, σ') := h
  replace h := ei_p h rfl rfl rfl rfl
  obtain ⟨f, g, h⟩ := h
  clear g
  replace h : EV F f 18 z18 16 [some (rf 1 (a)), some (.inl (x1)), some (.inl (x2)), some (.inl (x3)), some (.inl (x4))] [.inl (x3), rf 1 (a)] σ5 (.inl none, σ') := h
  replace h := ei_put h rfl
  obtain ⟨ht7, f, g, h⟩ := h
  clear g
  obtain ⟨σ8, e9⟩ : ∃ s, s = m_set σ5 1 (a) (2) (.inl (x3)) := ⟨_, rfl⟩
  rw [← e9] at h
  have hsσ8 : HS σ8 := by rw [e9]; exact HS_set hsσ5 rfl
  refine ⟨σ8, e9, ?_⟩
  replace h : EV F f 18 z18 19 [some (rf 1 (a)), some (.inl (x1)), some (.inl (x2)), some (.inl (x3)), some (.inl (x4))] [] σ8 (.inl none, σ') := h
  replace h := ei_p h rfl rfl rfl rfl
  obtain ⟨f, g, h⟩ := h
  clear g
  replace h : EV F f 18 z18 20 [some (rf 1 (a)), some (.inl (x1)), some (.inl (x2)), some (.inl (x3)), some (.inl (x4))] [rf 1 (a)] σ8 (.inl none, σ') := h
  replace h := ei_p h rfl rfl rfl rfl
  obtain ⟨f, g, h⟩ := h
  clear g
  replace h : EV F f 18 z18 22 [some (rf 1 (a)), some (.inl (x1)), some (.inl (x2)), some (.inl (x3)), some (.inl (x4))] [.inl (x4), rf 1 (a)] σ8 (.inl none, σ') := h
  replace h := ei_put h rfl
  obtain ⟨ht10, f, g, h⟩ := h
  clear g
  obtain ⟨σ11, e12⟩ : ∃ s, s = m_set σ8 1 (a) (3) (.inl (x4)) := ⟨_, rfl⟩
  rw [← e12] at h
  have hsσ11 : HS σ11 := by rw [e12]; exact HS_set hsσ8 rfl
  refine ⟨σ11, e12, ?_⟩
  replace h : EV F f 18 z18 25 [some (rf 1 (a)), some (.inl (x1)), some (.inl (x2)), some (.inl (x3)), some (.inl (x4))] [] σ11 (.inl none, σ') := h
  have e := ei_ret h rfl
  cases e
  exact rfl
def z19 : mAl := ((yX1_with, cX1_with, 5, (some (.object "NettingHall$Call")), { frames := 0, cells := 0, slots := 0, locals := 0 }, []), rw_X1_with, false)
theorem z19_at : m_alF[19]? = some z19 := rfl
abbrev L19 : List (Nat × Nat) := [(1, 4), (1, 5), (1, 6), (1, 7)]
abbrev w19 : Nat → Nat → Bool := wl L19
def S19 : List Nat := [19]
theorem W19 : fw_S w19 S19 = true := by decide +kernel
def P19 (σ : mS) (a : Nat) (x1 : Int32) (x2 : Int32) (x3 : Int32) (x4 : Int32) (w : mR) (σ' : mS) : Prop := ∃ σ2, σ2 = m_set σ 1 (a) (4) (.inl (x1)) ∧ ∃ σ5, σ5 = m_set σ2 1 (a) (5) (.inl (x2)) ∧ ∃ σ8, σ8 = m_set σ5 1 (a) (6) (.inl (x3)) ∧ ∃ σ11, σ11 = m_set σ8 1 (a) (7) (.inl (x4)) ∧ w = (some (1, a)) ∧ σ' = σ11
theorem x19 {σ σ' : mS} {a : Nat} {x1 : Int32} {x2 : Int32} {x3 : Int32} {x4 : Int32} {w : mR} (hs : HS σ) (h : ev_run sm_all 19 [rf 1 (a), .inl (x1), .inl (x2), .inl (x3), .inl (x4)] σ (.inl (some (.inr (.inr w)))) σ') : P19 σ a x1 x2 x3 x4 w σ' := by
  unfold P19
  obtain ⟨F, f, h⟩ := ei_go h z19_at
  replace h : EV F f 19 z19 0 [some (rf 1 (a)), some (.inl (x1)), some (.inl (x2)), some (.inl (x3)), some (.inl (x4))] [] σ (.inl (some (.inr (.inr w))), σ') := h
  replace h := ei_p h rfl rfl rfl rfl
  obtain ⟨f, g, h⟩ := h
  clear g
  replace h : EV F f 19 z19 1 [some (rf 1 (a)), some (.inl (x1)), some (.inl (x2)), some (.inl (x3)), some (.inl (x4))] [rf 1 (a)] σ (.inl (some (.inr (.inr w))), σ') := h
  replace h := ei_p h rfl rfl rfl rfl
  obtain ⟨f, g, h⟩ := h
  clear g
  replace h : EV F f 19 z19 2 [some (rf 1 (a)), some (.inl (x1)), some (.inl (x2)), some (.inl (x3)), some (.inl (x4))] [.inl (x1), rf 1 (a)] σ (.inl (some (.inr (.inr w))), σ') := h
  replace h := ei_put h rfl
  obtain ⟨ht1, f, g, h⟩ := h
  clear g
  obtain ⟨σ2, e3⟩ : ∃ s, s = m_set σ 1 (a) (4) (.inl (x1)) := ⟨_, rfl⟩
  rw [← e3] at h
  have hsσ2 : HS σ2 := by rw [e3]; exact HS_set hs rfl
  refine ⟨σ2, e3, ?_⟩
  replace h : EV F f 19 z19 5 [some (rf 1 (a)), some (.inl (x1)), some (.inl (x2)), some (.inl (x3)), some (.inl (x4))] [] σ2 (.inl (some (.inr (.inr w))), σ') := h
  replace h := ei_p h rfl rfl rfl rfl
  obtain ⟨f, g, h⟩ := h
  clear g
  replace h : EV F f 19 z19 6 [some (rf 1 (a)), some (.inl (x1)), some (.inl (x2)), some (.inl (x3)), some (.inl (x4))] [rf 1 (a)] σ2 (.inl (some (.inr (.inr w))), σ') := h
  replace h := ei_p h rfl rfl rfl rfl
  obtain ⟨f, g, h⟩ := h
  clear g
  replace h : EV F f 19 z19 7 [some (rf 1 (a)), some (.inl (x1)), some (.inl (x2)), some (.inl (x3)), some (.inl (x4))] [.inl (x2), rf 1 (a)] σ2 (.inl (some (.inr (.inr w))), σ') := h
  replace h := ei_put h rfl
  obtain ⟨ht4, f, g, h⟩ := h
  clear g
  obtain ⟨σ5, e6⟩ : ∃ s, s = m_set σ2 1 (a) (5) (.inl (x2)) := ⟨_, rfl⟩
  rw [← e6] at h
  have hsσ5 : HS σ5 := by rw [e6]; exact HS_set hsσ2 rfl
  refine ⟨σ5, e6, ?_⟩
  replace h : EV F f 19 z19 10 [some (rf 1 (a)), some (.inl (x1)), some (.inl (x2)), some (.inl (x3)), some (.inl (x4))] [] σ5 (.inl (some (.inr (.inr w))), σ') := h
  replace h := ei_p h rfl rfl rfl rfl
  obtain ⟨f, g, h⟩ := h
  clear g
  replace h : EV F f 19 z19 11 [some (rf 1 (a)), some (.inl (x1)), some (.inl (x2)), some (.inl (x3)), some (.inl (x4))] [rf 1 (a)] σ5 (.inl (some (.inr (.inr w))), σ') := h
  replace h := ei_p h rfl rfl rfl rfl
  obtain ⟨f, g, h⟩ := h
  clear g
  replace h : EV F f 19 z19 12 [some (rf 1 (a)), some (.inl (x1)), some (.inl (x2)), some (.inl (x3)), some (.inl (x4))] [.inl (x3), rf 1 (a)] σ5 (.inl (some (.inr (.inr w))), σ') := h
  replace h := ei_put h rfl
  obtain ⟨ht7, f, g, h⟩ := h
  clear g
  obtain ⟨σ8, e9⟩ : ∃ s, s = m_set σ5 1 (a) (6) (.inl (x3)) := ⟨_, rfl⟩
  rw [← e9] at h
  have hsσ8 : HS σ8 := by rw [e9]; exact HS_set hsσ5 rfl
  refine ⟨σ8, e9, ?_⟩
  replace h : EV F f 19 z19 15 [some (rf 1 (a)), some (.inl (x1)), some (.inl (x2)), some (.inl (x3)), some (.inl (x4))] [] σ8 (.inl (some (.inr (.inr w))), σ') := h
  replace h := ei_p h rfl rfl rfl rfl
  obtain ⟨f, g, h⟩ := h
  clear g
  replace h : EV F f 19 z19 16 [some (rf 1 (a)), some (.inl (x1)), some (.inl (x2)), some (.inl (x3)), some (.inl (x4))] [rf 1 (a)] σ8 (.inl (some (.inr (.inr w))), σ') := h
  replace h := ei_p h rfl rfl rfl rfl
  obtain ⟨f, g, h⟩ := h
  clear g
  replace h : EV F f 19 z19 18 [some (rf 1 (a)), some (.inl (x1)), some (.inl (x2)), some (.inl (x3)), some (.inl (x4))] [.inl (x4), rf 1 (a)] σ8 (.inl (some (.inr (.inr w))), σ') := h
  replace h := ei_put h rfl
  obtain ⟨ht10, f, g, h⟩ := h
  clear g
  obtain ⟨σ11, e12⟩ : ∃ s, s = m_set σ8 1 (a) (7) (.inl (x4)) := ⟨_, rfl⟩
  rw [← e12] at h
  have hsσ11 : HS σ11 := by rw [e12]; exact HS_set hsσ8 rfl
  refine ⟨σ11, e12, ?_⟩
  replace h : EV F f 19 z19 21 [some (rf 1 (a)), some (.inl (x1)), some (.inl (x2)), some (.inl (x3)), some (.inl (x4))] [] σ11 (.inl (some (.inr (.inr w))), σ') := h
  replace h := ei_p h rfl rfl rfl rfl
  obtain ⟨f, g, h⟩ := h
  clear g
  replace h : EV F f 19 z19 22 [some (rf 1 (a)), some (.inl (x1)), some (.inl (x2)), some (.inl (x3)), some (.inl (x4))] [rf 1 (a)] σ11 (.inl (some (.inr (.inr w))), σ') := h
  have e := ei_aret h rfl
  cases e
  exact ⟨rfl, rfl⟩
