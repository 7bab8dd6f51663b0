/-! the class's methods as relations: 63 moveMoney, 69 wakeStops, 61 perform, 79 keyAbove, 80 placeOf, 81 put, 82 makeGapAt, 83 closeGapAt, 84 takeOver, 87 differencesFrom, 93 condition, 94 amountOf, 98 isGone, 101 canBeTied, 120 <init>, 121 tells, 163 isBetween, 164 isMember, 160 mustExist, 161 mustFit, 162 mustBePossible, 159 keep, 158 done, 124 deposit, 165 isMemberOrHouse -/
def z63 : mAl := ((yX4_moveMoney, cX4_moveMoney, 2, (some .long), { frames := 5, cells := 0, slots := 0, locals := 144 }, []), rw_X4_moveMoney, false)
theorem z63_at : m_alF[63]? = some z63 := rfl
abbrev L63 : List (Nat × Nat) := [(2, 6), (2, 9), (2, 10), (6, 2), (6, 3), (6, 4), (6, 10), (8, 8), (10, 9), (13, 0), (14, 0)]
abbrev w63 : Nat → Nat → Bool := wl L63
def S63 : List Nat := [22, 23, 24, 25, 29, 30, 31, 34, 37, 38, 45, 46, 47, 48, 63, 90, 91, 92]
theorem W63 : fw_S w63 S63 = true := by decide +kernel
def J63_186 (τ : mS) (w : Int64) (σ' : mS) : Prop := ∃ v1 σ2, fw_e w46 τ σ2 ∧ P46 τ v1 σ2 ∧ w = (v1) ∧ σ' = σ2
theorem j63_186 {F f : Nat} {σ' τ : mS} {y1 : Option mV} {w : Int64} (hsτ : HS τ) (h : EV F f 63 z63 186 [some (rf 4 (0)), y1] [] τ (.inl (some (.inr (.inl w))), σ')) : J63_186 τ w σ' := by
  unfold J63_186
  replace h := ei_p h rfl rfl rfl rfl
  obtain ⟨f, g, h⟩ := h
  clear g
  replace h : EV F f 63 z63 187 [some (rf 4 (0)), y1] [rf 4 (0)] τ (.inl (some (.inr (.inl w))), σ') := h
  replace h := ei_get h rfl (HS_g4_1 hsτ)
  obtain ⟨f, g, h⟩ := h
  clear g
  replace h : EV F f 63 z63 190 [some (rf 4 (0)), y1] [rf 2 (0)] τ (.inl (some (.inr (.inl w))), σ') := h
  replace h := bk_L (ei_v (as := []) h rfl rfl rfl) rfl z46_at rfl
  obtain ⟨v1, σ2, r3, f, g, h⟩ := h
  clear g
  have p4 := x46 hsτ r3
  have hsσ2 : HS σ2 := HS_run rfl r3 hsτ
  refine ⟨v1, σ2, fw_run W46 rfl r3, p4, ?_⟩
  replace h : EV F f 63 z63 193 [some (rf 4 (0)), y1] [.inr (.inl (v1))] σ2 (.inl (some (.inr (.inl w))), σ') := h
  have e := ei_lret h rfl
  cases e
  exact ⟨rfl, rfl⟩
def P63 (σ : mS) (x1 : mR) (w : Int64) (σ' : mS) : Prop := ∃ i1, x1 = some (1, i1) ∧ ((((m_i σ 1 (i1) 0).toInt < 0 ∨ 15 < (m_i σ 1 (i1) 0).toInt) ∧ J63_186 σ w σ') ∨ ((m_i σ 1 (i1) 0).toInt = 0 ∧ ∃ v5 σ6, fw_e w29 σ σ6 ∧ P29 σ (m_i σ 1 (i1) 1) (m_i σ 1 (i1) 2) v5 σ6 ∧ w = (v5) ∧ σ' = σ6) ∨ ((m_i σ 1 (i1) 0).toInt = 1 ∧ ∃ v9 σ10, fw_e w30 σ σ10 ∧ P30 σ (m_i σ 1 (i1) 1) (m_i σ 1 (i1) 2) v9 σ10 ∧ w = (v9) ∧ σ' = σ10) ∨ ((m_i σ 1 (i1) 0).toInt = 2 ∧ J63_186 σ w σ') ∨ ((m_i σ 1 (i1) 0).toInt = 3 ∧ J63_186 σ w σ') ∨ ((m_i σ 1 (i1) 0).toInt = 4 ∧ J63_186 σ w σ') ∨ ((m_i σ 1 (i1) 0).toInt = 5 ∧ J63_186 σ w σ') ∨ ((m_i σ 1 (i1) 0).toInt = 6 ∧ J63_186 σ w σ') ∨ ((m_i σ 1 (i1) 0).toInt = 7 ∧ J63_186 σ w σ') ∨ ((m_i σ 1 (i1) 0).toInt = 8 ∧ J63_186 σ w σ') ∨ ((m_i σ 1 (i1) 0).toInt = 9 ∧ J63_186 σ w σ') ∨ ((m_i σ 1 (i1) 0).toInt = 10 ∧ J63_186 σ w σ') ∨ ((m_i σ 1 (i1) 0).toInt = 11 ∧ ∃ v13 σ14, fw_e w37 σ σ14 ∧ P37 σ (m_i σ 1 (i1) 1) (m_i σ 1 (i1) 2) v13 σ14 ∧ w = (v13) ∧ σ' = σ14) ∨ ((m_i σ 1 (i1) 0).toInt = 12 ∧ ∃ σ18, fw_e w34 σ σ18 ∧ P34 σ (m_i σ 1 (i1) 1) σ18 ∧ w = (Int64.ofNat 0) ∧ σ' = σ18) ∨ ((m_i σ 1 (i1) 0).toInt = 13 ∧ ∃ v21 σ22, fw_e w31 σ σ22 ∧ P31 σ (m_i σ 1 (i1) 1) (m_i σ 1 (i1) 2) (m_i σ 1 (i1) 3) v21 σ22 ∧ w = ((v21).toInt64) ∧ σ' = σ22) ∨ ((m_i σ 1 (i1) 0).toInt = 14 ∧ J63_186 σ w σ') ∨ ((m_i σ 1 (i1) 0).toInt = 15 ∧ ∃ v25 σ26, fw_e w45 σ σ26 ∧ P45 σ (m_i σ 1 (i1) 1) (m_i σ 1 (i1) 2) (m_i σ 1 (i1) 3) v25 σ26 ∧ w = (v25) ∧ σ' = σ26))
theorem x63 {σ σ' : mS} {x1 : mR} {w : Int64} (hs : HS σ) (h : ev_run sm_all 63 [rf 4 (0), .inr (.inr (x1))] σ (.inl (some (.inr (.inl w)))) σ') : P63 σ x1 w σ' := by
  unfold P63
  obtain ⟨F, f, h⟩ := ei_go h z63_at
  replace h : EV F f 63 z63 0 [some (rf 4 (0)), some (.inr (.inr (x1)))] [] σ (.inl (some (.inr (.inl w))), σ') := h
  replace h := ei_p h rfl rfl rfl rfl
  obtain ⟨f, g, h⟩ := h
  clear g
  replace h : EV F f 63 z63 1 [some (rf 4 (0)), some (.inr (.inr (x1)))] [.inr (.inr (x1))] σ (.inl (some (.inr (.inl w))), σ') := h
  obtain ⟨i1, e2⟩ := ei_gp h rfl
  rw [e2] at h
  refine ⟨i1, e2, ?_⟩
  replace h : EV F f 63 z63 1 [some (rf 4 (0)), some (rf 1 (i1))] [rf 1 (i1)] σ (.inl (some (.inr (.inl w))), σ') := h
  replace h := ei_get h rfl rfl
  obtain ⟨f, g, h⟩ := h
  clear g
  replace h : EV F f 63 z63 4 [some (rf 4 (0)), some (rf 1 (i1))] [.inl (m_i σ 1 (i1) 0)] σ (.inl (some (.inr (.inl w))), σ') := h
  replace h := ei_sw h rfl
  rcases h with ⟨e4, f, g, h⟩ | ⟨m3, e4, o, ho, f, g, h⟩
  · skip
    refine Or.inl ⟨e4, ?_⟩
    clear g
    replace h : EV F f 63 z63 186 [some (rf 4 (0)), some (rf 1 (i1))] [] σ (.inl (some (.inr (.inl w))), σ') := h
    exact j63_186 hs h
  · skip
    rcases m3 with _ | _ | _ | _ | _ | _ | _ | _ | _ | _ | _ | _ | _ | _ | _ | _ | m3
    · skip
      cases ho
      replace e4 : (m_i σ 1 (i1) 0).toInt = 0 := e4
      refine Or.inr (Or.inl ⟨e4, ?_⟩)
      clear g
      replace h : EV F f 63 z63 84 [some (rf 4 (0)), some (rf 1 (i1))] [] σ (.inl (some (.inr (.inl w))), σ') := h
      replace h := ei_p h rfl rfl rfl rfl
      obtain ⟨f, g, h⟩ := h
      clear g
      replace h : EV F f 63 z63 85 [some (rf 4 (0)), some (rf 1 (i1))] [rf 4 (0)] σ (.inl (some (.inr (.inl w))), σ') := h
      replace h := ei_get h rfl (HS_g4_1 hs)
      obtain ⟨f, g, h⟩ := h
      clear g
      replace h : EV F f 63 z63 88 [some (rf 4 (0)), some (rf 1 (i1))] [rf 2 (0)] σ (.inl (some (.inr (.inl w))), σ') := h
      replace h := ei_p h rfl rfl rfl rfl
      obtain ⟨f, g, h⟩ := h
      clear g
      replace h : EV F f 63 z63 89 [some (rf 4 (0)), some (rf 1 (i1))] [rf 1 (i1), rf 2 (0)] σ (.inl (some (.inr (.inl w))), σ') := h
      replace h := ei_get h rfl rfl
      obtain ⟨f, g, h⟩ := h
      clear g
      replace h : EV F f 63 z63 92 [some (rf 4 (0)), some (rf 1 (i1))] [.inl (m_i σ 1 (i1) 1), rf 2 (0)] σ (.inl (some (.inr (.inl w))), σ') := h
      replace h := ei_p h rfl rfl rfl rfl
      obtain ⟨f, g, h⟩ := h
      clear g
      replace h : EV F f 63 z63 93 [some (rf 4 (0)), some (rf 1 (i1))] [rf 1 (i1), .inl (m_i σ 1 (i1) 1), rf 2 (0)] σ (.inl (some (.inr (.inl w))), σ') := h
      replace h := ei_get h rfl rfl
      obtain ⟨f, g, h⟩ := h
      clear g
      replace h : EV F f 63 z63 96 [some (rf 4 (0)), some (rf 1 (i1))] [.inl (m_i σ 1 (i1) 2), .inl (m_i σ 1 (i1) 1), rf 2 (0)] σ (.inl (some (.inr (.inl w))), σ') := h
      replace h := bk_L (ei_v (as := [.inl (m_i σ 1 (i1) 2), .inl (m_i σ 1 (i1) 1)]) h rfl rfl rfl) rfl z29_at rfl
      obtain ⟨v5, σ6, r7, f, g, h⟩ := h
      clear g
      have p8 := x29 hs r7
      have hsσ6 : HS σ6 := HS_run rfl r7 hs
      refine ⟨v5, σ6, fw_run W29 rfl r7, p8, ?_⟩
      replace h : EV F f 63 z63 99 [some (rf 4 (0)), some (rf 1 (i1))] [.inr (.inl (v5))] σ6 (.inl (some (.inr (.inl w))), σ') := h
      have e := ei_lret h rfl
      cases e
      exact ⟨rfl, rfl⟩
    · skip
      cases ho
      replace e4 : (m_i σ 1 (i1) 0).toInt = 1 := e4
      refine Or.inr (Or.inr (Or.inl ⟨e4, ?_⟩))
      clear g
      replace h : EV F f 63 z63 100 [some (rf 4 (0)), some (rf 1 (i1))] [] σ (.inl (some (.inr (.inl w))), σ') := h
      replace h := ei_p h rfl rfl rfl rfl
      obtain ⟨f, g, h⟩ := h
      clear g
      replace h : EV F f 63 z63 101 [some (rf 4 (0)), some (rf 1 (i1))] [rf 4 (0)] σ (.inl (some (.inr (.inl w))), σ') := h
      replace h := ei_get h rfl (HS_g4_1 hs)
      obtain ⟨f, g, h⟩ := h
      clear g
      replace h : EV F f 63 z63 104 [some (rf 4 (0)), some (rf 1 (i1))] [rf 2 (0)] σ (.inl (some (.inr (.inl w))), σ') := h
      replace h := ei_p h rfl rfl rfl rfl
      obtain ⟨f, g, h⟩ := h
      clear g
      replace h : EV F f 63 z63 105 [some (rf 4 (0)), some (rf 1 (i1))] [rf 1 (i1), rf 2 (0)] σ (.inl (some (.inr (.inl w))), σ') := h
      replace h := ei_get h rfl rfl
      obtain ⟨f, g, h⟩ := h
      clear g
      replace h : EV F f 63 z63 108 [some (rf 4 (0)), some (rf 1 (i1))] [.inl (m_i σ 1 (i1) 1), rf 2 (0)] σ (.inl (some (.inr (.inl w))), σ') := h
      replace h := ei_p h rfl rfl rfl rfl
      obtain ⟨f, g, h⟩ := h
      clear g
      replace h : EV F f 63 z63 109 [some (rf 4 (0)), some (rf 1 (i1))] [rf 1 (i1), .inl (m_i σ 1 (i1) 1), rf 2 (0)] σ (.inl (some (.inr (.inl w))), σ') := h
      replace h := ei_get h rfl rfl
      obtain ⟨f, g, h⟩ := h
      clear g
      replace h : EV F f 63 z63 112 [some (rf 4 (0)), some (rf 1 (i1))] [.inl (m_i σ 1 (i1) 2), .inl (m_i σ 1 (i1) 1), rf 2 (0)] σ (.inl (some (.inr (.inl w))), σ') := h
      replace h := bk_L (ei_v (as := [.inl (m_i σ 1 (i1) 2), .inl (m_i σ 1 (i1) 1)]) h rfl rfl rfl) rfl z30_at rfl
      obtain ⟨v9, σ10, r11, f, g, h⟩ := h
      clear g
      have p12 := x30 hs r11
      have hsσ10 : HS σ10 := HS_run rfl r11 hs
      refine ⟨v9, σ10, fw_run W30 rfl r11, p12, ?_⟩
      replace h : EV F f 63 z63 115 [some (rf 4 (0)), some (rf 1 (i1))] [.inr (.inl (v9))] σ10 (.inl (some (.inr (.inl w))), σ') := h
      have e := ei_lret h rfl
      cases e
      exact ⟨rfl, rfl⟩
    · skip
      cases ho
      replace e4 : (m_i σ 1 (i1) 0).toInt = 2 := e4
      refine Or.inr (Or.inr (Or.inr (Or.inl ⟨e4, ?_⟩)))
      clear g
      replace h : EV F f 63 z63 186 [some (rf 4 (0)), some (rf 1 (i1))] [] σ (.inl (some (.inr (.inl w))), σ') := h
      exact j63_186 hs h
    · skip
      cases ho
      replace e4 : (m_i σ 1 (i1) 0).toInt = 3 := e4
      refine Or.inr (Or.inr (Or.inr (Or.inr (Or.inl ⟨e4, ?_⟩))))
      clear g
      replace h : EV F f 63 z63 186 [some (rf 4 (0)), some (rf 1 (i1))] [] σ (.inl (some (.inr (.inl w))), σ') := h
      exact j63_186 hs h
    · skip
      cases ho
      replace e4 : (m_i σ 1 (i1) 0).toInt = 4 := e4
      refine Or.inr (Or.inr (Or.inr (Or.inr (Or.inr (Or.inl ⟨e4, ?_⟩)))))
      clear g
      replace h : EV F f 63 z63 186 [some (rf 4 (0)), some (rf 1 (i1))] [] σ (.inl (some (.inr (.inl w))), σ') := h
      exact j63_186 hs h
    · skip
      cases ho
      replace e4 : (m_i σ 1 (i1) 0).toInt = 5 := e4
      refine Or.inr (Or.inr (Or.inr (Or.inr (Or.inr (Or.inr (Or.inl ⟨e4, ?_⟩))))))
      clear g
      replace h : EV F f 63 z63 186 [some (rf 4 (0)), some (rf 1 (i1))] [] σ (.inl (some (.inr (.inl w))), σ') := h
      exact j63_186 hs h
    · skip
      cases ho
      replace e4 : (m_i σ 1 (i1) 0).toInt = 6 := e4
      refine Or.inr (Or.inr (Or.inr (Or.inr (Or.inr (Or.inr (Or.inr (Or.inl ⟨e4, ?_⟩)))))))
      clear g
      replace h : EV F f 63 z63 186 [some (rf 4 (0)), some (rf 1 (i1))] [] σ (.inl (some (.inr (.inl w))), σ') := h
      exact j63_186 hs h
    · skip
      cases ho
      replace e4 : (m_i σ 1 (i1) 0).toInt = 7 := e4
      refine Or.inr (Or.inr (Or.inr (Or.inr (Or.inr (Or.inr (Or.inr (Or.inr (Or.inl ⟨e4, ?_⟩))))))))
      clear g
      replace h : EV F f 63 z63 186 [some (rf 4 (0)), some (rf 1 (i1))] [] σ (.inl (some (.inr (.inl w))), σ') := h
      exact j63_186 hs h
    · skip
      cases ho
      replace e4 : (m_i σ 1 (i1) 0).toInt = 8 := e4
      refine Or.inr (Or.inr (Or.inr (Or.inr (Or.inr (Or.inr (Or.inr (Or.inr (Or.inr (Or.inl ⟨e4, ?_⟩)))))))))
      clear g
      replace h : EV F f 63 z63 186 [some (rf 4 (0)), some (rf 1 (i1))] [] σ (.inl (some (.inr (.inl w))), σ') := h
      exact j63_186 hs h
    · skip
      cases ho
      replace e4 : (m_i σ 1 (i1) 0).toInt = 9 := e4
      refine Or.inr (Or.inr (Or.inr (Or.inr (Or.inr (Or.inr (Or.inr (Or.inr (Or.inr (Or.inr (Or.inl ⟨e4, ?_⟩))))))))))
      clear g
      replace h : EV F f 63 z63 186 [some (rf 4 (0)), some (rf 1 (i1))] [] σ (.inl (some (.inr (.inl w))), σ') := h
      exact j63_186 hs h
    · skip
      cases ho
      replace e4 : (m_i σ 1 (i1) 0).toInt = 10 := e4
      refine Or.inr (Or.inr (Or.inr (Or.inr (Or.inr (Or.inr (Or.inr (Or.inr (Or.inr (Or.inr (Or.inr (Or.inl ⟨e4, ?_⟩)))))))))))
      clear g
      replace h : EV F f 63 z63 186 [some (rf 4 (0)), some (rf 1 (i1))] [] σ (.inl (some (.inr (.inl w))), σ') := h
      exact j63_186 hs h
    · skip
      cases ho
      replace e4 : (m_i σ 1 (i1) 0).toInt = 11 := e4
      refine Or.inr (Or.inr (Or.inr (Or.inr (Or.inr (Or.inr (Or.inr (Or.inr (Or.inr (Or.inr (Or.inr (Or.inr (Or.inl ⟨e4, ?_⟩))))))))))))
      clear g
      replace h : EV F f 63 z63 116 [some (rf 4 (0)), some (rf 1 (i1))] [] σ (.inl (some (.inr (.inl w))), σ') := h
      replace h := ei_p h rfl rfl rfl rfl
      obtain ⟨f, g, h⟩ := h
      clear g
      replace h : EV F f 63 z63 117 [some (rf 4 (0)), some (rf 1 (i1))] [rf 4 (0)] σ (.inl (some (.inr (.inl w))), σ') := h
      replace h := ei_get h rfl (HS_g4_1 hs)
      obtain ⟨f, g, h⟩ := h
      clear g
      replace h : EV F f 63 z63 120 [some (rf 4 (0)), some (rf 1 (i1))] [rf 2 (0)] σ (.inl (some (.inr (.inl w))), σ') := h
      replace h := ei_p h rfl rfl rfl rfl
      obtain ⟨f, g, h⟩ := h
      clear g
      replace h : EV F f 63 z63 121 [some (rf 4 (0)), some (rf 1 (i1))] [rf 1 (i1), rf 2 (0)] σ (.inl (some (.inr (.inl w))), σ') := h
      replace h := ei_get h rfl rfl
      obtain ⟨f, g, h⟩ := h
      clear g
      replace h : EV F f 63 z63 124 [some (rf 4 (0)), some (rf 1 (i1))] [.inl (m_i σ 1 (i1) 1), rf 2 (0)] σ (.inl (some (.inr (.inl w))), σ') := h
      replace h := ei_p h rfl rfl rfl rfl
      obtain ⟨f, g, h⟩ := h
      clear g
      replace h : EV F f 63 z63 125 [some (rf 4 (0)), some (rf 1 (i1))] [rf 1 (i1), .inl (m_i σ 1 (i1) 1), rf 2 (0)] σ (.inl (some (.inr (.inl w))), σ') := h
      replace h := ei_get h rfl rfl
      obtain ⟨f, g, h⟩ := h
      clear g
      replace h : EV F f 63 z63 128 [some (rf 4 (0)), some (rf 1 (i1))] [.inl (m_i σ 1 (i1) 2), .inl (m_i σ 1 (i1) 1), rf 2 (0)] σ (.inl (some (.inr (.inl w))), σ') := h
      replace h := bk_L (ei_v (as := [.inl (m_i σ 1 (i1) 2), .inl (m_i σ 1 (i1) 1)]) h rfl rfl rfl) rfl z37_at rfl
      obtain ⟨v13, σ14, r15, f, g, h⟩ := h
      clear g
      have p16 := x37 hs r15
      have hsσ14 : HS σ14 := HS_run rfl r15 hs
      refine ⟨v13, σ14, fw_run W37 rfl r15, p16, ?_⟩
      replace h : EV F f 63 z63 131 [some (rf 4 (0)), some (rf 1 (i1))] [.inr (.inl (v13))] σ14 (.inl (some (.inr (.inl w))), σ') := h
      have e := ei_lret h rfl
      cases e
      exact ⟨rfl, rfl⟩
    · skip
      cases ho
      replace e4 : (m_i σ 1 (i1) 0).toInt = 12 := e4
      refine Or.inr (Or.inr (Or.inr (Or.inr (Or.inr (Or.inr (Or.inr (Or.inr (Or.inr (Or.inr (Or.inr (Or.inr (Or.inr (Or.inl ⟨e4, ?_⟩)))))))))))))
      clear g
      replace h : EV F f 63 z63 132 [some (rf 4 (0)), some (rf 1 (i1))] [] σ (.inl (some (.inr (.inl w))), σ') := h
      replace h := ei_p h rfl rfl rfl rfl
      obtain ⟨f, g, h⟩ := h
      clear g
      replace h : EV F f 63 z63 133 [some (rf 4 (0)), some (rf 1 (i1))] [rf 4 (0)] σ (.inl (some (.inr (.inl w))), σ') := h
      replace h := ei_get h rfl (HS_g4_1 hs)
      obtain ⟨f, g, h⟩ := h
      clear g
      replace h : EV F f 63 z63 136 [some (rf 4 (0)), some (rf 1 (i1))] [rf 2 (0)] σ (.inl (some (.inr (.inl w))), σ') := h
      replace h := ei_p h rfl rfl rfl rfl
      obtain ⟨f, g, h⟩ := h
      clear g
      replace h : EV F f 63 z63 137 [some (rf 4 (0)), some (rf 1 (i1))] [rf 1 (i1), rf 2 (0)] σ (.inl (some (.inr (.inl w))), σ') := h
      replace h := ei_get h rfl rfl
      obtain ⟨f, g, h⟩ := h
      clear g
      replace h : EV F f 63 z63 140 [some (rf 4 (0)), some (rf 1 (i1))] [.inl (m_i σ 1 (i1) 1), rf 2 (0)] σ (.inl (some (.inr (.inl w))), σ') := h
      replace h := bk_0 (ei_v (as := [.inl (m_i σ 1 (i1) 1)]) h rfl rfl rfl) rfl z34_at rfl
      obtain ⟨σ18, r19, f, g, h⟩ := h
      clear g
      have p20 := x34 hs r19
      have hsσ18 : HS σ18 := HS_run rfl r19 hs
      refine ⟨σ18, fw_run W34 rfl r19, p20, ?_⟩
      replace h : EV F f 63 z63 143 [some (rf 4 (0)), some (rf 1 (i1))] [] σ18 (.inl (some (.inr (.inl w))), σ') := h
      replace h := ei_p h rfl rfl rfl rfl
      obtain ⟨f, g, h⟩ := h
      clear g
      replace h : EV F f 63 z63 144 [some (rf 4 (0)), some (rf 1 (i1))] [.inr (.inl (Int64.ofNat 0))] σ18 (.inl (some (.inr (.inl w))), σ') := h
      have e := ei_lret h rfl
      cases e
      exact ⟨rfl, rfl⟩
    · skip
      cases ho
      replace e4 : (m_i σ 1 (i1) 0).toInt = 13 := e4
      refine Or.inr (Or.inr (Or.inr (Or.inr (Or.inr (Or.inr (Or.inr (Or.inr (Or.inr (Or.inr (Or.inr (Or.inr (Or.inr (Or.inr (Or.inl ⟨e4, ?_⟩))))))))))))))
      clear g
      replace h : EV F f 63 z63 145 [some (rf 4 (0)), some (rf 1 (i1))] [] σ (.inl (some (.inr (.inl w))), σ') := h
      replace h := ei_p h rfl rfl rfl rfl
      obtain ⟨f, g, h⟩ := h
      clear g
      replace h : EV F f 63 z63 146 [some (rf 4 (0)), some (rf 1 (i1))] [rf 4 (0)] σ (.inl (some (.inr (.inl w))), σ') := h
      replace h := ei_get h rfl (HS_g4_1 hs)
      obtain ⟨f, g, h⟩ := h
      clear g
      replace h : EV F f 63 z63 149 [some (rf 4 (0)), some (rf 1 (i1))] [rf 2 (0)] σ (.inl (some (.inr (.inl w))), σ') := h
      replace h := ei_p h rfl rfl rfl rfl
      obtain ⟨f, g, h⟩ := h
      clear g
      replace h : EV F f 63 z63 150 [some (rf 4 (0)), some (rf 1 (i1))] [rf 1 (i1), rf 2 (0)] σ (.inl (some (.inr (.inl w))), σ') := h
      replace h := ei_get h rfl rfl
      obtain ⟨f, g, h⟩ := h
      clear g
      replace h : EV F f 63 z63 153 [some (rf 4 (0)), some (rf 1 (i1))] [.inl (m_i σ 1 (i1) 1), rf 2 (0)] σ (.inl (some (.inr (.inl w))), σ') := h
      replace h := ei_p h rfl rfl rfl rfl
      obtain ⟨f, g, h⟩ := h
      clear g
      replace h : EV F f 63 z63 154 [some (rf 4 (0)), some (rf 1 (i1))] [rf 1 (i1), .inl (m_i σ 1 (i1) 1), rf 2 (0)] σ (.inl (some (.inr (.inl w))), σ') := h
      replace h := ei_get h rfl rfl
      obtain ⟨f, g, h⟩ := h
      clear g
      replace h : EV F f 63 z63 157 [some (rf 4 (0)), some (rf 1 (i1))] [.inl (m_i σ 1 (i1) 2), .inl (m_i σ 1 (i1) 1), rf 2 (0)] σ (.inl (some (.inr (.inl w))), σ') := h
      replace h := ei_p h rfl rfl rfl rfl
      obtain ⟨f, g, h⟩ := h
      clear g
      replace h : EV F f 63 z63 158 [some (rf 4 (0)), some (rf 1 (i1))] [rf 1 (i1), .inl (m_i σ 1 (i1) 2), .inl (m_i σ 1 (i1) 1), rf 2 (0)] σ (.inl (some (.inr (.inl w))), σ') := h
      replace h := ei_get h rfl rfl
      obtain ⟨f, g, h⟩ := h
      clear g
      replace h : EV F f 63 z63 161 [some (rf 4 (0)), some (rf 1 (i1))] [.inl (m_i σ 1 (i1) 3), .inl (m_i σ 1 (i1) 2), .inl (m_i σ 1 (i1) 1), rf 2 (0)] σ (.inl (some (.inr (.inl w))), σ') := h
      replace h := bk_I (ei_v (as := [.inl (m_i σ 1 (i1) 3), .inl (m_i σ 1 (i1) 2), .inl (m_i σ 1 (i1) 1)]) h rfl rfl rfl) rfl z31_at (Or.inl rfl)
      obtain ⟨v21, σ22, r23, f, g, h⟩ := h
      clear g
      have p24 := x31 hs r23
      have hsσ22 : HS σ22 := HS_run rfl r23 hs
      refine ⟨v21, σ22, fw_run W31 rfl r23, p24, ?_⟩
      replace h : EV F f 63 z63 164 [some (rf 4 (0)), some (rf 1 (i1))] [.inl (v21)] σ22 (.inl (some (.inr (.inl w))), σ') := h
      replace h := ei_p h rfl rfl rfl rfl
      obtain ⟨f, g, h⟩ := h
      clear g
      replace h : EV F f 63 z63 165 [some (rf 4 (0)), some (rf 1 (i1))] [.inr (.inl ((v21).toInt64))] σ22 (.inl (some (.inr (.inl w))), σ') := h
      have e := ei_lret h rfl
      cases e
      exact ⟨rfl, rfl⟩
    · skip
      cases ho
      replace e4 : (m_i σ 1 (i1) 0).toInt = 14 := e4
      refine Or.inr (Or.inr (Or.inr (Or.inr (Or.inr (Or.inr (Or.inr (Or.inr (Or.inr (Or.inr (Or.inr (Or.inr (Or.inr (Or.inr (Or.inr (Or.inl ⟨e4, ?_⟩)))))))))))))))
      clear g
      replace h : EV F f 63 z63 186 [some (rf 4 (0)), some (rf 1 (i1))] [] σ (.inl (some (.inr (.inl w))), σ') := h
      exact j63_186 hs h
    · skip
      cases ho
      replace e4 : (m_i σ 1 (i1) 0).toInt = 15 := e4
      refine Or.inr (Or.inr (Or.inr (Or.inr (Or.inr (Or.inr (Or.inr (Or.inr (Or.inr (Or.inr (Or.inr (Or.inr (Or.inr (Or.inr (Or.inr (Or.inr (⟨e4, ?_⟩))))))))))))))))
      clear g
      replace h : EV F f 63 z63 166 [some (rf 4 (0)), some (rf 1 (i1))] [] σ (.inl (some (.inr (.inl w))), σ') := h
      replace h := ei_p h rfl rfl rfl rfl
      obtain ⟨f, g, h⟩ := h
      clear g
      replace h : EV F f 63 z63 167 [some (rf 4 (0)), some (rf 1 (i1))] [rf 4 (0)] σ (.inl (some (.inr (.inl w))), σ') := h
      replace h := ei_get h rfl (HS_g4_1 hs)
      obtain ⟨f, g, h⟩ := h
      clear g
      replace h : EV F f 63 z63 170 [some (rf 4 (0)), some (rf 1 (i1))] [rf 2 (0)] σ (.inl (some (.inr (.inl w))), σ') := h
      replace h := ei_p h rfl rfl rfl rfl
      obtain ⟨f, g, h⟩ := h
      clear g
      replace h : EV F f 63 z63 171 [some (rf 4 (0)), some (rf 1 (i1))] [rf 1 (i1), rf 2 (0)] σ (.inl (some (.inr (.inl w))), σ') := h
      replace h := ei_get h rfl rfl
      obtain ⟨f, g, h⟩ := h
      clear g
      replace h : EV F f 63 z63 174 [some (rf 4 (0)), some (rf 1 (i1))] [.inl (m_i σ 1 (i1) 1), rf 2 (0)] σ (.inl (some (.inr (.inl w))), σ') := h
      replace h := ei_p h rfl rfl rfl rfl
      obtain ⟨f, g, h⟩ := h
      clear g
      replace h : EV F f 63 z63 175 [some (rf 4 (0)), some (rf 1 (i1))] [rf 1 (i1), .inl (m_i σ 1 (i1) 1), rf 2 (0)] σ (.inl (some (.inr (.inl w))), σ') := h
      replace h := ei_get h rfl rfl
      obtain ⟨f, g, h⟩ := h
      clear g
      replace h : EV F f 63 z63 178 [some (rf 4 (0)), some (rf 1 (i1))] [.inl (m_i σ 1 (i1) 2), .inl (m_i σ 1 (i1) 1), rf 2 (0)] σ (.inl (some (.inr (.inl w))), σ') := h
      replace h := ei_p h rfl rfl rfl rfl
      obtain ⟨f, g, h⟩ := h
      clear g
      replace h : EV F f 63 z63 179 [some (rf 4 (0)), some (rf 1 (i1))] [rf 1 (i1), .inl (m_i σ 1 (i1) 2), .inl (m_i σ 1 (i1) 1), rf 2 (0)] σ (.inl (some (.inr (.inl w))), σ') := h
      replace h := ei_get h rfl rfl
      obtain ⟨f, g, h⟩ := h
      clear g
      replace h : EV F f 63 z63 182 [some (rf 4 (0)), some (rf 1 (i1))] [.inl (m_i σ 1 (i1) 3), .inl (m_i σ 1 (i1) 2), .inl (m_i σ 1 (i1) 1), rf 2 (0)] σ (.inl (some (.inr (.inl w))), σ') := h
      replace h := bk_L (ei_v (as := [.inl (m_i σ 1 (i1) 3), .inl (m_i σ 1 (i1) 2), .inl (m_i σ 1 (i1) 1)]) h rfl rfl rfl) rfl z45_at rfl
      obtain ⟨v25, σ26, r27, f, g, h⟩ := h
      clear g
      have p28 := x45 hs r27
      have hsσ26 : HS σ26 := HS_run rfl r27 hs
      refine ⟨v25, σ26, fw_run W45 rfl r27, p28, ?_⟩
      replace h : EV F f 63 z63 185 [some (rf 4 (0)), some (rf 1 (i1))] [.inr (.inl (v25))] σ26 (.inl (some (.inr (.inl w))), σ') := h
      have e := ei_lret h rfl
      cases e
      exact ⟨rfl, rfl⟩
    · cases ho
def z69 : mAl := ((yX4_wakeStops, cX4_wakeStops, 5, none, { frames := 4, cells := 0, slots := 0, locals := 113 }, []), rw_X4_wakeStops, false)
theorem z69_at : m_alF[69]? = some z69 := rfl
abbrev L69 : List (Nat × Nat) := [(0, 2), (2, 5), (6, 2), (6, 5), (7, 6), (7, 7), (7, 9), (7, 10), (7, 11), (7, 12), (8, 1), (8, 2), (8, 3), (8, 7), (10, 0), (10, 1), (10, 2), (10, 3), (10, 4), (10, 5), (10, 6), (10, 7), (10, 8), (10, 9), (14, 0)]
abbrev w69 : Nat → Nat → Bool := wl L69
def S69 : List Nat := [5, 6, 12, 16, 22, 24, 28, 32, 66, 67, 68, 69, 91, 95, 100, 102, 103, 104, 105, 106, 112, 113, 114]
theorem W69 : fw_S w69 S69 = true := by decide +kernel
abbrev B69_69 (c1 : Int32) (ih : Int32 → mS → mS → Prop) (u3 : Int32) (τ : mS) (σ' : mS) : Prop := (((c1).toInt ≤ (u3).toInt ∧ σ' = τ) ∨ (¬ ((c1).toInt ≤ (u3).toInt) ∧ (0 ≤ (u3).toInt ∧ (u3).toInt < 3) ∧ ∃ σ4, σ4 = m_set τ 8 ((u3).toNatClampNeg) (7) (.inl (Int32.ofInt 0)) ∧ ih ((u3) + Int32.ofInt 1) σ4 σ'))
def Q69_69 (c1 : Int32) : Nat → Int32 → mS → mS → Prop
  | 0 => fun _ _ _ => False
  | n + 1 => B69_69 c1 (Q69_69 c1 n)
theorem q69_69 {F : Nat} {σ' : mS} {c1 : Int32} : ∀ N f, f < N → ∀ (u3 : Int32) (y0 : Option mV) (y4 : Option mV) (τ : mS), HS τ → EV F f 69 z69 69 [y0, some (rf 18 (0)), some (.inl (c1)), some (.inl (u3)), y4] [] τ (.inl none, σ') → Q69_69 c1 N u3 τ σ' := by
  intro N
  induction N with
  | zero => intro f hf; omega
  | succ N IH =>
    intro f hf0 u3 y0 y4 τ hsτ h
    have hf : f < N + 1 := hf0
    clear hf0
    show B69_69 c1 (Q69_69 c1 N) u3 τ σ'
    replace h := ei_p h rfl rfl rfl rfl
    obtain ⟨f, g, h⟩ := h
    replace hf := Nat.lt_of_lt_of_le g (Nat.le_of_lt_succ hf)
    clear g
    replace h : EV F f 69 z69 70 [y0, some (rf 18 (0)), some (.inl (c1)), some (.inl (u3)), y4] [.inl (u3)] τ (.inl none, σ') := h
    replace h := ei_p h rfl rfl rfl rfl
    obtain ⟨f, g, h⟩ := h
    replace hf := Nat.lt_trans g hf
    clear g
    replace h : EV F f 69 z69 71 [y0, some (rf 18 (0)), some (.inl (c1)), some (.inl (u3)), y4] [.inl (c1), .inl (u3)] τ (.inl none, σ') := h
    replace h := ei_c h rfl rfl rfl
    rcases h with ⟨hp1, f, g, h⟩ | ⟨hp1, f, g, h⟩
    · skip
      replace hp1 : (c1).toInt ≤ (u3).toInt := ic_ge.mp hp1
      refine Or.inl ⟨hp1, ?_⟩
      replace hf := Nat.lt_trans g hf
      clear g
      replace h : EV F f 69 z69 91 [y0, some (rf 18 (0)), some (.inl (c1)), some (.inl (u3)), y4] [] τ (.inl none, σ') := h
      have e := ei_ret h rfl
      cases e
      exact rfl
    · skip
      replace hp1 : ¬ ((c1).toInt ≤ (u3).toInt) := (not_congr ic_ge).mp hp1
      refine Or.inr ⟨hp1, ?_⟩
      replace hf := Nat.lt_trans g hf
      clear g
      replace h : EV F f 69 z69 74 [y0, some (rf 18 (0)), some (.inl (c1)), some (.inl (u3)), y4] [] τ (.inl none, σ') := h
      replace h := ei_p h rfl rfl rfl rfl
      obtain ⟨f, g, h⟩ := h
      replace hf := Nat.lt_trans g hf
      clear g
      replace h : EV F f 69 z69 75 [y0, some (rf 18 (0)), some (.inl (c1)), some (.inl (u3)), y4] [rf 18 (0)] τ (.inl none, σ') := h
      replace h := ei_p h rfl rfl rfl rfl
      obtain ⟨f, g, h⟩ := h
      replace hf := Nat.lt_trans g hf
      clear g
      replace h : EV F f 69 z69 76 [y0, some (rf 18 (0)), some (.inl (c1)), some (.inl (u3)), y4] [.inl (u3), rf 18 (0)] τ (.inl none, σ') := h
      replace h := ei_ald h rfl (HS_a18 hsτ)
      obtain ⟨vp2, f, g, h⟩ := h
      replace hf := Nat.lt_trans g hf
      clear g
      replace h : EV F f 69 z69 77 [y0, some (rf 18 (0)), some (.inl (c1)), some (.inl (u3)), y4] [rf 8 ((u3).toNatClampNeg)] τ (.inl none, σ') := h
      refine ⟨HS_v18 hsτ vp2, ?_⟩
      replace h := ei_p h rfl rfl rfl rfl
      obtain ⟨f, g, h⟩ := h
      replace hf := Nat.lt_trans g hf
      clear g
      replace h : EV F f 69 z69 79 [y0, some (rf 18 (0)), some (.inl (c1)), some (.inl (u3)), some (rf 8 ((u3).toNatClampNeg))] [] τ (.inl none, σ') := h
      replace h := ei_p h rfl rfl rfl rfl
      obtain ⟨f, g, h⟩ := h
      replace hf := Nat.lt_trans g hf
      clear g
      replace h : EV F f 69 z69 81 [y0, some (rf 18 (0)), some (.inl (c1)), some (.inl (u3)), some (rf 8 ((u3).toNatClampNeg))] [rf 8 ((u3).toNatClampNeg)] τ (.inl none, σ') := h
      replace h := ei_p h rfl rfl rfl rfl
      obtain ⟨f, g, h⟩ := h
      replace hf := Nat.lt_trans g hf
      clear g
      replace h : EV F f 69 z69 82 [y0, some (rf 18 (0)), some (.inl (c1)), some (.inl (u3)), some (rf 8 ((u3).toNatClampNeg))] [.inl (Int32.ofInt 0), rf 8 ((u3).toNatClampNeg)] τ (.inl none, σ') := h
      replace h := ei_put h rfl
      obtain ⟨ht3, f, g, h⟩ := h
      replace hf := Nat.lt_trans g hf
      clear g
      obtain ⟨σ4, e5⟩ : ∃ s, s = m_set τ 8 ((u3).toNatClampNeg) (7) (.inl (Int32.ofInt 0)) := ⟨_, rfl⟩
      rw [← e5] at h
      have hsσ4 : HS σ4 := by rw [e5]; exact HS_set hsτ rfl
      refine ⟨σ4, e5, ?_⟩
      replace h : EV F f 69 z69 85 [y0, some (rf 18 (0)), some (.inl (c1)), some (.inl (u3)), some (rf 8 ((u3).toNatClampNeg))] [] σ4 (.inl none, σ') := h
      replace h := ei_p h rfl rfl rfl rfl
      obtain ⟨f, g, h⟩ := h
      replace hf := Nat.lt_trans g hf
      clear g
      replace h : EV F f 69 z69 88 [y0, some (rf 18 (0)), some (.inl (c1)), some (.inl ((u3) + Int32.ofInt 1)), some (rf 8 ((u3).toNatClampNeg))] [] σ4 (.inl none, σ') := h
      replace h := ei_p h rfl rfl rfl rfl
      obtain ⟨f, g, h⟩ := h
      replace hf := Nat.lt_trans g hf
      clear g
      replace h : EV F f 69 z69 69 [y0, some (rf 18 (0)), some (.inl (c1)), some (.inl ((u3) + Int32.ofInt 1)), some (rf 8 ((u3).toNatClampNeg))] [] σ4 (.inl none, σ') := h
      exact IH f hf ((u3) + Int32.ofInt 1) y0 (some (rf 8 ((u3).toNatClampNeg))) σ4 hsσ4 h
def J69_56 (τ : mS) (σ' : mS) : Prop := ∃ n, Q69_69 (Int32.ofInt 3) n (Int32.ofInt 0) τ σ'
theorem j69_56 {F f : Nat} {σ' τ : mS} {y1 : Option mV} {y2 : Option mV} {y3 : Option mV} {y4 : Option mV} (hsτ : HS τ) (h : EV F f 69 z69 56 [some (rf 4 (0)), y1, y2, y3, y4] [] τ (.inl none, σ')) : J69_56 τ σ' := by
  unfold J69_56
  replace h := ei_p h rfl rfl rfl rfl
  obtain ⟨f, g, h⟩ := h
  clear g
  replace h : EV F f 69 z69 57 [some (rf 4 (0)), y1, y2, y3, y4] [rf 4 (0)] τ (.inl none, σ') := h
  replace h := ei_get h rfl (HS_g4_1 hsτ)
  obtain ⟨f, g, h⟩ := h
  clear g
  replace h : EV F f 69 z69 60 [some (rf 4 (0)), y1, y2, y3, y4] [rf 2 (0)] τ (.inl none, σ') := h
  replace h := ei_get h rfl (HS_g2_2 hsτ)
  obtain ⟨f, g, h⟩ := h
  clear g
  replace h : EV F f 69 z69 63 [some (rf 4 (0)), y1, y2, y3, y4] [rf 18 (0)] τ (.inl none, σ') := h
  replace h := ei_p h rfl rfl rfl rfl
  obtain ⟨f, g, h⟩ := h
  clear g
  replace h : EV F f 69 z69 64 [some (rf 4 (0)), some (rf 18 (0)), y2, y3, y4] [] τ (.inl none, σ') := h
  replace h := ei_p h rfl rfl rfl rfl
  obtain ⟨f, g, h⟩ := h
  clear g
  replace h : EV F f 69 z69 65 [some (rf 4 (0)), some (rf 18 (0)), y2, y3, y4] [rf 18 (0)] τ (.inl none, σ') := h
  replace h := ei_len h rfl (HS_l18_0 hsτ) ⟨Nat.le_of_ble_eq_true rfl, Nat.le_of_ble_eq_true rfl⟩
  obtain ⟨f, g, h⟩ := h
  clear g
  replace h : EV F f 69 z69 66 [some (rf 4 (0)), some (rf 18 (0)), y2, y3, y4] [.inl (Int32.ofInt 3)] τ (.inl none, σ') := h
  replace h := ei_p h rfl rfl rfl rfl
  obtain ⟨f, g, h⟩ := h
  clear g
  replace h : EV F f 69 z69 67 [some (rf 4 (0)), some (rf 18 (0)), some (.inl (Int32.ofInt 3)), y3, y4] [] τ (.inl none, σ') := h
  replace h := ei_p h rfl rfl rfl rfl
  obtain ⟨f, g, h⟩ := h
  clear g
  replace h : EV F f 69 z69 68 [some (rf 4 (0)), some (rf 18 (0)), some (.inl (Int32.ofInt 3)), y3, y4] [.inl (Int32.ofInt 0)] τ (.inl none, σ') := h
  replace h := ei_p h rfl rfl rfl rfl
  obtain ⟨f, g, h⟩ := h
  clear g
  replace h : EV F f 69 z69 69 [some (rf 4 (0)), some (rf 18 (0)), some (.inl (Int32.ofInt 3)), some (.inl (Int32.ofInt 0)), y4] [] τ (.inl none, σ') := h
  exact ⟨f + 1, q69_69 (f + 1) f (Nat.lt_succ_self f) (Int32.ofInt 0) _ _ τ hsτ h⟩
abbrev B69_2 (ih : Int32 → mS → mS → Prop) (u1 : Int32) (τ : mS) (σ' : mS) : Prop := (((1000 : Int) ≤ (u1).toInt ∧ J69_56 τ σ') ∨ (¬ ((1000 : Int) ≤ (u1).toInt) ∧ ∃ v2, P16 τ v2 ∧ ((v2 = none ∧ J69_56 τ σ') ∨ (∃ q7, v2 = some q7 ∧ ∃ i10, (some q7 : mR) = some (7, i10) ∧ ∃ σ13, σ13 = m_set τ 7 (i10) (9) (.inl (Int32.ofInt 3)) ∧ ∃ σ16, σ16 = m_set σ13 7 (i10) (10) (.inl (m_i σ13 2 (0) 7)) ∧ ∃ σ19, fw_e w66 σ16 σ19 ∧ P66 σ16 (some (7, i10)) (Int32.ofInt 1) σ19 ∧ ih ((u1) + Int32.ofInt 1) σ19 σ'))))
def Q69_2 : Nat → Int32 → mS → mS → Prop
  | 0 => fun _ _ _ => False
  | n + 1 => B69_2  (Q69_2  n)
theorem q69_2 {F : Nat} {σ' : mS} : ∀ N f, f < N → ∀ (u1 : Int32) (y2 : Option mV) (y3 : Option mV) (y4 : Option mV) (τ : mS), HS τ → EV F f 69 z69 2 [some (rf 4 (0)), some (.inl (u1)), y2, y3, y4] [] τ (.inl none, σ') → Q69_2  N u1 τ σ' := by
  intro N
  induction N with
  | zero => intro f hf; omega
  | succ N IH =>
    intro f hf0 u1 y2 y3 y4 τ hsτ h
    have hf : f < N + 1 := hf0
    clear hf0
    show B69_2  (Q69_2  N) u1 τ σ'
    replace h := ei_p h rfl rfl rfl rfl
    obtain ⟨f, g, h⟩ := h
    replace hf := Nat.lt_of_lt_of_le g (Nat.le_of_lt_succ hf)
    clear g
    replace h : EV F f 69 z69 3 [some (rf 4 (0)), some (.inl (u1)), y2, y3, y4] [.inl (u1)] τ (.inl none, σ') := h
    replace h := ei_p h rfl rfl rfl rfl
    obtain ⟨f, g, h⟩ := h
    replace hf := Nat.lt_trans g hf
    clear g
    replace h : EV F f 69 z69 6 [some (rf 4 (0)), some (.inl (u1)), y2, y3, y4] [.inl (Int32.ofInt 1000), .inl (u1)] τ (.inl none, σ') := h
    replace h := ei_c h rfl rfl rfl
    rcases h with ⟨hp1, f, g, h⟩ | ⟨hp1, f, g, h⟩
    · skip
      replace hp1 : (1000 : Int) ≤ (u1).toInt := ic_ge.mp hp1
      refine Or.inl ⟨hp1, ?_⟩
      replace hf := Nat.lt_trans g hf
      clear g
      replace h : EV F f 69 z69 56 [some (rf 4 (0)), some (.inl (u1)), y2, y3, y4] [] τ (.inl none, σ') := h
      exact j69_56 hsτ h
    · skip
      replace hp1 : ¬ ((1000 : Int) ≤ (u1).toInt) := (not_congr ic_ge).mp hp1
      refine Or.inr ⟨hp1, ?_⟩
      replace hf := Nat.lt_trans g hf
      clear g
      replace h : EV F f 69 z69 9 [some (rf 4 (0)), some (.inl (u1)), y2, y3, y4] [] τ (.inl none, σ') := h
      replace h := ei_p h rfl rfl rfl rfl
      obtain ⟨f, g, h⟩ := h
      replace hf := Nat.lt_trans g hf
      clear g
      replace h : EV F f 69 z69 10 [some (rf 4 (0)), some (.inl (u1)), y2, y3, y4] [rf 4 (0)] τ (.inl none, σ') := h
      replace h := ei_get h rfl (HS_g4_0 hsτ)
      obtain ⟨f, g, h⟩ := h
      replace hf := Nat.lt_trans g hf
      clear g
      replace h : EV F f 69 z69 13 [some (rf 4 (0)), some (.inl (u1)), y2, y3, y4] [rf 0 (0)] τ (.inl none, σ') := h
      replace h := ei_p h rfl rfl rfl rfl
      obtain ⟨f, g, h⟩ := h
      replace hf := Nat.lt_trans g hf
      clear g
      replace h : EV F f 69 z69 14 [some (rf 4 (0)), some (.inl (u1)), y2, y3, y4] [rf 4 (0), rf 0 (0)] τ (.inl none, σ') := h
      replace h := ei_get h rfl (HS_g4_1 hsτ)
      obtain ⟨f, g, h⟩ := h
      replace hf := Nat.lt_trans g hf
      clear g
      replace h : EV F f 69 z69 17 [some (rf 4 (0)), some (.inl (u1)), y2, y3, y4] [rf 2 (0), rf 0 (0)] τ (.inl none, σ') := h
      replace h := bk_R (ei_v (as := [rf 2 (0)]) h rfl rfl rfl) rfl z16_at rfl
      obtain ⟨v2, σ3, r4, f, g, h⟩ := h
      replace hf := Nat.lt_trans g hf
      clear g
      have er4 := ro_run rfl r4
      rw [er4] at h r4
      have p5 := x16 hsτ r4
      refine ⟨v2, p5, ?_⟩
      replace h : EV F f 69 z69 20 [some (rf 4 (0)), some (.inl (u1)), y2, y3, y4] [.inr (.inr (v2))] τ (.inl none, σ') := h
      replace h := ei_p h rfl rfl rfl rfl
      obtain ⟨f, g, h⟩ := h
      replace hf := Nat.lt_trans g hf
      clear g
      replace h : EV F f 69 z69 21 [some (rf 4 (0)), some (.inl (u1)), some (.inr (.inr (v2))), y3, y4] [] τ (.inl none, σ') := h
      replace h := ei_p h rfl rfl rfl rfl
      obtain ⟨f, g, h⟩ := h
      replace hf := Nat.lt_trans g hf
      clear g
      replace h : EV F f 69 z69 22 [some (rf 4 (0)), some (.inl (u1)), some (.inr (.inr (v2))), y3, y4] [.inr (.inr (v2))] τ (.inl none, σ') := h
      rcases r_cs (v2) with e6 | ⟨q7, e6⟩
      · skip
        rw [e6] at h
        refine Or.inl ⟨e6, ?_⟩
        replace h : EV F f 69 z69 22 [some (rf 4 (0)), some (.inl (u1)), some (.inr (.inr none)), y3, y4] [.inr (.inr none)] τ (.inl none, σ') := h
        replace h := ei_c h rfl rfl rfl
        rcases h with ⟨hp8, f, g, h⟩ | ⟨hp8, f, g, h⟩
        · exact absurd rfl hp8
        · skip
          replace hf := Nat.lt_trans g hf
          clear g
          replace h : EV F f 69 z69 25 [some (rf 4 (0)), some (.inl (u1)), some (.inr (.inr none)), y3, y4] [] τ (.inl none, σ') := h
          replace h := ei_p h rfl rfl rfl rfl
          obtain ⟨f, g, h⟩ := h
          replace hf := Nat.lt_trans g hf
          clear g
          replace h : EV F f 69 z69 56 [some (rf 4 (0)), some (.inl (u1)), some (.inr (.inr none)), y3, y4] [] τ (.inl none, σ') := h
          exact j69_56 hsτ h
      · skip
        rw [e6] at h
        refine Or.inr ⟨q7, e6, ?_⟩
        replace h : EV F f 69 z69 22 [some (rf 4 (0)), some (.inl (u1)), some (.inr (.inr (some q7))), y3, y4] [.inr (.inr (some q7))] τ (.inl none, σ') := h
        replace h := ei_c h rfl rfl rfl
        rcases h with ⟨hp9, f, g, h⟩ | ⟨hp9, f, g, h⟩
        · skip
          replace hf := Nat.lt_trans g hf
          clear g
          replace h : EV F f 69 z69 28 [some (rf 4 (0)), some (.inl (u1)), some (.inr (.inr (some q7))), y3, y4] [] τ (.inl none, σ') := h
          replace h := ei_p h rfl rfl rfl rfl
          obtain ⟨f, g, h⟩ := h
          replace hf := Nat.lt_trans g hf
          clear g
          replace h : EV F f 69 z69 29 [some (rf 4 (0)), some (.inl (u1)), some (.inr (.inr (some q7))), y3, y4] [.inr (.inr (some q7))] τ (.inl none, σ') := h
          replace h := ei_p h rfl rfl rfl rfl
          obtain ⟨f, g, h⟩ := h
          replace hf := Nat.lt_trans g hf
          clear g
          replace h : EV F f 69 z69 30 [some (rf 4 (0)), some (.inl (u1)), some (.inr (.inr (some q7))), y3, y4] [.inl (Int32.ofInt 3), .inr (.inr (some q7))] τ (.inl none, σ') := h
          obtain ⟨i10, e11⟩ := ei_pp h rfl
          rw [Option.some.inj e11] at h
          refine ⟨i10, e11, ?_⟩
          replace h : EV F f 69 z69 30 [some (rf 4 (0)), some (.inl (u1)), some (rf 7 (i10)), y3, y4] [.inl (Int32.ofInt 3), rf 7 (i10)] τ (.inl none, σ') := h
          replace h := ei_put h rfl
          obtain ⟨ht12, f, g, h⟩ := h
          replace hf := Nat.lt_trans g hf
          clear g
          obtain ⟨σ13, e14⟩ : ∃ s, s = m_set τ 7 (i10) (9) (.inl (Int32.ofInt 3)) := ⟨_, rfl⟩
          rw [← e14] at h
          have hsσ13 : HS σ13 := by rw [e14]; exact HS_set hsτ rfl
          refine ⟨σ13, e14, ?_⟩
          replace h : EV F f 69 z69 33 [some (rf 4 (0)), some (.inl (u1)), some (rf 7 (i10)), y3, y4] [] σ13 (.inl none, σ') := h
          replace h := ei_p h rfl rfl rfl rfl
          obtain ⟨f, g, h⟩ := h
          replace hf := Nat.lt_trans g hf
          clear g
          replace h : EV F f 69 z69 34 [some (rf 4 (0)), some (.inl (u1)), some (rf 7 (i10)), y3, y4] [rf 7 (i10)] σ13 (.inl none, σ') := h
          replace h := ei_p h rfl rfl rfl rfl
          obtain ⟨f, g, h⟩ := h
          replace hf := Nat.lt_trans g hf
          clear g
          replace h : EV F f 69 z69 35 [some (rf 4 (0)), some (.inl (u1)), some (rf 7 (i10)), y3, y4] [rf 4 (0), rf 7 (i10)] σ13 (.inl none, σ') := h
          replace h := ei_get h rfl (HS_g4_1 hsσ13)
          obtain ⟨f, g, h⟩ := h
          replace hf := Nat.lt_trans g hf
          clear g
          replace h : EV F f 69 z69 38 [some (rf 4 (0)), some (.inl (u1)), some (rf 7 (i10)), y3, y4] [rf 2 (0), rf 7 (i10)] σ13 (.inl none, σ') := h
          replace h := ei_get h rfl rfl
          obtain ⟨f, g, h⟩ := h
          replace hf := Nat.lt_trans g hf
          clear g
          replace h : EV F f 69 z69 41 [some (rf 4 (0)), some (.inl (u1)), some (rf 7 (i10)), y3, y4] [.inl (m_i σ13 2 (0) 7), rf 7 (i10)] σ13 (.inl none, σ') := h
          replace h := ei_put h rfl
          obtain ⟨ht15, f, g, h⟩ := h
          replace hf := Nat.lt_trans g hf
          clear g
          obtain ⟨σ16, e17⟩ : ∃ s, s = m_set σ13 7 (i10) (10) (.inl (m_i σ13 2 (0) 7)) := ⟨_, rfl⟩
          rw [← e17] at h
          have hsσ16 : HS σ16 := by rw [e17]; exact HS_set hsσ13 rfl
          refine ⟨σ16, e17, ?_⟩
          replace h : EV F f 69 z69 44 [some (rf 4 (0)), some (.inl (u1)), some (rf 7 (i10)), y3, y4] [] σ16 (.inl none, σ') := h
          replace h := ei_p h rfl rfl rfl rfl
          obtain ⟨f, g, h⟩ := h
          replace hf := Nat.lt_trans g hf
          clear g
          replace h : EV F f 69 z69 45 [some (rf 4 (0)), some (.inl (u1)), some (rf 7 (i10)), y3, y4] [rf 4 (0)] σ16 (.inl none, σ') := h
          replace h := ei_p h rfl rfl rfl rfl
          obtain ⟨f, g, h⟩ := h
          replace hf := Nat.lt_trans g hf
          clear g
          replace h : EV F f 69 z69 46 [some (rf 4 (0)), some (.inl (u1)), some (rf 7 (i10)), y3, y4] [rf 7 (i10), rf 4 (0)] σ16 (.inl none, σ') := h
          replace h := ei_p h rfl rfl rfl rfl
          obtain ⟨f, g, h⟩ := h
          replace hf := Nat.lt_trans g hf
          clear g
          replace h : EV F f 69 z69 47 [some (rf 4 (0)), some (.inl (u1)), some (rf 7 (i10)), y3, y4] [.inl (Int32.ofInt 1), rf 7 (i10), rf 4 (0)] σ16 (.inl none, σ') := h
          replace h := bk_0 (ei_v (as := [.inl (Int32.ofInt 1), rf 7 (i10)]) h rfl rfl rfl) rfl z66_at rfl
          obtain ⟨σ19, r20, f, g, h⟩ := h
          replace hf := Nat.lt_trans g hf
          clear g
          have p21 := x66 hsσ16 r20
          have hsσ19 : HS σ19 := HS_run rfl r20 hsσ16
          refine ⟨σ19, fw_run W66 rfl r20, p21, ?_⟩
          replace h : EV F f 69 z69 50 [some (rf 4 (0)), some (.inl (u1)), some (rf 7 (i10)), y3, y4] [] σ19 (.inl none, σ') := h
          replace h := ei_p h rfl rfl rfl rfl
          obtain ⟨f, g, h⟩ := h
          replace hf := Nat.lt_trans g hf
          clear g
          replace h : EV F f 69 z69 53 [some (rf 4 (0)), some (.inl ((u1) + Int32.ofInt 1)), some (rf 7 (i10)), y3, y4] [] σ19 (.inl none, σ') := h
          replace h := ei_p h rfl rfl rfl rfl
          obtain ⟨f, g, h⟩ := h
          replace hf := Nat.lt_trans g hf
          clear g
          replace h : EV F f 69 z69 2 [some (rf 4 (0)), some (.inl ((u1) + Int32.ofInt 1)), some (rf 7 (i10)), y3, y4] [] σ19 (.inl none, σ') := h
          exact IH f hf ((u1) + Int32.ofInt 1) (some (rf 7 (i10))) y3 y4 σ19 hsσ19 h
        · exact absurd (fun z => by cases z) hp9
def P69 (σ : mS) (σ' : mS) : Prop := ∃ n, Q69_2  n (Int32.ofInt 0) σ σ'
theorem x69 {σ σ' : mS} (hs : HS σ) (h : ev_run sm_all 69 [rf 4 (0)] σ (.inl none) σ') : P69 σ σ' := by
  unfold P69
  obtain ⟨F, f, h⟩ := ei_go h z69_at
  replace h : EV F f 69 z69 0 [some (rf 4 (0)), none, none, none, none] [] σ (.inl none, σ') := h
  replace h := ei_p h rfl rfl rfl rfl
  obtain ⟨f, g, h⟩ := h
  clear g
  replace h : EV F f 69 z69 1 [some (rf 4 (0)), none, none, none, none] [.inl (Int32.ofInt 0)] σ (.inl none, σ') := h
  replace h := ei_p h rfl rfl rfl rfl
  obtain ⟨f, g, h⟩ := h
  clear g
  replace h : EV F f 69 z69 2 [some (rf 4 (0)), some (.inl (Int32.ofInt 0)), none, none, none] [] σ (.inl none, σ') := h
  exact ⟨f + 1, q69_2 (f + 1) f (Nat.lt_succ_self f) (Int32.ofInt 0) _ _ _ σ hs h⟩
def z61 : mAl := ((yX4_perform, cX4_perform, 4, (some .long), { frames := 6, cells := 0, slots := 0, locals := 167 }, []), rw_X4_perform, false)
theorem z61_at : m_alF[61]? = some z61 := rfl
abbrev L61 : List (Nat × Nat) := [(0, 1), (0, 2), (2, 5), (2, 6), (2, 7), (2, 8), (2, 9), (2, 10), (6, 2), (6, 3), (6, 4), (6, 5), (6, 6), (6, 7), (6, 8), (6, 9), (6, 10), (7, 1), (7, 2), (7, 3), (7, 4), (7, 5), (7, 6), (7, 7), (7, 8), (7, 9), (7, 10), (7, 11), (7, 12), (8, 1), (8, 2), (8, 3), (8, 4), (8, 5), (8, 6), (8, 7), (8, 8), (10, 0), (10, 1), (10, 2), (10, 3), (10, 4), (10, 5), (10, 6), (10, 7), (10, 8), (10, 9), (13, 0), (14, 0)]
abbrev w61 : Nat → Nat → Bool := wl L61
def S61 : List Nat := [3, 4, 5, 6, 8, 9, 10, 11, 12, 13, 14, 15, 16, 22, 23, 24, 25, 27, 28, 29, 30, 31, 32, 34, 35, 36, 37, 38, 39, 40, 41, 42, 43, 44, 45, 46, 47, 48, 61, 62, 63, 64, 65, 66, 67, 68, 69, 70, 71, 72, 73, 74, 75, 76, 90, 91, 92, 95, 99, 100, 102, 103, 104, 105, 106, 107, 112, 113, 114, 115, 116, 117]
theorem W61 : fw_S w61 S61 = true := by decide +kernel
def J61_179 (u2 : Int64) (τ : mS) (w : Int64) (σ' : mS) : Prop := ∃ σ2, fw_e w69 τ σ2 ∧ P69 τ σ2 ∧ w = (u2) ∧ σ' = σ2
theorem j61_179 {F f : Nat} {σ' τ : mS} {u2 : Int64} {y1 : Option mV} {w : Int64} (hsτ : HS τ) (h : EV F f 61 z61 179 [some (rf 4 (0)), y1, some (.inr (.inl (u2))), none] [] τ (.inl (some (.inr (.inl w))), σ')) : J61_179 u2 τ w σ' := by
  unfold J61_179
  replace h := ei_p h rfl rfl rfl rfl
  obtain ⟨f, g, h⟩ := h
  clear g
  replace h : EV F f 61 z61 180 [some (rf 4 (0)), y1, some (.inr (.inl (u2))), none] [rf 4 (0)] τ (.inl (some (.inr (.inl w))), σ') := h
  replace h := bk_0 (ei_v (as := []) h rfl rfl rfl) rfl z69_at rfl
  obtain ⟨σ2, r3, f, g, h⟩ := h
  clear g
  have p4 := x69 hsτ r3
  have hsσ2 : HS σ2 := HS_run rfl r3 hsτ
  refine ⟨σ2, fw_run W69 rfl r3, p4, ?_⟩
  replace h : EV F f 61 z61 183 [some (rf 4 (0)), y1, some (.inr (.inl (u2))), none] [] σ2 (.inl (some (.inr (.inl w))), σ') := h
  replace h := ei_p h rfl rfl rfl rfl
  obtain ⟨f, g, h⟩ := h
  clear g
  replace h : EV F f 61 z61 184 [some (rf 4 (0)), y1, some (.inr (.inl (u2))), none] [.inr (.inl (u2))] σ2 (.inl (some (.inr (.inl w))), σ') := h
  have e := ei_lret h rfl
  cases e
  exact ⟨rfl, rfl⟩
def J61_173 (u1 : mR) (τ : mS) (w : Int64) (σ' : mS) : Prop := ∃ v1 σ2, fw_e w63 τ σ2 ∧ P63 τ (u1) v1 σ2 ∧ J61_179 (v1) σ2 w σ'
theorem j61_173 {F f : Nat} {σ' τ : mS} {u1 : mR} {y2 : Option mV} {y3 : Option mV} {w : Int64} (hsτ : HS τ) (h : EV F f 61 z61 173 [some (rf 4 (0)), some (.inr (.inr (u1))), y2, y3] [] τ (.inl (some (.inr (.inl w))), σ')) : J61_173 u1 τ w σ' := by
  unfold J61_173
  replace h := ei_p h rfl rfl rfl rfl
  obtain ⟨f, g, h⟩ := h
  clear g
  replace h : EV F f 61 z61 174 [some (rf 4 (0)), some (.inr (.inr (u1))), y2, y3] [rf 4 (0)] τ (.inl (some (.inr (.inl w))), σ') := h
  replace h := ei_p h rfl rfl rfl rfl
  obtain ⟨f, g, h⟩ := h
  clear g
  replace h : EV F f 61 z61 175 [some (rf 4 (0)), some (.inr (.inr (u1))), y2, y3] [.inr (.inr (u1)), rf 4 (0)] τ (.inl (some (.inr (.inl w))), σ') := h
  replace h := bk_L (ei_v (as := [.inr (.inr (u1))]) h rfl rfl rfl) rfl z63_at rfl
  obtain ⟨v1, σ2, r3, f, g, h⟩ := h
  clear g
  have p4 := x63 hsτ r3
  have hsσ2 : HS σ2 := HS_run rfl r3 hsτ
  refine ⟨v1, σ2, fw_run W63 rfl r3, p4, ?_⟩
  replace h : EV F f 61 z61 178 [some (rf 4 (0)), some (.inr (.inr (u1))), y2, y3] [.inr (.inl (v1))] σ2 (.inl (some (.inr (.inl w))), σ') := h
  replace h := ei_p h rfl rfl rfl rfl
  obtain ⟨f, g, h⟩ := h
  clear g
  replace h : EV F f 61 z61 179 [some (rf 4 (0)), some (.inr (.inr (u1))), some (.inr (.inl (v1))), none] [] σ2 (.inl (some (.inr (.inl w))), σ') := h
  exact j61_179 hsσ2 h
def J61_151 (u1 : mR) (τ : mS) (w : Int64) (σ' : mS) : Prop := ∃ v1 σ2, fw_e w62 τ σ2 ∧ P62 τ (u1) v1 σ2 ∧ J61_179 (v1) σ2 w σ'
theorem j61_151 {F f : Nat} {σ' τ : mS} {u1 : mR} {y2 : Option mV} {y3 : Option mV} {w : Int64} (hsτ : HS τ) (h : EV F f 61 z61 151 [some (rf 4 (0)), some (.inr (.inr (u1))), y2, y3] [] τ (.inl (some (.inr (.inl w))), σ')) : J61_151 u1 τ w σ' := by
  unfold J61_151
  replace h := ei_p h rfl rfl rfl rfl
  obtain ⟨f, g, h⟩ := h
  clear g
  replace h : EV F f 61 z61 152 [some (rf 4 (0)), some (.inr (.inr (u1))), y2, y3] [rf 4 (0)] τ (.inl (some (.inr (.inl w))), σ') := h
  replace h := ei_p h rfl rfl rfl rfl
  obtain ⟨f, g, h⟩ := h
  clear g
  replace h : EV F f 61 z61 153 [some (rf 4 (0)), some (.inr (.inr (u1))), y2, y3] [.inr (.inr (u1)), rf 4 (0)] τ (.inl (some (.inr (.inl w))), σ') := h
  replace h := bk_L (ei_v (as := [.inr (.inr (u1))]) h rfl rfl rfl) rfl z62_at rfl
  obtain ⟨v1, σ2, r3, f, g, h⟩ := h
  clear g
  have p4 := x62 hsτ r3
  have hsσ2 : HS σ2 := HS_run rfl r3 hsτ
  refine ⟨v1, σ2, fw_run W62 rfl r3, p4, ?_⟩
  replace h : EV F f 61 z61 156 [some (rf 4 (0)), some (.inr (.inr (u1))), y2, y3] [.inr (.inl (v1))] σ2 (.inl (some (.inr (.inl w))), σ') := h
  replace h := ei_p h rfl rfl rfl rfl
  obtain ⟨f, g, h⟩ := h
  clear g
  replace h : EV F f 61 z61 157 [some (rf 4 (0)), some (.inr (.inr (u1))), some (.inr (.inl (v1))), none] [] σ2 (.inl (some (.inr (.inl w))), σ') := h
  replace h := ei_p h rfl rfl rfl rfl
  obtain ⟨f, g, h⟩ := h
  clear g
  replace h : EV F f 61 z61 179 [some (rf 4 (0)), some (.inr (.inr (u1))), some (.inr (.inl (v1))), none] [] σ2 (.inl (some (.inr (.inl w))), σ') := h
  exact j61_179 hsσ2 h
def P61 (σ : mS) (x1 : mR) (w : Int64) (σ' : mS) : Prop := ∃ i1, x1 = some (1, i1) ∧ ((((m_i σ 1 (i1) 0).toInt < 2 ∨ 14 < (m_i σ 1 (i1) 0).toInt) ∧ J61_173 (some (1, i1)) σ w σ') ∨ ((m_i σ 1 (i1) 0).toInt = 2 ∧ ∃ v5 σ6, fw_e w64 σ σ6 ∧ P64 σ (some (1, i1)) v5 σ6 ∧ J61_179 ((v5).toInt64) σ6 w σ') ∨ ((m_i σ 1 (i1) 0).toInt = 3 ∧ ∃ v9 σ10, fw_e w65 σ σ10 ∧ P65 σ (some (1, i1)) v9 σ10 ∧ J61_179 ((v9).toInt64) σ10 w σ') ∨ ((m_i σ 1 (i1) 0).toInt = 4 ∧ ∃ v13 σ14, fw_e w70 σ σ14 ∧ P70 σ (m_i σ 1 (i1) 1) (m_i σ 1 (i1) 2) v13 σ14 ∧ J61_179 ((v13).toInt64) σ14 w σ') ∨ ((m_i σ 1 (i1) 0).toInt = 5 ∧ ∃ v17 σ18, fw_e w71 σ σ18 ∧ P71 σ (m_i σ 1 (i1) 1) v17 σ18 ∧ J61_179 ((v17).toInt64) σ18 w σ') ∨ ((m_i σ 1 (i1) 0).toInt = 6 ∧ ∃ v21 σ22, fw_e w72 σ σ22 ∧ P72 σ (m_i σ 1 (i1) 1) (m_i σ 1 (i1) 2) (m_i σ 1 (i1) 3) (m_i σ 1 (i1) 4) (m_i σ 1 (i1) 5) v21 σ22 ∧ J61_179 ((v21).toInt64) σ22 w σ') ∨ ((m_i σ 1 (i1) 0).toInt = 7 ∧ J61_151 (some (1, i1)) σ w σ') ∨ ((m_i σ 1 (i1) 0).toInt = 8 ∧ J61_151 (some (1, i1)) σ w σ') ∨ ((m_i σ 1 (i1) 0).toInt = 9 ∧ J61_151 (some (1, i1)) σ w σ') ∨ ((m_i σ 1 (i1) 0).toInt = 10 ∧ J61_151 (some (1, i1)) σ w σ') ∨ ((m_i σ 1 (i1) 0).toInt = 11 ∧ J61_173 (some (1, i1)) σ w σ') ∨ ((m_i σ 1 (i1) 0).toInt = 12 ∧ J61_173 (some (1, i1)) σ w σ') ∨ ((m_i σ 1 (i1) 0).toInt = 13 ∧ J61_173 (some (1, i1)) σ w σ') ∨ ((m_i σ 1 (i1) 0).toInt = 14 ∧ ∃ v25 σ26, fw_e w76 σ σ26 ∧ P76 σ (m_i σ 1 (i1) 1) v25 σ26 ∧ J61_179 ((v25).toInt64) σ26 w σ'))
theorem x61 {σ σ' : mS} {x1 : mR} {w : Int64} (hs : HS σ) (h : ev_run sm_all 61 [rf 4 (0), .inr (.inr (x1))] σ (.inl (some (.inr (.inl w)))) σ') : P61 σ x1 w σ' := by
  unfold P61
  obtain ⟨F, f, h⟩ := ei_go h z61_at
  replace h : EV F f 61 z61 0 [some (rf 4 (0)), some (.inr (.inr (x1))), none, none] [] σ (.inl (some (.inr (.inl w))), σ') := h
  replace h := ei_p h rfl rfl rfl rfl
  obtain ⟨f, g, h⟩ := h
  clear g
  replace h : EV F f 61 z61 1 [some (rf 4 (0)), some (.inr (.inr (x1))), none, none] [.inr (.inr (x1))] σ (.inl (some (.inr (.inl w))), σ') := h
  obtain ⟨i1, e2⟩ := ei_gp h rfl
  rw [e2] at h
  refine ⟨i1, e2, ?_⟩
  replace h : EV F f 61 z61 1 [some (rf 4 (0)), some (rf 1 (i1)), none, none] [rf 1 (i1)] σ (.inl (some (.inr (.inl w))), σ') := h
  replace h := ei_get h rfl rfl
  obtain ⟨f, g, h⟩ := h
  clear g
  replace h : EV F f 61 z61 4 [some (rf 4 (0)), some (rf 1 (i1)), none, none] [.inl (m_i σ 1 (i1) 0)] σ (.inl (some (.inr (.inl w))), σ') := h
  replace h := ei_sw h rfl
  rcases h with ⟨e4, f, g, h⟩ | ⟨m3, e4, o, ho, f, g, h⟩
  · skip
    refine Or.inl ⟨e4, ?_⟩
    clear g
    replace h : EV F f 61 z61 173 [some (rf 4 (0)), some (rf 1 (i1)), none, none] [] σ (.inl (some (.inr (.inl w))), σ') := h
    exact j61_173 hs h
  · skip
    rcases m3 with _ | _ | _ | _ | _ | _ | _ | _ | _ | _ | _ | _ | _ | m3
    · skip
      cases ho
      replace e4 : (m_i σ 1 (i1) 0).toInt = 2 := e4
      refine Or.inr (Or.inl ⟨e4, ?_⟩)
      clear g
      replace h : EV F f 61 z61 72 [some (rf 4 (0)), some (rf 1 (i1)), none, none] [] σ (.inl (some (.inr (.inl w))), σ') := h
      replace h := ei_p h rfl rfl rfl rfl
      obtain ⟨f, g, h⟩ := h
      clear g
      replace h : EV F f 61 z61 73 [some (rf 4 (0)), some (rf 1 (i1)), none, none] [rf 4 (0)] σ (.inl (some (.inr (.inl w))), σ') := h
      replace h := ei_p h rfl rfl rfl rfl
      obtain ⟨f, g, h⟩ := h
      clear g
      replace h : EV F f 61 z61 74 [some (rf 4 (0)), some (rf 1 (i1)), none, none] [rf 1 (i1), rf 4 (0)] σ (.inl (some (.inr (.inl w))), σ') := h
      replace h := bk_I (ei_v (as := [rf 1 (i1)]) h rfl rfl rfl) rfl z64_at (Or.inl rfl)
      obtain ⟨v5, σ6, r7, f, g, h⟩ := h
      clear g
      have p8 := x64 hs r7
      have hsσ6 : HS σ6 := HS_run rfl r7 hs
      refine ⟨v5, σ6, fw_run W64 rfl r7, p8, ?_⟩
      replace h : EV F f 61 z61 77 [some (rf 4 (0)), some (rf 1 (i1)), none, none] [.inl (v5)] σ6 (.inl (some (.inr (.inl w))), σ') := h
      replace h := ei_p h rfl rfl rfl rfl
      obtain ⟨f, g, h⟩ := h
      clear g
      replace h : EV F f 61 z61 78 [some (rf 4 (0)), some (rf 1 (i1)), none, none] [.inr (.inl ((v5).toInt64))] σ6 (.inl (some (.inr (.inl w))), σ') := h
      replace h := ei_p h rfl rfl rfl rfl
      obtain ⟨f, g, h⟩ := h
      clear g
      replace h : EV F f 61 z61 79 [some (rf 4 (0)), some (rf 1 (i1)), some (.inr (.inl ((v5).toInt64))), none] [] σ6 (.inl (some (.inr (.inl w))), σ') := h
      replace h := ei_p h rfl rfl rfl rfl
      obtain ⟨f, g, h⟩ := h
      clear g
      replace h : EV F f 61 z61 179 [some (rf 4 (0)), some (rf 1 (i1)), some (.inr (.inl ((v5).toInt64))), none] [] σ6 (.inl (some (.inr (.inl w))), σ') := h
      exact j61_179 hsσ6 h
    · skip
      cases ho
      replace e4 : (m_i σ 1 (i1) 0).toInt = 3 := e4
      refine Or.inr (Or.inr (Or.inl ⟨e4, ?_⟩))
      clear g
      replace h : EV F f 61 z61 82 [some (rf 4 (0)), some (rf 1 (i1)), none, none] [] σ (.inl (some (.inr (.inl w))), σ') := h
      replace h := ei_p h rfl rfl rfl rfl
      obtain ⟨f, g, h⟩ := h
      clear g
      replace h : EV F f 61 z61 83 [some (rf 4 (0)), some (rf 1 (i1)), none, none] [rf 4 (0)] σ (.inl (some (.inr (.inl w))), σ') := h
      replace h := ei_p h rfl rfl rfl rfl
      obtain ⟨f, g, h⟩ := h
      clear g
      replace h : EV F f 61 z61 84 [some (rf 4 (0)), some (rf 1 (i1)), none, none] [rf 1 (i1), rf 4 (0)] σ (.inl (some (.inr (.inl w))), σ') := h
      replace h := bk_I (ei_v (as := [rf 1 (i1)]) h rfl rfl rfl) rfl z65_at (Or.inl rfl)
      obtain ⟨v9, σ10, r11, f, g, h⟩ := h
      clear g
      have p12 := x65 hs r11
      have hsσ10 : HS σ10 := HS_run rfl r11 hs
      refine ⟨v9, σ10, fw_run W65 rfl r11, p12, ?_⟩
      replace h : EV F f 61 z61 87 [some (rf 4 (0)), some (rf 1 (i1)), none, none] [.inl (v9)] σ10 (.inl (some (.inr (.inl w))), σ') := h
      replace h := ei_p h rfl rfl rfl rfl
      obtain ⟨f, g, h⟩ := h
      clear g
      replace h : EV F f 61 z61 88 [some (rf 4 (0)), some (rf 1 (i1)), none, none] [.inr (.inl ((v9).toInt64))] σ10 (.inl (some (.inr (.inl w))), σ') := h
      replace h := ei_p h rfl rfl rfl rfl
      obtain ⟨f, g, h⟩ := h
      clear g
      replace h : EV F f 61 z61 89 [some (rf 4 (0)), some (rf 1 (i1)), some (.inr (.inl ((v9).toInt64))), none] [] σ10 (.inl (some (.inr (.inl w))), σ') := h
      replace h := ei_p h rfl rfl rfl rfl
      obtain ⟨f, g, h⟩ := h
      clear g
      replace h : EV F f 61 z61 179 [some (rf 4 (0)), some (rf 1 (i1)), some (.inr (.inl ((v9).toInt64))), none] [] σ10 (.inl (some (.inr (.inl w))), σ') := h
      exact j61_179 hsσ10 h
    · skip
      cases ho
      replace e4 : (m_i σ 1 (i1) 0).toInt = 4 := e4
      refine Or.inr (Or.inr (Or.inr (Or.inl ⟨e4, ?_⟩)))
      clear g
      replace h : EV F f 61 z61 92 [some (rf 4 (0)), some (rf 1 (i1)), none, none] [] σ (.inl (some (.inr (.inl w))), σ') := h
      replace h := ei_p h rfl rfl rfl rfl
      obtain ⟨f, g, h⟩ := h
      clear g
      replace h : EV F f 61 z61 93 [some (rf 4 (0)), some (rf 1 (i1)), none, none] [rf 4 (0)] σ (.inl (some (.inr (.inl w))), σ') := h
      replace h := ei_p h rfl rfl rfl rfl
      obtain ⟨f, g, h⟩ := h
      clear g
      replace h : EV F f 61 z61 94 [some (rf 4 (0)), some (rf 1 (i1)), none, none] [rf 1 (i1), rf 4 (0)] σ (.inl (some (.inr (.inl w))), σ') := h
      replace h := ei_get h rfl rfl
      obtain ⟨f, g, h⟩ := h
      clear g
      replace h : EV F f 61 z61 97 [some (rf 4 (0)), some (rf 1 (i1)), none, none] [.inl (m_i σ 1 (i1) 1), rf 4 (0)] σ (.inl (some (.inr (.inl w))), σ') := h
      replace h := ei_p h rfl rfl rfl rfl
      obtain ⟨f, g, h⟩ := h
      clear g
      replace h : EV F f 61 z61 98 [some (rf 4 (0)), some (rf 1 (i1)), none, none] [rf 1 (i1), .inl (m_i σ 1 (i1) 1), rf 4 (0)] σ (.inl (some (.inr (.inl w))), σ') := h
      replace h := ei_get h rfl rfl
      obtain ⟨f, g, h⟩ := h
      clear g
      replace h : EV F f 61 z61 101 [some (rf 4 (0)), some (rf 1 (i1)), none, none] [.inl (m_i σ 1 (i1) 2), .inl (m_i σ 1 (i1) 1), rf 4 (0)] σ (.inl (some (.inr (.inl w))), σ') := h
      replace h := bk_I (ei_v (as := [.inl (m_i σ 1 (i1) 2), .inl (m_i σ 1 (i1) 1)]) h rfl rfl rfl) rfl z70_at (Or.inl rfl)
      obtain ⟨v13, σ14, r15, f, g, h⟩ := h
      clear g
      have p16 := x70 hs r15
      have hsσ14 : HS σ14 := HS_run rfl r15 hs
      refine ⟨v13, σ14, fw_run W70 rfl r15, p16, ?_⟩
      replace h : EV F f 61 z61 104 [some (rf 4 (0)), some (rf 1 (i1)), none, none] [.inl (v13)] σ14 (.inl (some (.inr (.inl w))), σ') := h
      replace h := ei_p h rfl rfl rfl rfl
      obtain ⟨f, g, h⟩ := h
      clear g
      replace h : EV F f 61 z61 105 [some (rf 4 (0)), some (rf 1 (i1)), none, none] [.inr (.inl ((v13).toInt64))] σ14 (.inl (some (.inr (.inl w))), σ') := h
      replace h := ei_p h rfl rfl rfl rfl
      obtain ⟨f, g, h⟩ := h
      clear g
      replace h : EV F f 61 z61 106 [some (rf 4 (0)), some (rf 1 (i1)), some (.inr (.inl ((v13).toInt64))), none] [] σ14 (.inl (some (.inr (.inl w))), σ') := h
      replace h := ei_p h rfl rfl rfl rfl
      obtain ⟨f, g, h⟩ := h
      clear g
      replace h : EV F f 61 z61 179 [some (rf 4 (0)), some (rf 1 (i1)), some (.inr (.inl ((v13).toInt64))), none] [] σ14 (.inl (some (.inr (.inl w))), σ') := h
      exact j61_179 hsσ14 h
    · skip
      cases ho
      replace e4 : (m_i σ 1 (i1) 0).toInt = 5 := e4
      refine Or.inr (Or.inr (Or.inr (Or.inr (Or.inl ⟨e4, ?_⟩))))
      clear g
      replace h : EV F f 61 z61 109 [some (rf 4 (0)), some (rf 1 (i1)), none, none] [] σ (.inl (some (.inr (.inl w))), σ') := h
      replace h := ei_p h rfl rfl rfl rfl
      obtain ⟨f, g, h⟩ := h
      clear g
      replace h : EV F f 61 z61 110 [some (rf 4 (0)), some (rf 1 (i1)), none, none] [rf 4 (0)] σ (.inl (some (.inr (.inl w))), σ') := h
      replace h := ei_p h rfl rfl rfl rfl
      obtain ⟨f, g, h⟩ := h
      clear g
      replace h : EV F f 61 z61 111 [some (rf 4 (0)), some (rf 1 (i1)), none, none] [rf 1 (i1), rf 4 (0)] σ (.inl (some (.inr (.inl w))), σ') := h
      replace h := ei_get h rfl rfl
      obtain ⟨f, g, h⟩ := h
      clear g
      replace h : EV F f 61 z61 114 [some (rf 4 (0)), some (rf 1 (i1)), none, none] [.inl (m_i σ 1 (i1) 1), rf 4 (0)] σ (.inl (some (.inr (.inl w))), σ') := h
      replace h := bk_I (ei_v (as := [.inl (m_i σ 1 (i1) 1)]) h rfl rfl rfl) rfl z71_at (Or.inl rfl)
      obtain ⟨v17, σ18, r19, f, g, h⟩ := h
      clear g
      have p20 := x71 hs r19
      have hsσ18 : HS σ18 := HS_run rfl r19 hs
      refine ⟨v17, σ18, fw_run W71 rfl r19, p20, ?_⟩
      replace h : EV F f 61 z61 117 [some (rf 4 (0)), some (rf 1 (i1)), none, none] [.inl (v17)] σ18 (.inl (some (.inr (.inl w))), σ') := h
      replace h := ei_p h rfl rfl rfl rfl
      obtain ⟨f, g, h⟩ := h
      clear g
      replace h : EV F f 61 z61 118 [some (rf 4 (0)), some (rf 1 (i1)), none, none] [.inr (.inl ((v17).toInt64))] σ18 (.inl (some (.inr (.inl w))), σ') := h
      replace h := ei_p h rfl rfl rfl rfl
      obtain ⟨f, g, h⟩ := h
      clear g
      replace h : EV F f 61 z61 119 [some (rf 4 (0)), some (rf 1 (i1)), some (.inr (.inl ((v17).toInt64))), none] [] σ18 (.inl (some (.inr (.inl w))), σ') := h
      replace h := ei_p h rfl rfl rfl rfl
      obtain ⟨f, g, h⟩ := h
      clear g
      replace h : EV F f 61 z61 179 [some (rf 4 (0)), some (rf 1 (i1)), some (.inr (.inl ((v17).toInt64))), none] [] σ18 (.inl (some (.inr (.inl w))), σ') := h
      exact j61_179 hsσ18 h
    · skip
      cases ho
      replace e4 : (m_i σ 1 (i1) 0).toInt = 6 := e4
      refine Or.inr (Or.inr (Or.inr (Or.inr (Or.inr (Or.inl ⟨e4, ?_⟩)))))
      clear g
      replace h : EV F f 61 z61 122 [some (rf 4 (0)), some (rf 1 (i1)), none, none] [] σ (.inl (some (.inr (.inl w))), σ') := h
      replace h := ei_p h rfl rfl rfl rfl
      obtain ⟨f, g, h⟩ := h
      clear g
      replace h : EV F f 61 z61 123 [some (rf 4 (0)), some (rf 1 (i1)), none, none] [rf 4 (0)] σ (.inl (some (.inr (.inl w))), σ') := h
      replace h := ei_p h rfl rfl rfl rfl
      obtain ⟨f, g, h⟩ := h
      clear g
      replace h : EV F f 61 z61 124 [some (rf 4 (0)), some (rf 1 (i1)), none, none] [rf 1 (i1), rf 4 (0)] σ (.inl (some (.inr (.inl w))), σ') := h
      replace h := ei_get h rfl rfl
      obtain ⟨f, g, h⟩ := h
      clear g
      replace h : EV F f 61 z61 127 [some (rf 4 (0)), some (rf 1 (i1)), none, none] [.inl (m_i σ 1 (i1) 1), rf 4 (0)] σ (.inl (some (.inr (.inl w))), σ') := h
      replace h := ei_p h rfl rfl rfl rfl
      obtain ⟨f, g, h⟩ := h
      clear g
      replace h : EV F f 61 z61 128 [some (rf 4 (0)), some (rf 1 (i1)), none, none] [rf 1 (i1), .inl (m_i σ 1 (i1) 1), rf 4 (0)] σ (.inl (some (.inr (.inl w))), σ') := h
      replace h := ei_get h rfl rfl
      obtain ⟨f, g, h⟩ := h
      clear g
      replace h : EV F f 61 z61 131 [some (rf 4 (0)), some (rf 1 (i1)), none, none] [.inl (m_i σ 1 (i1) 2), .inl (m_i σ 1 (i1) 1), rf 4 (0)] σ (.inl (some (.inr (.inl w))), σ') := h
      replace h := ei_p h rfl rfl rfl rfl
      obtain ⟨f, g, h⟩ := h
      clear g
      replace h : EV F f 61 z61 132 [some (rf 4 (0)), some (rf 1 (i1)), none, none] [rf 1 (i1), .inl (m_i σ 1 (i1) 2), .inl (m_i σ 1 (i1) 1), rf 4 (0)] σ (.inl (some (.inr (.inl w))), σ') := h
      replace h := ei_get h rfl rfl
      obtain ⟨f, g, h⟩ := h
      clear g
      replace h : EV F f 61 z61 135 [some (rf 4 (0)), some (rf 1 (i1)), none, none] [.inl (m_i σ 1 (i1) 3), .inl (m_i σ 1 (i1) 2), .inl (m_i σ 1 (i1) 1), rf 4 (0)] σ (.inl (some (.inr (.inl w))), σ') := h
      replace h := ei_p h rfl rfl rfl rfl
      obtain ⟨f, g, h⟩ := h
      clear g
      replace h : EV F f 61 z61 136 [some (rf 4 (0)), some (rf 1 (i1)), none, none] [rf 1 (i1), .inl (m_i σ 1 (i1) 3), .inl (m_i σ 1 (i1) 2), .inl (m_i σ 1 (i1) 1), rf 4 (0)] σ (.inl (some (.inr (.inl w))), σ') := h
      replace h := ei_get h rfl rfl
      obtain ⟨f, g, h⟩ := h
      clear g
      replace h : EV F f 61 z61 139 [some (rf 4 (0)), some (rf 1 (i1)), none, none] [.inl (m_i σ 1 (i1) 4), .inl (m_i σ 1 (i1) 3), .inl (m_i σ 1 (i1) 2), .inl (m_i σ 1 (i1) 1), rf 4 (0)] σ (.inl (some (.inr (.inl w))), σ') := h
      replace h := ei_p h rfl rfl rfl rfl
      obtain ⟨f, g, h⟩ := h
      clear g
      replace h : EV F f 61 z61 140 [some (rf 4 (0)), some (rf 1 (i1)), none, none] [rf 1 (i1), .inl (m_i σ 1 (i1) 4), .inl (m_i σ 1 (i1) 3), .inl (m_i σ 1 (i1) 2), .inl (m_i σ 1 (i1) 1), rf 4 (0)] σ (.inl (some (.inr (.inl w))), σ') := h
      replace h := ei_get h rfl rfl
      obtain ⟨f, g, h⟩ := h
      clear g
      replace h : EV F f 61 z61 143 [some (rf 4 (0)), some (rf 1 (i1)), none, none] [.inl (m_i σ 1 (i1) 5), .inl (m_i σ 1 (i1) 4), .inl (m_i σ 1 (i1) 3), .inl (m_i σ 1 (i1) 2), .inl (m_i σ 1 (i1) 1), rf 4 (0)] σ (.inl (some (.inr (.inl w))), σ') := h
      replace h := bk_I (ei_v (as := [.inl (m_i σ 1 (i1) 5), .inl (m_i σ 1 (i1) 4), .inl (m_i σ 1 (i1) 3), .inl (m_i σ 1 (i1) 2), .inl (m_i σ 1 (i1) 1)]) h rfl rfl rfl) rfl z72_at (Or.inl rfl)
      obtain ⟨v21, σ22, r23, f, g, h⟩ := h
      clear g
      have p24 := x72 hs r23
      have hsσ22 : HS σ22 := HS_run rfl r23 hs
      refine ⟨v21, σ22, fw_run W72 rfl r23, p24, ?_⟩
      replace h : EV F f 61 z61 146 [some (rf 4 (0)), some (rf 1 (i1)), none, none] [.inl (v21)] σ22 (.inl (some (.inr (.inl w))), σ') := h
      replace h := ei_p h rfl rfl rfl rfl
      obtain ⟨f, g, h⟩ := h
      clear g
      replace h : EV F f 61 z61 147 [some (rf 4 (0)), some (rf 1 (i1)), none, none] [.inr (.inl ((v21).toInt64))] σ22 (.inl (some (.inr (.inl w))), σ') := h
      replace h := ei_p h rfl rfl rfl rfl
      obtain ⟨f, g, h⟩ := h
      clear g
      replace h : EV F f 61 z61 148 [some (rf 4 (0)), some (rf 1 (i1)), some (.inr (.inl ((v21).toInt64))), none] [] σ22 (.inl (some (.inr (.inl w))), σ') := h
      replace h := ei_p h rfl rfl rfl rfl
      obtain ⟨f, g, h⟩ := h
      clear g
      replace h : EV F f 61 z61 179 [some (rf 4 (0)), some (rf 1 (i1)), some (.inr (.inl ((v21).toInt64))), none] [] σ22 (.inl (some (.inr (.inl w))), σ') := h
      exact j61_179 hsσ22 h
    · skip
      cases ho
      replace e4 : (m_i σ 1 (i1) 0).toInt = 7 := e4
      refine Or.inr (Or.inr (Or.inr (Or.inr (Or.inr (Or.inr (Or.inl ⟨e4, ?_⟩))))))
      clear g
      replace h : EV F f 61 z61 151 [some (rf 4 (0)), some (rf 1 (i1)), none, none] [] σ (.inl (some (.inr (.inl w))), σ') := h
      exact j61_151 hs h
    · skip
      cases ho
      replace e4 : (m_i σ 1 (i1) 0).toInt = 8 := e4
      refine Or.inr (Or.inr (Or.inr (Or.inr (Or.inr (Or.inr (Or.inr (Or.inl ⟨e4, ?_⟩)))))))
      clear g
      replace h : EV F f 61 z61 151 [some (rf 4 (0)), some (rf 1 (i1)), none, none] [] σ (.inl (some (.inr (.inl w))), σ') := h
      exact j61_151 hs h
    · skip
      cases ho
      replace e4 : (m_i σ 1 (i1) 0).toInt = 9 := e4
      refine Or.inr (Or.inr (Or.inr (Or.inr (Or.inr (Or.inr (Or.inr (Or.inr (Or.inl ⟨e4, ?_⟩))))))))
      clear g
      replace h : EV F f 61 z61 151 [some (rf 4 (0)), some (rf 1 (i1)), none, none] [] σ (.inl (some (.inr (.inl w))), σ') := h
      exact j61_151 hs h
    · skip
      cases ho
      replace e4 : (m_i σ 1 (i1) 0).toInt = 10 := e4
      refine Or.inr (Or.inr (Or.inr (Or.inr (Or.inr (Or.inr (Or.inr (Or.inr (Or.inr (Or.inl ⟨e4, ?_⟩)))))))))
      clear g
      replace h : EV F f 61 z61 151 [some (rf 4 (0)), some (rf 1 (i1)), none, none] [] σ (.inl (some (.inr (.inl w))), σ') := h
      exact j61_151 hs h
    · skip
      cases ho
      replace e4 : (m_i σ 1 (i1) 0).toInt = 11 := e4
      refine Or.inr (Or.inr (Or.inr (Or.inr (Or.inr (Or.inr (Or.inr (Or.inr (Or.inr (Or.inr (Or.inl ⟨e4, ?_⟩))))))))))
      clear g
      replace h : EV F f 61 z61 173 [some (rf 4 (0)), some (rf 1 (i1)), none, none] [] σ (.inl (some (.inr (.inl w))), σ') := h
      exact j61_173 hs h
    · skip
      cases ho
      replace e4 : (m_i σ 1 (i1) 0).toInt = 12 := e4
      refine Or.inr (Or.inr (Or.inr (Or.inr (Or.inr (Or.inr (Or.inr (Or.inr (Or.inr (Or.inr (Or.inr (Or.inl ⟨e4, ?_⟩)))))))))))
      clear g
      replace h : EV F f 61 z61 173 [some (rf 4 (0)), some (rf 1 (i1)), none, none] [] σ (.inl (some (.inr (.inl w))), σ') := h
      exact j61_173 hs h
    · skip
      cases ho
      replace e4 : (m_i σ 1 (i1) 0).toInt = 13 := e4
      refine Or.inr (Or.inr (Or.inr (Or.inr (Or.inr (Or.inr (Or.inr (Or.inr (Or.inr (Or.inr (Or.inr (Or.inr (Or.inl ⟨e4, ?_⟩))))))))))))
      clear g
      replace h : EV F f 61 z61 173 [some (rf 4 (0)), some (rf 1 (i1)), none, none] [] σ (.inl (some (.inr (.inl w))), σ') := h
      exact j61_173 hs h
    · skip
      cases ho
      replace e4 : (m_i σ 1 (i1) 0).toInt = 14 := e4
      refine Or.inr (Or.inr (Or.inr (Or.inr (Or.inr (Or.inr (Or.inr (Or.inr (Or.inr (Or.inr (Or.inr (Or.inr (Or.inr (⟨e4, ?_⟩)))))))))))))
      clear g
      replace h : EV F f 61 z61 160 [some (rf 4 (0)), some (rf 1 (i1)), none, none] [] σ (.inl (some (.inr (.inl w))), σ') := h
      replace h := ei_p h rfl rfl rfl rfl
      obtain ⟨f, g, h⟩ := h
      clear g
      replace h : EV F f 61 z61 161 [some (rf 4 (0)), some (rf 1 (i1)), none, none] [rf 4 (0)] σ (.inl (some (.inr (.inl w))), σ') := h
      replace h := ei_p h rfl rfl rfl rfl
      obtain ⟨f, g, h⟩ := h
      clear g
      replace h : EV F f 61 z61 162 [some (rf 4 (0)), some (rf 1 (i1)), none, none] [rf 1 (i1), rf 4 (0)] σ (.inl (some (.inr (.inl w))), σ') := h
      replace h := ei_get h rfl rfl
      obtain ⟨f, g, h⟩ := h
      clear g
      replace h : EV F f 61 z61 165 [some (rf 4 (0)), some (rf 1 (i1)), none, none] [.inl (m_i σ 1 (i1) 1), rf 4 (0)] σ (.inl (some (.inr (.inl w))), σ') := h
      replace h := bk_I (ei_v (as := [.inl (m_i σ 1 (i1) 1)]) h rfl rfl rfl) rfl z76_at (Or.inl rfl)
      obtain ⟨v25, σ26, r27, f, g, h⟩ := h
      clear g
      have p28 := x76 hs r27
      have hsσ26 : HS σ26 := HS_run rfl r27 hs
      refine ⟨v25, σ26, fw_run W76 rfl r27, p28, ?_⟩
      replace h : EV F f 61 z61 168 [some (rf 4 (0)), some (rf 1 (i1)), none, none] [.inl (v25)] σ26 (.inl (some (.inr (.inl w))), σ') := h
      replace h := ei_p h rfl rfl rfl rfl
      obtain ⟨f, g, h⟩ := h
      clear g
      replace h : EV F f 61 z61 169 [some (rf 4 (0)), some (rf 1 (i1)), none, none] [.inr (.inl ((v25).toInt64))] σ26 (.inl (some (.inr (.inl w))), σ') := h
      replace h := ei_p h rfl rfl rfl rfl
      obtain ⟨f, g, h⟩ := h
      clear g
      replace h : EV F f 61 z61 170 [some (rf 4 (0)), some (rf 1 (i1)), some (.inr (.inl ((v25).toInt64))), none] [] σ26 (.inl (some (.inr (.inl w))), σ') := h
      replace h := ei_p h rfl rfl rfl rfl
      obtain ⟨f, g, h⟩ := h
      clear g
      replace h : EV F f 61 z61 179 [some (rf 4 (0)), some (rf 1 (i1)), some (.inr (.inl ((v25).toInt64))), none] [] σ26 (.inl (some (.inr (.inl w))), σ') := h
      exact j61_179 hsσ26 h
    · cases ho
abbrev L79 : List (Nat × Nat) := []
abbrev w79 : Nat → Nat → Bool := wl L79
def S79 : List Nat := [79, 80]
theorem W79 : fw_S w79 S79 = true := by decide +kernel
abbrev P79 (σ : mS) (a : Nat) (x1 : Int32) (w : Int32) (σ' : mS) : Prop := ev_run sm_all 79 [rf 5 a, .inl x1] σ (.inl (some (.inl w))) σ'
theorem x79 {σ σ' : mS} {a : Nat} {x1 : Int32} {w : Int32} (_ : HS σ) (h : ev_run sm_all 79 [rf 5 a, .inl x1] σ (.inl (some (.inl w))) σ') : P79 σ a x1 w σ' := h
abbrev L80 : List (Nat × Nat) := []
abbrev w80 : Nat → Nat → Bool := wl L80
def S80 : List Nat := [80]
theorem W80 : fw_S w80 S80 = true := by decide +kernel
abbrev P80 (σ : mS) (a : Nat) (x1 : Int32) (w : Int32) (σ' : mS) : Prop := ev_run sm_all 80 [rf 5 a, .inl x1] σ (.inl (some (.inl w))) σ'
theorem x80 {σ σ' : mS} {a : Nat} {x1 : Int32} {w : Int32} (_ : HS σ) (h : ev_run sm_all 80 [rf 5 a, .inl x1] σ (.inl (some (.inl w))) σ') : P80 σ a x1 w σ' := h
abbrev L81 : List (Nat × Nat) := [(5, 2), (13, 0)]
abbrev w81 : Nat → Nat → Bool := wl L81
def S81 : List Nat := [80, 81, 82, 83]
theorem W81 : fw_S w81 S81 = true := by decide +kernel
abbrev P81 (σ : mS) (a : Nat) (x1 : Int32) (x2 : Int32) (σ' : mS) : Prop := ev_run sm_all 81 [rf 5 a, .inl x1, .inl x2] σ (.inl none) σ'
theorem x81 {σ σ' : mS} {a : Nat} {x1 : Int32} {x2 : Int32} (_ : HS σ) (h : ev_run sm_all 81 [rf 5 a, .inl x1, .inl x2] σ (.inl none) σ') : P81 σ a x1 x2 σ' := h
abbrev L82 : List (Nat × Nat) := [(5, 2), (13, 0)]
abbrev w82 : Nat → Nat → Bool := wl L82
def S82 : List Nat := [82]
theorem W82 : fw_S w82 S82 = true := by decide +kernel
abbrev P82 (σ : mS) (a : Nat) (x1 : Int32) (σ' : mS) : Prop := ev_run sm_all 82 [rf 5 a, .inl x1] σ (.inl none) σ'
theorem x82 {σ σ' : mS} {a : Nat} {x1 : Int32} (_ : HS σ) (h : ev_run sm_all 82 [rf 5 a, .inl x1] σ (.inl none) σ') : P82 σ a x1 σ' := h
abbrev L83 : List (Nat × Nat) := [(5, 2), (13, 0)]
abbrev w83 : Nat → Nat → Bool := wl L83
def S83 : List Nat := [83]
theorem W83 : fw_S w83 S83 = true := by decide +kernel
abbrev P83 (σ : mS) (a : Nat) (x1 : Int32) (σ' : mS) : Prop := ev_run sm_all 83 [rf 5 a, .inl x1] σ (.inl none) σ'
theorem x83 {σ σ' : mS} {a : Nat} {x1 : Int32} (_ : HS σ) (h : ev_run sm_all 83 [rf 5 a, .inl x1] σ (.inl none) σ') : P83 σ a x1 σ' := h
abbrev L84 : List (Nat × Nat) := [(5, 2), (13, 0)]
abbrev w84 : Nat → Nat → Bool := wl L84
def S84 : List Nat := [84]
theorem W84 : fw_S w84 S84 = true := by decide +kernel
abbrev P84 (σ : mS) (a : Nat) (x1 : mR) (σ' : mS) : Prop := ev_run sm_all 84 [rf 5 a, .inr (.inr x1)] σ (.inl none) σ'
theorem x84 {σ σ' : mS} {a : Nat} {x1 : mR} (_ : HS σ) (h : ev_run sm_all 84 [rf 5 a, .inr (.inr x1)] σ (.inl none) σ') : P84 σ a x1 σ' := h
abbrev L87 : List (Nat × Nat) := []
abbrev w87 : Nat → Nat → Bool := wl L87
def S87 : List Nat := [78, 79, 80, 86, 87]
theorem W87 : fw_S w87 S87 = true := by decide +kernel
abbrev P87 (σ : mS) (a : Nat) (x1 : mR) (w : Int32) (σ' : mS) : Prop := ev_run sm_all 87 [rf 5 a, .inr (.inr x1)] σ (.inl (some (.inl w))) σ'
theorem x87 {σ σ' : mS} {a : Nat} {x1 : mR} {w : Int32} (_ : HS σ) (h : ev_run sm_all 87 [rf 5 a, .inr (.inr x1)] σ (.inl (some (.inl w))) σ') : P87 σ a x1 w σ' := h
def z93 : mAl := ((yX6_condition, cX6_condition, 1, (some .int), { frames := 0, cells := 0, slots := 0, locals := 0 }, []), rw_X6_condition, false)
theorem z93_at : m_alF[93]? = some z93 := rfl
def P93 (σ : mS) (a : Nat) (w : Int32) : Prop := (((m_i σ 6 (a) 9).toInt = (0 : Int) ∧ (((m_i σ 6 (a) 7).toInt = (0 : Int) ∧ w = (Int32.ofInt 0)) ∨ (¬ ((m_i σ 6 (a) 7).toInt = (0 : Int)) ∧ w = (Int32.ofInt 1)))) ∨ (¬ ((m_i σ 6 (a) 9).toInt = (0 : Int)) ∧ (((m_i σ 6 (a) 10).toInt = (0 : Int) ∧ w = (Int32.ofInt 2)) ∨ (¬ ((m_i σ 6 (a) 10).toInt = (0 : Int)) ∧ w = (Int32.ofInt 3)))))
theorem x93 {σ σ' : mS} {a : Nat} {w : Int32} (hs : HS σ) (h : ev_run sm_all 93 [rf 6 (a)] σ (.inl (some (.inl w))) σ') : P93 σ a w := by
  unfold P93
  obtain ⟨F, f, h⟩ := ei_go h z93_at
  replace h : EV F f 93 z93 0 [some (rf 6 (a))] [] σ (.inl (some (.inl w)), σ') := h
  replace h := ei_p h rfl rfl rfl rfl
  obtain ⟨f, g, h⟩ := h
  clear g
  replace h : EV F f 93 z93 1 [some (rf 6 (a))] [rf 6 (a)] σ (.inl (some (.inl w)), σ') := h
  replace h := ei_get h rfl rfl
  obtain ⟨f, g, h⟩ := h
  clear g
  replace h : EV F f 93 z93 4 [some (rf 6 (a))] [.inl (m_i σ 6 (a) 9)] σ (.inl (some (.inl w)), σ') := h
  replace h := ei_c h rfl rfl rfl
  rcases h with ⟨hp1, f, g, h⟩ | ⟨hp1, f, g, h⟩
  · skip
    replace hp1 : (m_i σ 6 (a) 9).toInt = (0 : Int) := ic_eq.mp hp1
    refine Or.inl ⟨hp1, ?_⟩
    clear g
    replace h : EV F f 93 z93 20 [some (rf 6 (a))] [] σ (.inl (some (.inl w)), σ') := h
    replace h := ei_p h rfl rfl rfl rfl
    obtain ⟨f, g, h⟩ := h
    clear g
    replace h : EV F f 93 z93 21 [some (rf 6 (a))] [rf 6 (a)] σ (.inl (some (.inl w)), σ') := h
    replace h := ei_get h rfl rfl
    obtain ⟨f, g, h⟩ := h
    clear g
    replace h : EV F f 93 z93 24 [some (rf 6 (a))] [.inl (m_i σ 6 (a) 7)] σ (.inl (some (.inl w)), σ') := h
    replace h := ei_c h rfl rfl rfl
    rcases h with ⟨hp2, f, g, h⟩ | ⟨hp2, f, g, h⟩
    · skip
      replace hp2 : (m_i σ 6 (a) 7).toInt = (0 : Int) := ic_eq.mp hp2
      refine Or.inl ⟨hp2, ?_⟩
      clear g
      replace h : EV F f 93 z93 31 [some (rf 6 (a))] [] σ (.inl (some (.inl w)), σ') := h
      replace h := ei_p h rfl rfl rfl rfl
      obtain ⟨f, g, h⟩ := h
      clear g
      replace h : EV F f 93 z93 32 [some (rf 6 (a))] [.inl (Int32.ofInt 0)] σ (.inl (some (.inl w)), σ') := h
      have e := ei_iret h rfl
      cases e
      exact rfl
    · skip
      replace hp2 : ¬ ((m_i σ 6 (a) 7).toInt = (0 : Int)) := (not_congr ic_eq).mp hp2
      refine Or.inr ⟨hp2, ?_⟩
      clear g
      replace h : EV F f 93 z93 27 [some (rf 6 (a))] [] σ (.inl (some (.inl w)), σ') := h
      replace h := ei_p h rfl rfl rfl rfl
      obtain ⟨f, g, h⟩ := h
      clear g
      replace h : EV F f 93 z93 28 [some (rf 6 (a))] [.inl (Int32.ofInt 1)] σ (.inl (some (.inl w)), σ') := h
      replace h := ei_p h rfl rfl rfl rfl
      obtain ⟨f, g, h⟩ := h
      clear g
      replace h : EV F f 93 z93 32 [some (rf 6 (a))] [.inl (Int32.ofInt 1)] σ (.inl (some (.inl w)), σ') := h
      have e := ei_iret h rfl
      cases e
      exact rfl
  · skip
    replace hp1 : ¬ ((m_i σ 6 (a) 9).toInt = (0 : Int)) := (not_congr ic_eq).mp hp1
    refine Or.inr ⟨hp1, ?_⟩
    clear g
    replace h : EV F f 93 z93 7 [some (rf 6 (a))] [] σ (.inl (some (.inl w)), σ') := h
    replace h := ei_p h rfl rfl rfl rfl
    obtain ⟨f, g, h⟩ := h
    clear g
    replace h : EV F f 93 z93 8 [some (rf 6 (a))] [rf 6 (a)] σ (.inl (some (.inl w)), σ') := h
    replace h := ei_get h rfl rfl
    obtain ⟨f, g, h⟩ := h
    clear g
    replace h : EV F f 93 z93 11 [some (rf 6 (a))] [.inl (m_i σ 6 (a) 10)] σ (.inl (some (.inl w)), σ') := h
    replace h := ei_c h rfl rfl rfl
    rcases h with ⟨hp3, f, g, h⟩ | ⟨hp3, f, g, h⟩
    · skip
      replace hp3 : (m_i σ 6 (a) 10).toInt = (0 : Int) := ic_eq.mp hp3
      refine Or.inl ⟨hp3, ?_⟩
      clear g
      replace h : EV F f 93 z93 18 [some (rf 6 (a))] [] σ (.inl (some (.inl w)), σ') := h
      replace h := ei_p h rfl rfl rfl rfl
      obtain ⟨f, g, h⟩ := h
      clear g
      replace h : EV F f 93 z93 19 [some (rf 6 (a))] [.inl (Int32.ofInt 2)] σ (.inl (some (.inl w)), σ') := h
      have e := ei_iret h rfl
      cases e
      exact rfl
    · skip
      replace hp3 : ¬ ((m_i σ 6 (a) 10).toInt = (0 : Int)) := (not_congr ic_eq).mp hp3
      refine Or.inr ⟨hp3, ?_⟩
      clear g
      replace h : EV F f 93 z93 14 [some (rf 6 (a))] [] σ (.inl (some (.inl w)), σ') := h
      replace h := ei_p h rfl rfl rfl rfl
      obtain ⟨f, g, h⟩ := h
      clear g
      replace h : EV F f 93 z93 15 [some (rf 6 (a))] [.inl (Int32.ofInt 3)] σ (.inl (some (.inl w)), σ') := h
      replace h := ei_p h rfl rfl rfl rfl
      obtain ⟨f, g, h⟩ := h
      clear g
      replace h : EV F f 93 z93 19 [some (rf 6 (a))] [.inl (Int32.ofInt 3)] σ (.inl (some (.inl w)), σ') := h
      have e := ei_iret h rfl
      cases e
      exact rfl
def z94 : mAl := ((yX6_amountOf, cX6_amountOf, 2, (some .long), { frames := 0, cells := 0, slots := 0, locals := 0 }, []), rw_X6_amountOf, false)
theorem z94_at : m_alF[94]? = some z94 := rfl
def P94 (σ : mS) (a : Nat) (x1 : Int32) (w : Int64) : Prop := (((x1).toInt ≠ (0 : Int) ∧ (((x1).toInt ≠ (1 : Int) ∧ w = (m_l σ 6 (a) 4)) ∨ (¬ ((x1).toInt ≠ (1 : Int)) ∧ w = (m_l σ 6 (a) 3)))) ∨ (¬ ((x1).toInt ≠ (0 : Int)) ∧ w = (m_l σ 6 (a) 2)))
theorem x94 {σ σ' : mS} {a : Nat} {x1 : Int32} {w : Int64} (hs : HS σ) (h : ev_run sm_all 94 [rf 6 (a), .inl (x1)] σ (.inl (some (.inr (.inl w)))) σ') : P94 σ a x1 w := by
  unfold P94
  obtain ⟨F, f, h⟩ := ei_go h z94_at
  replace h : EV F f 94 z94 0 [some (rf 6 (a)), some (.inl (x1))] [] σ (.inl (some (.inr (.inl w))), σ') := h
  replace h := ei_p h rfl rfl rfl rfl
  obtain ⟨f, g, h⟩ := h
  clear g
  replace h : EV F f 94 z94 1 [some (rf 6 (a)), some (.inl (x1))] [.inl (x1)] σ (.inl (some (.inr (.inl w))), σ') := h
  replace h := ei_c h rfl rfl rfl
  rcases h with ⟨hp1, f, g, h⟩ | ⟨hp1, f, g, h⟩
  · skip
    replace hp1 : (x1).toInt ≠ (0 : Int) := ic_ne.mp hp1
    refine Or.inl ⟨hp1, ?_⟩
    clear g
    replace h : EV F f 94 z94 9 [some (rf 6 (a)), some (.inl (x1))] [] σ (.inl (some (.inr (.inl w))), σ') := h
    replace h := ei_p h rfl rfl rfl rfl
    obtain ⟨f, g, h⟩ := h
    clear g
    replace h : EV F f 94 z94 10 [some (rf 6 (a)), some (.inl (x1))] [.inl (x1)] σ (.inl (some (.inr (.inl w))), σ') := h
    replace h := ei_p h rfl rfl rfl rfl
    obtain ⟨f, g, h⟩ := h
    clear g
    replace h : EV F f 94 z94 11 [some (rf 6 (a)), some (.inl (x1))] [.inl (Int32.ofInt 1), .inl (x1)] σ (.inl (some (.inr (.inl w))), σ') := h
    replace h := ei_c h rfl rfl rfl
    rcases h with ⟨hp2, f, g, h⟩ | ⟨hp2, f, g, h⟩
    · skip
      replace hp2 : (x1).toInt ≠ (1 : Int) := ic_ne.mp hp2
      refine Or.inl ⟨hp2, ?_⟩
      clear g
      replace h : EV F f 94 z94 21 [some (rf 6 (a)), some (.inl (x1))] [] σ (.inl (some (.inr (.inl w))), σ') := h
      replace h := ei_p h rfl rfl rfl rfl
      obtain ⟨f, g, h⟩ := h
      clear g
      replace h : EV F f 94 z94 22 [some (rf 6 (a)), some (.inl (x1))] [rf 6 (a)] σ (.inl (some (.inr (.inl w))), σ') := h
      replace h := ei_get h rfl rfl
      obtain ⟨f, g, h⟩ := h
      clear g
      replace h : EV F f 94 z94 25 [some (rf 6 (a)), some (.inl (x1))] [.inr (.inl (m_l σ 6 (a) 4))] σ (.inl (some (.inr (.inl w))), σ') := h
      have e := ei_lret h rfl
      cases e
      exact rfl
    · skip
      replace hp2 : ¬ ((x1).toInt ≠ (1 : Int)) := (not_congr ic_ne).mp hp2
      refine Or.inr ⟨hp2, ?_⟩
      clear g
      replace h : EV F f 94 z94 14 [some (rf 6 (a)), some (.inl (x1))] [] σ (.inl (some (.inr (.inl w))), σ') := h
      replace h := ei_p h rfl rfl rfl rfl
      obtain ⟨f, g, h⟩ := h
      clear g
      replace h : EV F f 94 z94 15 [some (rf 6 (a)), some (.inl (x1))] [rf 6 (a)] σ (.inl (some (.inr (.inl w))), σ') := h
      replace h := ei_get h rfl rfl
      obtain ⟨f, g, h⟩ := h
      clear g
      replace h : EV F f 94 z94 18 [some (rf 6 (a)), some (.inl (x1))] [.inr (.inl (m_l σ 6 (a) 3))] σ (.inl (some (.inr (.inl w))), σ') := h
      replace h := ei_p h rfl rfl rfl rfl
      obtain ⟨f, g, h⟩ := h
      clear g
      replace h : EV F f 94 z94 25 [some (rf 6 (a)), some (.inl (x1))] [.inr (.inl (m_l σ 6 (a) 3))] σ (.inl (some (.inr (.inl w))), σ') := h
      have e := ei_lret h rfl
      cases e
      exact rfl
  · skip
    replace hp1 : ¬ ((x1).toInt ≠ (0 : Int)) := (not_congr ic_ne).mp hp1
    refine Or.inr ⟨hp1, ?_⟩
    clear g
    replace h : EV F f 94 z94 4 [some (rf 6 (a)), some (.inl (x1))] [] σ (.inl (some (.inr (.inl w))), σ') := h
    replace h := ei_p h rfl rfl rfl rfl
    obtain ⟨f, g, h⟩ := h
    clear g
    replace h : EV F f 94 z94 5 [some (rf 6 (a)), some (.inl (x1))] [rf 6 (a)] σ (.inl (some (.inr (.inl w))), σ') := h
    replace h := ei_get h rfl rfl
    obtain ⟨f, g, h⟩ := h
    clear g
    replace h : EV F f 94 z94 8 [some (rf 6 (a)), some (.inl (x1))] [.inr (.inl (m_l σ 6 (a) 2))] σ (.inl (some (.inr (.inl w))), σ') := h
    have e := ei_lret h rfl
    cases e
    exact rfl
def z98 : mAl := ((yX7_isGone, cX7_isGone, 1, (some .boolean), { frames := 0, cells := 0, slots := 0, locals := 0 }, []), rw_X7_isGone, false)
theorem z98_at : m_alF[98]? = some z98 := rfl
def P98 (σ : mS) (a : Nat) (w : Int32) : Prop := (((m_i σ 7 (a) 9).toInt ≠ (0 : Int) ∧ w = (Int32.ofInt 0)) ∨ (¬ ((m_i σ 7 (a) 9).toInt ≠ (0 : Int)) ∧ w = (Int32.ofInt 1)))
theorem x98 {σ σ' : mS} {a : Nat} {w : Int32} (hs : HS σ) (h : ev_run sm_all 98 [rf 7 (a)] σ (.inl (some (.inl w))) σ') : P98 σ a w := by
  unfold P98
  obtain ⟨F, f, h⟩ := ei_go h z98_at
  replace h : EV F f 98 z98 0 [some (rf 7 (a))] [] σ (.inl (some (.inl w)), σ') := h
  replace h := ei_p h rfl rfl rfl rfl
  obtain ⟨f, g, h⟩ := h
  clear g
  replace h : EV F f 98 z98 1 [some (rf 7 (a))] [rf 7 (a)] σ (.inl (some (.inl w)), σ') := h
  replace h := ei_get h rfl rfl
  obtain ⟨f, g, h⟩ := h
  clear g
  replace h : EV F f 98 z98 4 [some (rf 7 (a))] [.inl (m_i σ 7 (a) 9)] σ (.inl (some (.inl w)), σ') := h
  replace h := ei_c h rfl rfl rfl
  rcases h with ⟨hp1, f, g, h⟩ | ⟨hp1, f, g, h⟩
  · skip
    replace hp1 : (m_i σ 7 (a) 9).toInt ≠ (0 : Int) := ic_ne.mp hp1
    refine Or.inl ⟨hp1, ?_⟩
    clear g
    replace h : EV F f 98 z98 11 [some (rf 7 (a))] [] σ (.inl (some (.inl w)), σ') := h
    replace h := ei_p h rfl rfl rfl rfl
    obtain ⟨f, g, h⟩ := h
    clear g
    replace h : EV F f 98 z98 12 [some (rf 7 (a))] [.inl (Int32.ofInt 0)] σ (.inl (some (.inl w)), σ') := h
    have e := ei_iret h rfl
    cases e
    exact rfl
  · skip
    replace hp1 : ¬ ((m_i σ 7 (a) 9).toInt ≠ (0 : Int)) := (not_congr ic_ne).mp hp1
    refine Or.inr ⟨hp1, ?_⟩
    clear g
    replace h : EV F f 98 z98 7 [some (rf 7 (a))] [] σ (.inl (some (.inl w)), σ') := h
    replace h := ei_p h rfl rfl rfl rfl
    obtain ⟨f, g, h⟩ := h
    clear g
    replace h : EV F f 98 z98 8 [some (rf 7 (a))] [.inl (Int32.ofInt 1)] σ (.inl (some (.inl w)), σ') := h
    replace h := ei_p h rfl rfl rfl rfl
    obtain ⟨f, g, h⟩ := h
    clear g
    replace h : EV F f 98 z98 12 [some (rf 7 (a))] [.inl (Int32.ofInt 1)] σ (.inl (some (.inl w)), σ') := h
    have e := ei_iret h rfl
    cases e
    exact rfl
def z101 : mAl := ((yX7_canBeTied, cX7_canBeTied, 1, (some .boolean), { frames := 0, cells := 0, slots := 0, locals := 0 }, []), rw_X7_canBeTied, false)
theorem z101_at : m_alF[101]? = some z101 := rfl
def P101 (σ : mS) (a : Nat) (w : Int32) : Prop := (((m_i σ 7 (a) 9).toInt = (0 : Int) ∧ w = (Int32.ofInt 0)) ∨ (¬ ((m_i σ 7 (a) 9).toInt = (0 : Int)) ∧ ((m_r σ 7 (a) 12 = none ∧ w = (Int32.ofInt 1)) ∨ (∃ q3, m_r σ 7 (a) 12 = some q3 ∧ w = (Int32.ofInt 0)))))
theorem x101 {σ σ' : mS} {a : Nat} {w : Int32} (hs : HS σ) (h : ev_run sm_all 101 [rf 7 (a)] σ (.inl (some (.inl w))) σ') : P101 σ a w := by
  unfold P101
  obtain ⟨F, f, h⟩ := ei_go h z101_at
  replace h : EV F f 101 z101 0 [some (rf 7 (a))] [] σ (.inl (some (.inl w)), σ') := h
  replace h := ei_p h rfl rfl rfl rfl
  obtain ⟨f, g, h⟩ := h
  clear g
  replace h : EV F f 101 z101 1 [some (rf 7 (a))] [rf 7 (a)] σ (.inl (some (.inl w)), σ') := h
  replace h := ei_get h rfl rfl
  obtain ⟨f, g, h⟩ := h
  clear g
  replace h : EV F f 101 z101 4 [some (rf 7 (a))] [.inl (m_i σ 7 (a) 9)] σ (.inl (some (.inl w)), σ') := h
  replace h := ei_c h rfl rfl rfl
  rcases h with ⟨hp1, f, g, h⟩ | ⟨hp1, f, g, h⟩
  · skip
    replace hp1 : (m_i σ 7 (a) 9).toInt = (0 : Int) := ic_eq.mp hp1
    refine Or.inl ⟨hp1, ?_⟩
    clear g
    replace h : EV F f 101 z101 18 [some (rf 7 (a))] [] σ (.inl (some (.inl w)), σ') := h
    replace h := ei_p h rfl rfl rfl rfl
    obtain ⟨f, g, h⟩ := h
    clear g
    replace h : EV F f 101 z101 19 [some (rf 7 (a))] [.inl (Int32.ofInt 0)] σ (.inl (some (.inl w)), σ') := h
    have e := ei_iret h rfl
    cases e
    exact rfl
  · skip
    replace hp1 : ¬ ((m_i σ 7 (a) 9).toInt = (0 : Int)) := (not_congr ic_eq).mp hp1
    refine Or.inr ⟨hp1, ?_⟩
    clear g
    replace h : EV F f 101 z101 7 [some (rf 7 (a))] [] σ (.inl (some (.inl w)), σ') := h
    replace h := ei_p h rfl rfl rfl rfl
    obtain ⟨f, g, h⟩ := h
    clear g
    replace h : EV F f 101 z101 8 [some (rf 7 (a))] [rf 7 (a)] σ (.inl (some (.inl w)), σ') := h
    replace h := ei_get h rfl rfl
    obtain ⟨f, g, h⟩ := h
    clear g
    replace h : EV F f 101 z101 11 [some (rf 7 (a))] [.inr (.inr (m_r σ 7 (a) 12))] σ (.inl (some (.inl w)), σ') := h
    rcases r_cs (m_r σ 7 (a) 12) with e2 | ⟨q3, e2⟩
    · skip
      rw [e2] at h
      refine Or.inl ⟨e2, ?_⟩
      replace h : EV F f 101 z101 11 [some (rf 7 (a))] [.inr (.inr none)] σ (.inl (some (.inl w)), σ') := h
      replace h := ei_c h rfl rfl rfl
      rcases h with ⟨hp4, f, g, h⟩ | ⟨hp4, f, g, h⟩
      · exact absurd rfl hp4
      · skip
        clear g
        replace h : EV F f 101 z101 14 [some (rf 7 (a))] [] σ (.inl (some (.inl w)), σ') := h
        replace h := ei_p h rfl rfl rfl rfl
        obtain ⟨f, g, h⟩ := h
        clear g
        replace h : EV F f 101 z101 15 [some (rf 7 (a))] [.inl (Int32.ofInt 1)] σ (.inl (some (.inl w)), σ') := h
        replace h := ei_p h rfl rfl rfl rfl
        obtain ⟨f, g, h⟩ := h
        clear g
        replace h : EV F f 101 z101 19 [some (rf 7 (a))] [.inl (Int32.ofInt 1)] σ (.inl (some (.inl w)), σ') := h
        have e := ei_iret h rfl
        cases e
        exact rfl
    · skip
      rw [e2] at h
      refine Or.inr ⟨q3, e2, ?_⟩
      replace h : EV F f 101 z101 11 [some (rf 7 (a))] [.inr (.inr (some q3))] σ (.inl (some (.inl w)), σ') := h
      replace h := ei_c h rfl rfl rfl
      rcases h with ⟨hp5, f, g, h⟩ | ⟨hp5, f, g, h⟩
      · skip
        clear g
        replace h : EV F f 101 z101 18 [some (rf 7 (a))] [] σ (.inl (some (.inl w)), σ') := h
        replace h := ei_p h rfl rfl rfl rfl
        obtain ⟨f, g, h⟩ := h
        clear g
        replace h : EV F f 101 z101 19 [some (rf 7 (a))] [.inl (Int32.ofInt 0)] σ (.inl (some (.inl w)), σ') := h
        have e := ei_iret h rfl
        cases e
        exact rfl
      · exact absurd (fun z => by cases z) hp5
def z120 : mAl := ((yX10_init, cX10_init, 1, none, { frames := 1, cells := 0, slots := 0, locals := 20 }, []), rw_X10_init, true)
theorem z120_at : m_alF[120]? = some z120 := rfl
abbrev L120 : List (Nat × Nat) := []
abbrev w120 : Nat → Nat → Bool := wl L120
def S120 : List Nat := [120]
theorem W120 : fw_S w120 S120 = true := by decide +kernel
def P120 (σ : mS) (a : Nat) (σ' : mS) : Prop := σ' = σ
theorem x120 {σ σ' : mS} {a : Nat} (hs : HS σ) (h : ev_run sm_all 120 [rf 10 (a)] σ (.inl none) σ') : P120 σ a σ' := by
  unfold P120
  obtain ⟨F, f, h⟩ := ei_go h z120_at
  replace h : EV F f 120 z120 0 [some (rf 10 (a))] [] σ (.inl none, σ') := h
  replace h := ei_p h rfl rfl rfl rfl
  obtain ⟨f, g, h⟩ := h
  clear g
  replace h : EV F f 120 z120 1 [some (rf 10 (a))] [rf 10 (a)] σ (.inl none, σ') := h
  replace h := ei_obj h rfl
  obtain ⟨f, g, h⟩ := h
  clear g
  replace h : EV F f 120 z120 4 [some (rf 10 (a))] [] σ (.inl none, σ') := h
  have e := ei_ret h rfl
  cases e
  exact rfl
def z121 : mAl := ((yX10_tells, cX10_tells, 2, (some .int), { frames := 0, cells := 0, slots := 0, locals := 0 }, []), rw_X10_tells, false)
theorem z121_at : m_alF[121]? = some z121 := rfl
def P121 (σ : mS) (a : Nat) (x1 : Int32) (w : Int32) : Prop := ((((x1).toInt < 0 ∨ 2 < (x1).toInt) ∧ (((m_i σ 10 (a) 9).toInt = (0 : Int) ∧ w = (Int32.ofInt 0)) ∨ (¬ ((m_i σ 10 (a) 9).toInt = (0 : Int)) ∧ w = (Int32.ofInt 1)))) ∨ ((x1).toInt = 0 ∧ w = (m_i σ 10 (a) 1)) ∨ ((x1).toInt = 1 ∧ w = (m_i σ 10 (a) 2)) ∨ ((x1).toInt = 2 ∧ w = (((Int32.ofInt 10) * (m_i σ 10 (a) 3)) + (m_i σ 10 (a) 4))))
theorem x121 {σ σ' : mS} {a : Nat} {x1 : Int32} {w : Int32} (hs : HS σ) (h : ev_run sm_all 121 [rf 10 (a), .inl (x1)] σ (.inl (some (.inl w))) σ') : P121 σ a x1 w := by
  unfold P121
  obtain ⟨F, f, h⟩ := ei_go h z121_at
  replace h : EV F f 121 z121 0 [some (rf 10 (a)), some (.inl (x1))] [] σ (.inl (some (.inl w)), σ') := h
  replace h := ei_p h rfl rfl rfl rfl
  obtain ⟨f, g, h⟩ := h
  clear g
  replace h : EV F f 121 z121 1 [some (rf 10 (a)), some (.inl (x1))] [.inl (x1)] σ (.inl (some (.inl w)), σ') := h
  replace h := ei_sw h rfl
  rcases h with ⟨e2, f, g, h⟩ | ⟨m1, e2, o, ho, f, g, h⟩
  · skip
    refine Or.inl ⟨e2, ?_⟩
    clear g
    replace h : EV F f 121 z121 51 [some (rf 10 (a)), some (.inl (x1))] [] σ (.inl (some (.inl w)), σ') := h
    replace h := ei_p h rfl rfl rfl rfl
    obtain ⟨f, g, h⟩ := h
    clear g
    replace h : EV F f 121 z121 52 [some (rf 10 (a)), some (.inl (x1))] [rf 10 (a)] σ (.inl (some (.inl w)), σ') := h
    replace h := ei_get h rfl rfl
    obtain ⟨f, g, h⟩ := h
    clear g
    replace h : EV F f 121 z121 55 [some (rf 10 (a)), some (.inl (x1))] [.inl (m_i σ 10 (a) 9)] σ (.inl (some (.inl w)), σ') := h
    replace h := ei_c h rfl rfl rfl
    rcases h with ⟨hp3, f, g, h⟩ | ⟨hp3, f, g, h⟩
    · skip
      replace hp3 : (m_i σ 10 (a) 9).toInt = (0 : Int) := ic_eq.mp hp3
      refine Or.inl ⟨hp3, ?_⟩
      clear g
      replace h : EV F f 121 z121 62 [some (rf 10 (a)), some (.inl (x1))] [] σ (.inl (some (.inl w)), σ') := h
      replace h := ei_p h rfl rfl rfl rfl
      obtain ⟨f, g, h⟩ := h
      clear g
      replace h : EV F f 121 z121 63 [some (rf 10 (a)), some (.inl (x1))] [.inl (Int32.ofInt 0)] σ (.inl (some (.inl w)), σ') := h
      have e := ei_iret h rfl
      cases e
      exact rfl
    · skip
      replace hp3 : ¬ ((m_i σ 10 (a) 9).toInt = (0 : Int)) := (not_congr ic_eq).mp hp3
      refine Or.inr ⟨hp3, ?_⟩
      clear g
      replace h : EV F f 121 z121 58 [some (rf 10 (a)), some (.inl (x1))] [] σ (.inl (some (.inl w)), σ') := h
      replace h := ei_p h rfl rfl rfl rfl
      obtain ⟨f, g, h⟩ := h
      clear g
      replace h : EV F f 121 z121 59 [some (rf 10 (a)), some (.inl (x1))] [.inl (Int32.ofInt 1)] σ (.inl (some (.inl w)), σ') := h
      replace h := ei_p h rfl rfl rfl rfl
      obtain ⟨f, g, h⟩ := h
      clear g
      replace h : EV F f 121 z121 63 [some (rf 10 (a)), some (.inl (x1))] [.inl (Int32.ofInt 1)] σ (.inl (some (.inl w)), σ') := h
      have e := ei_iret h rfl
      cases e
      exact rfl
  · skip
    rcases m1 with _ | _ | _ | m1
    · skip
      cases ho
      replace e2 : (x1).toInt = 0 := e2
      refine Or.inr (Or.inl ⟨e2, ?_⟩)
      clear g
      replace h : EV F f 121 z121 28 [some (rf 10 (a)), some (.inl (x1))] [] σ (.inl (some (.inl w)), σ') := h
      replace h := ei_p h rfl rfl rfl rfl
      obtain ⟨f, g, h⟩ := h
      clear g
      replace h : EV F f 121 z121 29 [some (rf 10 (a)), some (.inl (x1))] [rf 10 (a)] σ (.inl (some (.inl w)), σ') := h
      replace h := ei_get h rfl rfl
      obtain ⟨f, g, h⟩ := h
      clear g
      replace h : EV F f 121 z121 32 [some (rf 10 (a)), some (.inl (x1))] [.inl (m_i σ 10 (a) 1)] σ (.inl (some (.inl w)), σ') := h
      have e := ei_iret h rfl
      cases e
      exact rfl
    · skip
      cases ho
      replace e2 : (x1).toInt = 1 := e2
      refine Or.inr (Or.inr (Or.inl ⟨e2, ?_⟩))
      clear g
      replace h : EV F f 121 z121 33 [some (rf 10 (a)), some (.inl (x1))] [] σ (.inl (some (.inl w)), σ') := h
      replace h := ei_p h rfl rfl rfl rfl
      obtain ⟨f, g, h⟩ := h
      clear g
      replace h : EV F f 121 z121 34 [some (rf 10 (a)), some (.inl (x1))] [rf 10 (a)] σ (.inl (some (.inl w)), σ') := h
      replace h := ei_get h rfl rfl
      obtain ⟨f, g, h⟩ := h
      clear g
      replace h : EV F f 121 z121 37 [some (rf 10 (a)), some (.inl (x1))] [.inl (m_i σ 10 (a) 2)] σ (.inl (some (.inl w)), σ') := h
      have e := ei_iret h rfl
      cases e
      exact rfl
    · skip
      cases ho
      replace e2 : (x1).toInt = 2 := e2
      refine Or.inr (Or.inr (Or.inr (⟨e2, ?_⟩)))
      clear g
      replace h : EV F f 121 z121 38 [some (rf 10 (a)), some (.inl (x1))] [] σ (.inl (some (.inl w)), σ') := h
      replace h := ei_p h rfl rfl rfl rfl
      obtain ⟨f, g, h⟩ := h
      clear g
      replace h : EV F f 121 z121 40 [some (rf 10 (a)), some (.inl (x1))] [.inl (Int32.ofInt 10)] σ (.inl (some (.inl w)), σ') := h
      replace h := ei_p h rfl rfl rfl rfl
      obtain ⟨f, g, h⟩ := h
      clear g
      replace h : EV F f 121 z121 41 [some (rf 10 (a)), some (.inl (x1))] [rf 10 (a), .inl (Int32.ofInt 10)] σ (.inl (some (.inl w)), σ') := h
      replace h := ei_get h rfl rfl
      obtain ⟨f, g, h⟩ := h
      clear g
      replace h : EV F f 121 z121 44 [some (rf 10 (a)), some (.inl (x1))] [.inl (m_i σ 10 (a) 3), .inl (Int32.ofInt 10)] σ (.inl (some (.inl w)), σ') := h
      replace h := ei_p h rfl rfl rfl rfl
      obtain ⟨f, g, h⟩ := h
      clear g
      replace h : EV F f 121 z121 45 [some (rf 10 (a)), some (.inl (x1))] [.inl ((Int32.ofInt 10) * (m_i σ 10 (a) 3))] σ (.inl (some (.inl w)), σ') := h
      replace h := ei_p h rfl rfl rfl rfl
      obtain ⟨f, g, h⟩ := h
      clear g
      replace h : EV F f 121 z121 46 [some (rf 10 (a)), some (.inl (x1))] [rf 10 (a), .inl ((Int32.ofInt 10) * (m_i σ 10 (a) 3))] σ (.inl (some (.inl w)), σ') := h
      replace h := ei_get h rfl rfl
      obtain ⟨f, g, h⟩ := h
      clear g
      replace h : EV F f 121 z121 49 [some (rf 10 (a)), some (.inl (x1))] [.inl (m_i σ 10 (a) 4), .inl ((Int32.ofInt 10) * (m_i σ 10 (a) 3))] σ (.inl (some (.inl w)), σ') := h
      replace h := ei_p h rfl rfl rfl rfl
      obtain ⟨f, g, h⟩ := h
      clear g
      replace h : EV F f 121 z121 50 [some (rf 10 (a)), some (.inl (x1))] [.inl (((Int32.ofInt 10) * (m_i σ 10 (a) 3)) + (m_i σ 10 (a) 4))] σ (.inl (some (.inl w)), σ') := h
      have e := ei_iret h rfl
      cases e
      exact rfl
    · cases ho
def z163 : mAl := ((yX11_isBetween, cX11_isBetween, 3, (some .boolean), { frames := 0, cells := 0, slots := 0, locals := 0 }, []), rw_X11_isBetween, false)
theorem z163_at : m_alF[163]? = some z163 := rfl
def P163 (σ : mS) (x1 : Int32) (x2 : Int32) (x3 : Int32) (w : Int32) : Prop := (((x1).toInt < (x2).toInt ∧ w = (Int32.ofInt 0)) ∨ (¬ ((x1).toInt < (x2).toInt) ∧ (((x3).toInt < (x1).toInt ∧ w = (Int32.ofInt 0)) ∨ (¬ ((x3).toInt < (x1).toInt) ∧ w = (Int32.ofInt 1)))))
theorem x163 {σ σ' : mS} {x1 : Int32} {x2 : Int32} {x3 : Int32} {w : Int32} (hs : HS σ) (h : ev_run sm_all 163 [.inl (x1), .inl (x2), .inl (x3)] σ (.inl (some (.inl w))) σ') : P163 σ x1 x2 x3 w := by
  unfold P163
  obtain ⟨F, f, h⟩ := ei_go h z163_at
  replace h : EV F f 163 z163 0 [some (.inl (x1)), some (.inl (x2)), some (.inl (x3))] [] σ (.inl (some (.inl w)), σ') := h
  replace h := ei_p h rfl rfl rfl rfl
  obtain ⟨f, g, h⟩ := h
  clear g
  replace h : EV F f 163 z163 1 [some (.inl (x1)), some (.inl (x2)), some (.inl (x3))] [.inl (x1)] σ (.inl (some (.inl w)), σ') := h
  replace h := ei_p h rfl rfl rfl rfl
  obtain ⟨f, g, h⟩ := h
  clear g
  replace h : EV F f 163 z163 2 [some (.inl (x1)), some (.inl (x2)), some (.inl (x3))] [.inl (x2), .inl (x1)] σ (.inl (some (.inl w)), σ') := h
  replace h := ei_c h rfl rfl rfl
  rcases h with ⟨hp1, f, g, h⟩ | ⟨hp1, f, g, h⟩
  · skip
    replace hp1 : (x1).toInt < (x2).toInt := ic_lt.mp hp1
    refine Or.inl ⟨hp1, ?_⟩
    clear g
    replace h : EV F f 163 z163 14 [some (.inl (x1)), some (.inl (x2)), some (.inl (x3))] [] σ (.inl (some (.inl w)), σ') := h
    replace h := ei_p h rfl rfl rfl rfl
    obtain ⟨f, g, h⟩ := h
    clear g
    replace h : EV F f 163 z163 15 [some (.inl (x1)), some (.inl (x2)), some (.inl (x3))] [.inl (Int32.ofInt 0)] σ (.inl (some (.inl w)), σ') := h
    have e := ei_iret h rfl
    cases e
    exact rfl
  · skip
    replace hp1 : ¬ ((x1).toInt < (x2).toInt) := (not_congr ic_lt).mp hp1
    refine Or.inr ⟨hp1, ?_⟩
    clear g
    replace h : EV F f 163 z163 5 [some (.inl (x1)), some (.inl (x2)), some (.inl (x3))] [] σ (.inl (some (.inl w)), σ') := h
    replace h := ei_p h rfl rfl rfl rfl
    obtain ⟨f, g, h⟩ := h
    clear g
    replace h : EV F f 163 z163 6 [some (.inl (x1)), some (.inl (x2)), some (.inl (x3))] [.inl (x1)] σ (.inl (some (.inl w)), σ') := h
    replace h := ei_p h rfl rfl rfl rfl
    obtain ⟨f, g, h⟩ := h
    clear g
    replace h : EV F f 163 z163 7 [some (.inl (x1)), some (.inl (x2)), some (.inl (x3))] [.inl (x3), .inl (x1)] σ (.inl (some (.inl w)), σ') := h
    replace h := ei_c h rfl rfl rfl
    rcases h with ⟨hp2, f, g, h⟩ | ⟨hp2, f, g, h⟩
    · skip
      replace hp2 : (x3).toInt < (x1).toInt := ic_gt.mp hp2
      refine Or.inl ⟨hp2, ?_⟩
      clear g
      replace h : EV F f 163 z163 14 [some (.inl (x1)), some (.inl (x2)), some (.inl (x3))] [] σ (.inl (some (.inl w)), σ') := h
      replace h := ei_p h rfl rfl rfl rfl
      obtain ⟨f, g, h⟩ := h
      clear g
      replace h : EV F f 163 z163 15 [some (.inl (x1)), some (.inl (x2)), some (.inl (x3))] [.inl (Int32.ofInt 0)] σ (.inl (some (.inl w)), σ') := h
      have e := ei_iret h rfl
      cases e
      exact rfl
    · skip
      replace hp2 : ¬ ((x3).toInt < (x1).toInt) := (not_congr ic_gt).mp hp2
      refine Or.inr ⟨hp2, ?_⟩
      clear g
      replace h : EV F f 163 z163 10 [some (.inl (x1)), some (.inl (x2)), some (.inl (x3))] [] σ (.inl (some (.inl w)), σ') := h
      replace h := ei_p h rfl rfl rfl rfl
      obtain ⟨f, g, h⟩ := h
      clear g
      replace h : EV F f 163 z163 11 [some (.inl (x1)), some (.inl (x2)), some (.inl (x3))] [.inl (Int32.ofInt 1)] σ (.inl (some (.inl w)), σ') := h
      replace h := ei_p h rfl rfl rfl rfl
      obtain ⟨f, g, h⟩ := h
      clear g
      replace h : EV F f 163 z163 15 [some (.inl (x1)), some (.inl (x2)), some (.inl (x3))] [.inl (Int32.ofInt 1)] σ (.inl (some (.inl w)), σ') := h
      have e := ei_iret h rfl
      cases e
      exact rfl
def z164 : mAl := ((yX11_isMember, cX11_isMember, 1, (some .boolean), { frames := 1, cells := 0, slots := 0, locals := 22 }, []), rw_X11_isMember, false)
theorem z164_at : m_alF[164]? = some z164 := rfl
def P164 (σ : mS) (x1 : Int32) (w : Int32) : Prop := ∃ v1, P163 σ (x1) (Int32.ofInt 0) (Int32.ofInt 4) v1 ∧ w = (v1)
theorem x164 {σ σ' : mS} {x1 : Int32} {w : Int32} (hs : HS σ) (h : ev_run sm_all 164 [.inl (x1)] σ (.inl (some (.inl w))) σ') : P164 σ x1 w := by
  unfold P164
  obtain ⟨F, f, h⟩ := ei_go h z164_at
  replace h : EV F f 164 z164 0 [some (.inl (x1))] [] σ (.inl (some (.inl w)), σ') := h
  replace h := ei_p h rfl rfl rfl rfl
  obtain ⟨f, g, h⟩ := h
  clear g
  replace h : EV F f 164 z164 1 [some (.inl (x1))] [.inl (x1)] σ (.inl (some (.inl w)), σ') := h
  replace h := ei_p h rfl rfl rfl rfl
  obtain ⟨f, g, h⟩ := h
  clear g
  replace h : EV F f 164 z164 2 [some (.inl (x1))] [.inl (Int32.ofInt 0), .inl (x1)] σ (.inl (some (.inl w)), σ') := h
  replace h := ei_p h rfl rfl rfl rfl
  obtain ⟨f, g, h⟩ := h
  clear g
  replace h : EV F f 164 z164 3 [some (.inl (x1))] [.inl (Int32.ofInt 4), .inl (Int32.ofInt 0), .inl (x1)] σ (.inl (some (.inl w)), σ') := h
  replace h := bk_I (ei_s (as := [.inl (Int32.ofInt 4), .inl (Int32.ofInt 0), .inl (x1)]) h rfl (Nat.le_of_ble_eq_true rfl) rfl rfl) rfl z163_at (Or.inr rfl)
  obtain ⟨v1, σ2, r3, f, g, h⟩ := h
  clear g
  have er3 := ro_run rfl r3
  rw [er3] at h r3
  have p4 := x163 hs r3
  refine ⟨v1, p4, ?_⟩
  replace h : EV F f 164 z164 6 [some (.inl (x1))] [.inl (v1)] σ (.inl (some (.inl w)), σ') := h
  have e := ei_iret h rfl
  cases e
  exact rfl
def z160 : mAl := ((yX11_mustExist, cX11_mustExist, 1, none, { frames := 6, cells := 1, slots := 6, locals := 90 }, []), rw_X11_mustExist, false)
theorem z160_at : m_alF[160]? = some z160 := rfl
abbrev L160 : List (Nat × Nat) := []
abbrev w160 : Nat → Nat → Bool := wl L160
def S160 : List Nat := [160]
theorem W160 : fw_S w160 S160 = true := by decide +kernel
def P160 (σ : mS) (x1 : Int32) (w : mX) (σ' : mS) : Prop := (((x1).toInt ≠ (0 : Int) ∧ w = .inl none ∧ σ' = σ) ∨ (¬ ((x1).toInt ≠ (0 : Int)) ∧ (w = .inr 0 ∧ σ' = σ)))
theorem x160 {σ σ' : mS} {x1 : Int32} {w : mX} (hs : HS σ) (h : ev_run sm_all 160 [.inl (x1)] σ (w) σ') : P160 σ x1 w σ' := by
  unfold P160
  obtain ⟨F, f, h⟩ := ei_go h z160_at
  replace h : EV F f 160 z160 0 [some (.inl (x1))] [] σ (w, σ') := h
  replace h := ei_p h rfl rfl rfl rfl
  obtain ⟨f, g, h⟩ := h
  clear g
  replace h : EV F f 160 z160 1 [some (.inl (x1))] [.inl (x1)] σ (w, σ') := h
  replace h := ei_c h rfl rfl rfl
  rcases h with ⟨hp1, f, g, h⟩ | ⟨hp1, f, g, h⟩
  · skip
    replace hp1 : (x1).toInt ≠ (0 : Int) := ic_ne.mp hp1
    refine Or.inl ⟨hp1, ?_⟩
    clear g
    replace h : EV F f 160 z160 15 [some (.inl (x1))] [] σ (w, σ') := h
    have e := ei_ret h rfl
    cases e
    exact ⟨rfl, rfl⟩
  · skip
    replace hp1 : ¬ ((x1).toInt ≠ (0 : Int)) := (not_congr ic_ne).mp hp1
    refine Or.inr ⟨hp1, ?_⟩
    clear g
    replace h : EV F f 160 z160 4 [some (.inl (x1))] [] σ (w, σ') := h
    have e := ei_thr h rfl (by decide)
    cases e
    exact ⟨rfl, rfl⟩
def z161 : mAl := ((yX11_mustFit, cX11_mustFit, 1, none, { frames := 6, cells := 1, slots := 6, locals := 90 }, []), rw_X11_mustFit, false)
theorem z161_at : m_alF[161]? = some z161 := rfl
abbrev L161 : List (Nat × Nat) := []
abbrev w161 : Nat → Nat → Bool := wl L161
def S161 : List Nat := [161]
theorem W161 : fw_S w161 S161 = true := by decide +kernel
def P161 (σ : mS) (x1 : Int32) (w : mX) (σ' : mS) : Prop := (((x1).toInt ≠ (0 : Int) ∧ w = .inl none ∧ σ' = σ) ∨ (¬ ((x1).toInt ≠ (0 : Int)) ∧ (w = .inr 1 ∧ σ' = σ)))
theorem x161 {σ σ' : mS} {x1 : Int32} {w : mX} (hs : HS σ) (h : ev_run sm_all 161 [.inl (x1)] σ (w) σ') : P161 σ x1 w σ' := by
  unfold P161
  obtain ⟨F, f, h⟩ := ei_go h z161_at
  replace h : EV F f 161 z161 0 [some (.inl (x1))] [] σ (w, σ') := h
  replace h := ei_p h rfl rfl rfl rfl
  obtain ⟨f, g, h⟩ := h
  clear g
  replace h : EV F f 161 z161 1 [some (.inl (x1))] [.inl (x1)] σ (w, σ') := h
  replace h := ei_c h rfl rfl rfl
  rcases h with ⟨hp1, f, g, h⟩ | ⟨hp1, f, g, h⟩
  · skip
    replace hp1 : (x1).toInt ≠ (0 : Int) := ic_ne.mp hp1
    refine Or.inl ⟨hp1, ?_⟩
    clear g
    replace h : EV F f 161 z161 15 [some (.inl (x1))] [] σ (w, σ') := h
    have e := ei_ret h rfl
    cases e
    exact ⟨rfl, rfl⟩
  · skip
    replace hp1 : ¬ ((x1).toInt ≠ (0 : Int)) := (not_congr ic_ne).mp hp1
    refine Or.inr ⟨hp1, ?_⟩
    clear g
    replace h : EV F f 161 z161 4 [some (.inl (x1))] [] σ (w, σ') := h
    have e := ei_thr h rfl (by decide)
    cases e
    exact ⟨rfl, rfl⟩
def z162 : mAl := ((yX11_mustBePossible, cX11_mustBePossible, 1, none, { frames := 6, cells := 1, slots := 6, locals := 90 }, []), rw_X11_mustBePossible, false)
theorem z162_at : m_alF[162]? = some z162 := rfl
abbrev L162 : List (Nat × Nat) := []
abbrev w162 : Nat → Nat → Bool := wl L162
def S162 : List Nat := [162]
theorem W162 : fw_S w162 S162 = true := by decide +kernel
def P162 (σ : mS) (x1 : Int32) (w : mX) (σ' : mS) : Prop := (((x1).toInt ≠ (0 : Int) ∧ w = .inl none ∧ σ' = σ) ∨ (¬ ((x1).toInt ≠ (0 : Int)) ∧ (w = .inr 2 ∧ σ' = σ)))
theorem x162 {σ σ' : mS} {x1 : Int32} {w : mX} (hs : HS σ) (h : ev_run sm_all 162 [.inl (x1)] σ (w) σ') : P162 σ x1 w σ' := by
  unfold P162
  obtain ⟨F, f, h⟩ := ei_go h z162_at
  replace h : EV F f 162 z162 0 [some (.inl (x1))] [] σ (w, σ') := h
  replace h := ei_p h rfl rfl rfl rfl
  obtain ⟨f, g, h⟩ := h
  clear g
  replace h : EV F f 162 z162 1 [some (.inl (x1))] [.inl (x1)] σ (w, σ') := h
  replace h := ei_c h rfl rfl rfl
  rcases h with ⟨hp1, f, g, h⟩ | ⟨hp1, f, g, h⟩
  · skip
    replace hp1 : (x1).toInt ≠ (0 : Int) := ic_ne.mp hp1
    refine Or.inl ⟨hp1, ?_⟩
    clear g
    replace h : EV F f 162 z162 15 [some (.inl (x1))] [] σ (w, σ') := h
    have e := ei_ret h rfl
    cases e
    exact ⟨rfl, rfl⟩
  · skip
    replace hp1 : ¬ ((x1).toInt ≠ (0 : Int)) := (not_congr ic_ne).mp hp1
    refine Or.inr ⟨hp1, ?_⟩
    clear g
    replace h : EV F f 162 z162 4 [some (.inl (x1))] [] σ (w, σ') := h
    have e := ei_thr h rfl (by decide)
    cases e
    exact ⟨rfl, rfl⟩
def z159 : mAl := ((yX11_keep, cX11_keep, 2, none, { frames := 0, cells := 0, slots := 0, locals := 0 }, []), rw_X11_keep, false)
theorem z159_at : m_alF[159]? = some z159 := rfl
abbrev L159 : List (Nat × Nat) := [(1, 8), (11, 3), (11, 4), (11, 5)]
abbrev w159 : Nat → Nat → Bool := wl L159
def S159 : List Nat := [159]
theorem W159 : fw_S w159 S159 = true := by decide +kernel
def P159 (σ : mS) (x1 : mR) (σ' : mS) : Prop := (((m_i σ 11 (0) 5).toInt ≠ (512 : Int) ∧ ((m_r σ 11 (0) 4 = none ∧ ∃ σ6, σ6 = m_set σ 11 (0) (3) (.inr (.inr (x1))) ∧ ∃ σ9, σ9 = m_set σ6 11 (0) (4) (.inr (.inr (x1))) ∧ ∃ σ12, σ12 = m_set σ9 11 (0) (5) (.inl ((m_i σ9 11 (0) 5) + (Int32.ofInt 1))) ∧ σ' = σ12) ∨ (∃ q3, m_r σ 11 (0) 4 = some q3 ∧ ∃ i15, m_r σ 11 (0) 4 = some (1, i15) ∧ ∃ σ18, σ18 = m_set σ 1 (i15) (8) (.inr (.inr (x1))) ∧ ∃ σ21, σ21 = m_set σ18 11 (0) (4) (.inr (.inr (x1))) ∧ ∃ σ24, σ24 = m_set σ21 11 (0) (5) (.inl ((m_i σ21 11 (0) 5) + (Int32.ofInt 1))) ∧ σ' = σ24))) ∨ (¬ ((m_i σ 11 (0) 5).toInt ≠ (512 : Int)) ∧ σ' = σ))
theorem x159 {σ σ' : mS} {x1 : mR} (hs : HS σ) (h : ev_run sm_all 159 [rf 11 (0), .inr (.inr (x1))] σ (.inl none) σ') : P159 σ x1 σ' := by
  unfold P159
  obtain ⟨F, f, h⟩ := ei_go h z159_at
  replace h : EV F f 159 z159 0 [some (rf 11 (0)), some (.inr (.inr (x1)))] [] σ (.inl none, σ') := h
  replace h := ei_p h rfl rfl rfl rfl
  obtain ⟨f, g, h⟩ := h
  clear g
  replace h : EV F f 159 z159 1 [some (rf 11 (0)), some (.inr (.inr (x1)))] [rf 11 (0)] σ (.inl none, σ') := h
  replace h := ei_get h rfl rfl
  obtain ⟨f, g, h⟩ := h
  clear g
  replace h : EV F f 159 z159 4 [some (rf 11 (0)), some (.inr (.inr (x1)))] [.inl (m_i σ 11 (0) 5)] σ (.inl none, σ') := h
  replace h := ei_p h rfl rfl rfl rfl
  obtain ⟨f, g, h⟩ := h
  clear g
  replace h : EV F f 159 z159 7 [some (rf 11 (0)), some (.inr (.inr (x1)))] [.inl (Int32.ofInt 512), .inl (m_i σ 11 (0) 5)] σ (.inl none, σ') := h
  replace h := ei_c h rfl rfl rfl
  rcases h with ⟨hp1, f, g, h⟩ | ⟨hp1, f, g, h⟩
  · skip
    replace hp1 : (m_i σ 11 (0) 5).toInt ≠ (512 : Int) := ic_ne.mp hp1
    refine Or.inl ⟨hp1, ?_⟩
    clear g
    replace h : EV F f 159 z159 11 [some (rf 11 (0)), some (.inr (.inr (x1)))] [] σ (.inl none, σ') := h
    replace h := ei_p h rfl rfl rfl rfl
    obtain ⟨f, g, h⟩ := h
    clear g
    replace h : EV F f 159 z159 12 [some (rf 11 (0)), some (.inr (.inr (x1)))] [rf 11 (0)] σ (.inl none, σ') := h
    replace h := ei_get h rfl rfl
    obtain ⟨f, g, h⟩ := h
    clear g
    replace h : EV F f 159 z159 15 [some (rf 11 (0)), some (.inr (.inr (x1)))] [.inr (.inr (m_r σ 11 (0) 4))] σ (.inl none, σ') := h
    rcases r_cs (m_r σ 11 (0) 4) with e2 | ⟨q3, e2⟩
    · skip
      rw [e2] at h
      refine Or.inl ⟨e2, ?_⟩
      replace h : EV F f 159 z159 15 [some (rf 11 (0)), some (.inr (.inr (x1)))] [.inr (.inr none)] σ (.inl none, σ') := h
      replace h := ei_c h rfl rfl rfl
      rcases h with ⟨hp4, f, g, h⟩ | ⟨hp4, f, g, h⟩
      · exact absurd rfl hp4
      · skip
        clear g
        replace h : EV F f 159 z159 18 [some (rf 11 (0)), some (.inr (.inr (x1)))] [] σ (.inl none, σ') := h
        replace h := ei_p h rfl rfl rfl rfl
        obtain ⟨f, g, h⟩ := h
        clear g
        replace h : EV F f 159 z159 19 [some (rf 11 (0)), some (.inr (.inr (x1)))] [rf 11 (0)] σ (.inl none, σ') := h
        replace h := ei_p h rfl rfl rfl rfl
        obtain ⟨f, g, h⟩ := h
        clear g
        replace h : EV F f 159 z159 20 [some (rf 11 (0)), some (.inr (.inr (x1)))] [.inr (.inr (x1)), rf 11 (0)] σ (.inl none, σ') := h
        replace h := ei_put h rfl
        obtain ⟨ht5, f, g, h⟩ := h
        clear g
        obtain ⟨σ6, e7⟩ : ∃ s, s = m_set σ 11 (0) (3) (.inr (.inr (x1))) := ⟨_, rfl⟩
        rw [← e7] at h
        have hsσ6 : HS σ6 := by rw [e7]; exact HS_set hs rfl
        refine ⟨σ6, e7, ?_⟩
        replace h : EV F f 159 z159 23 [some (rf 11 (0)), some (.inr (.inr (x1)))] [] σ6 (.inl none, σ') := h
        replace h := ei_p h rfl rfl rfl rfl
        obtain ⟨f, g, h⟩ := h
        clear g
        replace h : EV F f 159 z159 34 [some (rf 11 (0)), some (.inr (.inr (x1)))] [] σ6 (.inl none, σ') := h
        replace h := ei_p h rfl rfl rfl rfl
        obtain ⟨f, g, h⟩ := h
        clear g
        replace h : EV F f 159 z159 35 [some (rf 11 (0)), some (.inr (.inr (x1)))] [rf 11 (0)] σ6 (.inl none, σ') := h
        replace h := ei_p h rfl rfl rfl rfl
        obtain ⟨f, g, h⟩ := h
        clear g
        replace h : EV F f 159 z159 36 [some (rf 11 (0)), some (.inr (.inr (x1)))] [.inr (.inr (x1)), rf 11 (0)] σ6 (.inl none, σ') := h
        replace h := ei_put h rfl
        obtain ⟨ht8, f, g, h⟩ := h
        clear g
        obtain ⟨σ9, e10⟩ : ∃ s, s = m_set σ6 11 (0) (4) (.inr (.inr (x1))) := ⟨_, rfl⟩
        rw [← e10] at h
        have hsσ9 : HS σ9 := by rw [e10]; exact HS_set hsσ6 rfl
        refine ⟨σ9, e10, ?_⟩
        replace h : EV F f 159 z159 39 [some (rf 11 (0)), some (.inr (.inr (x1)))] [] σ9 (.inl none, σ') := h
        replace h := ei_p h rfl rfl rfl rfl
        obtain ⟨f, g, h⟩ := h
        clear g
        replace h : EV F f 159 z159 40 [some (rf 11 (0)), some (.inr (.inr (x1)))] [rf 11 (0)] σ9 (.inl none, σ') := h
        replace h := ei_p h rfl rfl rfl rfl
        obtain ⟨f, g, h⟩ := h
        clear g
        replace h : EV F f 159 z159 41 [some (rf 11 (0)), some (.inr (.inr (x1)))] [rf 11 (0), rf 11 (0)] σ9 (.inl none, σ') := h
        replace h := ei_get h rfl rfl
        obtain ⟨f, g, h⟩ := h
        clear g
        replace h : EV F f 159 z159 44 [some (rf 11 (0)), some (.inr (.inr (x1)))] [.inl (m_i σ9 11 (0) 5), rf 11 (0)] σ9 (.inl none, σ') := h
        replace h := ei_p h rfl rfl rfl rfl
        obtain ⟨f, g, h⟩ := h
        clear g
        replace h : EV F f 159 z159 45 [some (rf 11 (0)), some (.inr (.inr (x1)))] [.inl (Int32.ofInt 1), .inl (m_i σ9 11 (0) 5), rf 11 (0)] σ9 (.inl none, σ') := h
        replace h := ei_p h rfl rfl rfl rfl
        obtain ⟨f, g, h⟩ := h
        clear g
        replace h : EV F f 159 z159 46 [some (rf 11 (0)), some (.inr (.inr (x1)))] [.inl ((m_i σ9 11 (0) 5) + (Int32.ofInt 1)), rf 11 (0)] σ9 (.inl none, σ') := h
        replace h := ei_put h rfl
        obtain ⟨ht11, f, g, h⟩ := h
        clear g
        obtain ⟨σ12, e13⟩ : ∃ s, s = m_set σ9 11 (0) (5) (.inl ((m_i σ9 11 (0) 5) + (Int32.ofInt 1))) := ⟨_, rfl⟩
        rw [← e13] at h
        have hsσ12 : HS σ12 := by rw [e13]; exact HS_set hsσ9 rfl
        refine ⟨σ12, e13, ?_⟩
        replace h : EV F f 159 z159 49 [some (rf 11 (0)), some (.inr (.inr (x1)))] [] σ12 (.inl none, σ') := h
        have e := ei_ret h rfl
        cases e
        exact rfl
    · skip
      rw [e2] at h
      refine Or.inr ⟨q3, e2, ?_⟩
      replace h : EV F f 159 z159 15 [some (rf 11 (0)), some (.inr (.inr (x1)))] [.inr (.inr (some q3))] σ (.inl none, σ') := h
      replace h := ei_c h rfl rfl rfl
      rcases h with ⟨hp14, f, g, h⟩ | ⟨hp14, f, g, h⟩
      · skip
        clear g
        replace h : EV F f 159 z159 26 [some (rf 11 (0)), some (.inr (.inr (x1)))] [] σ (.inl none, σ') := h
        replace h := ei_p h rfl rfl rfl rfl
        obtain ⟨f, g, h⟩ := h
        clear g
        replace h : EV F f 159 z159 27 [some (rf 11 (0)), some (.inr (.inr (x1)))] [rf 11 (0)] σ (.inl none, σ') := h
        replace h := ei_get h rfl rfl
        obtain ⟨f, g, h⟩ := h
        clear g
        replace h : EV F f 159 z159 30 [some (rf 11 (0)), some (.inr (.inr (x1)))] [.inr (.inr (m_r σ 11 (0) 4))] σ (.inl none, σ') := h
        replace h := ei_p h rfl rfl rfl rfl
        obtain ⟨f, g, h⟩ := h
        clear g
        replace h : EV F f 159 z159 31 [some (rf 11 (0)), some (.inr (.inr (x1)))] [.inr (.inr (x1)), .inr (.inr (m_r σ 11 (0) 4))] σ (.inl none, σ') := h
        obtain ⟨i15, e16⟩ := ei_pp h rfl
        rw [e16] at h
        refine ⟨i15, e16, ?_⟩
        replace h : EV F f 159 z159 31 [some (rf 11 (0)), some (.inr (.inr (x1)))] [.inr (.inr (x1)), rf 1 (i15)] σ (.inl none, σ') := h
        replace h := ei_put h rfl
        obtain ⟨ht17, f, g, h⟩ := h
        clear g
        obtain ⟨σ18, e19⟩ : ∃ s, s = m_set σ 1 (i15) (8) (.inr (.inr (x1))) := ⟨_, rfl⟩
        rw [← e19] at h
        have hsσ18 : HS σ18 := by rw [e19]; exact HS_set hs rfl
        refine ⟨σ18, e19, ?_⟩
        replace h : EV F f 159 z159 34 [some (rf 11 (0)), some (.inr (.inr (x1)))] [] σ18 (.inl none, σ') := h
        replace h := ei_p h rfl rfl rfl rfl
        obtain ⟨f, g, h⟩ := h
        clear g
        replace h : EV F f 159 z159 35 [some (rf 11 (0)), some (.inr (.inr (x1)))] [rf 11 (0)] σ18 (.inl none, σ') := h
        replace h := ei_p h rfl rfl rfl rfl
        obtain ⟨f, g, h⟩ := h
        clear g
        replace h : EV F f 159 z159 36 [some (rf 11 (0)), some (.inr (.inr (x1)))] [.inr (.inr (x1)), rf 11 (0)] σ18 (.inl none, σ') := h
        replace h := ei_put h rfl
        obtain ⟨ht20, f, g, h⟩ := h
        clear g
        obtain ⟨σ21, e22⟩ : ∃ s, s = m_set σ18 11 (0) (4) (.inr (.inr (x1))) := ⟨_, rfl⟩
        rw [← e22] at h
        have hsσ21 : HS σ21 := by rw [e22]; exact HS_set hsσ18 rfl
        refine ⟨σ21, e22, ?_⟩
        replace h : EV F f 159 z159 39 [some (rf 11 (0)), some (.inr (.inr (x1)))] [] σ21 (.inl none, σ') := h
        replace h := ei_p h rfl rfl rfl rfl
        obtain ⟨f, g, h⟩ := h
        clear g
        replace h : EV F f 159 z159 40 [some (rf 11 (0)), some (.inr (.inr (x1)))] [rf 11 (0)] σ21 (.inl none, σ') := h
        replace h := ei_p h rfl rfl rfl rfl
        obtain ⟨f, g, h⟩ := h
        clear g
        replace h : EV F f 159 z159 41 [some (rf 11 (0)), some (.inr (.inr (x1)))] [rf 11 (0), rf 11 (0)] σ21 (.inl none, σ') := h
        replace h := ei_get h rfl rfl
        obtain ⟨f, g, h⟩ := h
        clear g
        replace h : EV F f 159 z159 44 [some (rf 11 (0)), some (.inr (.inr (x1)))] [.inl (m_i σ21 11 (0) 5), rf 11 (0)] σ21 (.inl none, σ') := h
        replace h := ei_p h rfl rfl rfl rfl
        obtain ⟨f, g, h⟩ := h
        clear g
        replace h : EV F f 159 z159 45 [some (rf 11 (0)), some (.inr (.inr (x1)))] [.inl (Int32.ofInt 1), .inl (m_i σ21 11 (0) 5), rf 11 (0)] σ21 (.inl none, σ') := h
        replace h := ei_p h rfl rfl rfl rfl
        obtain ⟨f, g, h⟩ := h
        clear g
        replace h : EV F f 159 z159 46 [some (rf 11 (0)), some (.inr (.inr (x1)))] [.inl ((m_i σ21 11 (0) 5) + (Int32.ofInt 1)), rf 11 (0)] σ21 (.inl none, σ') := h
        replace h := ei_put h rfl
        obtain ⟨ht23, f, g, h⟩ := h
        clear g
        obtain ⟨σ24, e25⟩ : ∃ s, s = m_set σ21 11 (0) (5) (.inl ((m_i σ21 11 (0) 5) + (Int32.ofInt 1))) := ⟨_, rfl⟩
        rw [← e25] at h
        have hsσ24 : HS σ24 := by rw [e25]; exact HS_set hsσ21 rfl
        refine ⟨σ24, e25, ?_⟩
        replace h : EV F f 159 z159 49 [some (rf 11 (0)), some (.inr (.inr (x1)))] [] σ24 (.inl none, σ') := h
        have e := ei_ret h rfl
        cases e
        exact rfl
      · exact absurd (fun z => by cases z) hp14
  · skip
    replace hp1 : ¬ ((m_i σ 11 (0) 5).toInt ≠ (512 : Int)) := (not_congr ic_ne).mp hp1
    refine Or.inr ⟨hp1, ?_⟩
    clear g
    replace h : EV F f 159 z159 10 [some (rf 11 (0)), some (.inr (.inr (x1)))] [] σ (.inl none, σ') := h
    have e := ei_ret h rfl
    cases e
    exact rfl
def z158 : mAl := ((yX11_done, cX11_done, 5, (some .long), { frames := 4, cells := 0, slots := 0, locals := 93 }, []), rw_X11_done, false)
theorem z158_at : m_alF[158]? = some z158 := rfl
abbrev L158 : List (Nat × Nat) := [(1, 8), (3, 3), (3, 4), (3, 5), (5, 2), (11, 3), (11, 4), (11, 5), (13, 0)]
abbrev w158 : Nat → Nat → Bool := wl L158
def S158 : List Nat := [51, 53, 54, 78, 79, 80, 81, 82, 83, 85, 86, 99, 158, 159, 190]
theorem W158 : fw_S w158 S158 = true := by decide +kernel
def P158 (σ : mS) (x1 : mR) (x2 : Int64) (w : Int64) (σ' : mS) : Prop := ∃ i1, x1 = some (1, i1) ∧ (((m_i σ 1 (i1) 0).toInt ≠ (2 : Int) ∧ (∃ σ6, fw_e w159 σ σ6 ∧ P159 σ (some (1, i1)) σ6 ∧ ∃ σ10, fw_e w53 σ6 σ10 ∧ P53 σ6 (some (0, 0)) σ10 ∧ w = (x2) ∧ σ' = σ10)) ∨ (¬ ((m_i σ 1 (i1) 0).toInt ≠ (2 : Int)) ∧ (((x2).toInt ≠ (Int64.ofInt (-1)).toInt ∧ (∃ σ16, fw_e w159 σ σ16 ∧ P159 σ (some (1, i1)) σ16 ∧ ∃ σ20, fw_e w53 σ16 σ20 ∧ P53 σ16 (some (0, 0)) σ20 ∧ w = (x2) ∧ σ' = σ20)) ∨ (¬ ((x2).toInt ≠ (Int64.ofInt (-1)).toInt) ∧ (w = (x2) ∧ σ' = σ)))))
theorem x158 {σ σ' : mS} {x1 : mR} {x2 : Int64} {w : Int64} (hs : HS σ) (h : ev_run sm_all 158 [rf 11 (0), .inr (.inr (x1)), .inr (.inl (x2))] σ (.inl (some (.inr (.inl w)))) σ') : P158 σ x1 x2 w σ' := by
  unfold P158
  obtain ⟨F, f, h⟩ := ei_go h z158_at
  replace h : EV F f 158 z158 0 [some (rf 11 (0)), some (.inr (.inr (x1))), some (.inr (.inl (x2))), none, none] [] σ (.inl (some (.inr (.inl w))), σ') := h
  replace h := ei_p h rfl rfl rfl rfl
  obtain ⟨f, g, h⟩ := h
  clear g
  replace h : EV F f 158 z158 1 [some (rf 11 (0)), some (.inr (.inr (x1))), some (.inr (.inl (x2))), none, none] [.inr (.inr (x1))] σ (.inl (some (.inr (.inl w))), σ') := h
  obtain ⟨i1, e2⟩ := ei_gp h rfl
  rw [e2] at h
  refine ⟨i1, e2, ?_⟩
  replace h : EV F f 158 z158 1 [some (rf 11 (0)), some (rf 1 (i1)), some (.inr (.inl (x2))), none, none] [rf 1 (i1)] σ (.inl (some (.inr (.inl w))), σ') := h
  replace h := ei_get h rfl rfl
  obtain ⟨f, g, h⟩ := h
  clear g
  replace h : EV F f 158 z158 4 [some (rf 11 (0)), some (rf 1 (i1)), some (.inr (.inl (x2))), none, none] [.inl (m_i σ 1 (i1) 0)] σ (.inl (some (.inr (.inl w))), σ') := h
  replace h := ei_p h rfl rfl rfl rfl
  obtain ⟨f, g, h⟩ := h
  clear g
  replace h : EV F f 158 z158 5 [some (rf 11 (0)), some (rf 1 (i1)), some (.inr (.inl (x2))), none, none] [.inl (Int32.ofInt 2), .inl (m_i σ 1 (i1) 0)] σ (.inl (some (.inr (.inl w))), σ') := h
  replace h := ei_c h rfl rfl rfl
  rcases h with ⟨hp3, f, g, h⟩ | ⟨hp3, f, g, h⟩
  · skip
    replace hp3 : (m_i σ 1 (i1) 0).toInt ≠ (2 : Int) := ic_ne.mp hp3
    refine Or.inl ⟨hp3, ?_⟩
    clear g
    replace h : EV F f 158 z158 20 [some (rf 11 (0)), some (rf 1 (i1)), some (.inr (.inl (x2))), none, none] [] σ (.inl (some (.inr (.inl w))), σ') := h
    replace h := ei_p h rfl rfl rfl rfl
    obtain ⟨f, g, h⟩ := h
    clear g
    replace h : EV F f 158 z158 21 [some (rf 11 (0)), some (rf 1 (i1)), some (.inr (.inl (x2))), none, none] [.inl (Int32.ofInt 0)] σ (.inl (some (.inr (.inl w))), σ') := h
    replace h := ei_p h rfl rfl rfl rfl
    obtain ⟨f, g, h⟩ := h
    clear g
    replace h : EV F f 158 z158 23 [some (rf 11 (0)), some (rf 1 (i1)), some (.inr (.inl (x2))), none, some (.inl (Int32.ofInt 0))] [] σ (.inl (some (.inr (.inl w))), σ') := h
    replace h := ei_p h rfl rfl rfl rfl
    obtain ⟨f, g, h⟩ := h
    clear g
    replace h : EV F f 158 z158 25 [some (rf 11 (0)), some (rf 1 (i1)), some (.inr (.inl (x2))), none, some (.inl (Int32.ofInt 0))] [.inl (Int32.ofInt 0)] σ (.inl (some (.inr (.inl w))), σ') := h
    replace h := ei_c h rfl rfl rfl
    rcases h with ⟨hp4, f, g, h⟩ | ⟨hp4, f, g, h⟩
    · exact absurd (ic_ne.mp hp4) (by decide)
    · skip
      clear g
      replace h : EV F f 158 z158 28 [some (rf 11 (0)), some (rf 1 (i1)), some (.inr (.inl (x2))), none, some (.inl (Int32.ofInt 0))] [] σ (.inl (some (.inr (.inl w))), σ') := h
      replace h := ei_p h rfl rfl rfl rfl
      obtain ⟨f, g, h⟩ := h
      clear g
      replace h : EV F f 158 z158 29 [some (rf 11 (0)), some (rf 1 (i1)), some (.inr (.inl (x2))), none, some (.inl (Int32.ofInt 0))] [rf 11 (0)] σ (.inl (some (.inr (.inl w))), σ') := h
      replace h := ei_p h rfl rfl rfl rfl
      obtain ⟨f, g, h⟩ := h
      clear g
      replace h : EV F f 158 z158 30 [some (rf 11 (0)), some (rf 1 (i1)), some (.inr (.inl (x2))), none, some (.inl (Int32.ofInt 0))] [rf 1 (i1), rf 11 (0)] σ (.inl (some (.inr (.inl w))), σ') := h
      replace h := bk_0 (ei_v (as := [rf 1 (i1)]) h rfl rfl rfl) rfl z159_at rfl
      obtain ⟨σ6, r7, f, g, h⟩ := h
      clear g
      have p8 := x159 hs r7
      have hsσ6 : HS σ6 := HS_run rfl r7 hs
      refine ⟨σ6, fw_run W159 rfl r7, p8, ?_⟩
      replace h : EV F f 158 z158 33 [some (rf 11 (0)), some (rf 1 (i1)), some (.inr (.inl (x2))), none, some (.inl (Int32.ofInt 0))] [] σ6 (.inl (some (.inr (.inl w))), σ') := h
      replace h := ei_p h rfl rfl rfl rfl
      obtain ⟨f, g, h⟩ := h
      clear g
      replace h : EV F f 158 z158 34 [some (rf 11 (0)), some (rf 1 (i1)), some (.inr (.inl (x2))), none, some (.inl (Int32.ofInt 0))] [rf 11 (0)] σ6 (.inl (some (.inr (.inl w))), σ') := h
      replace h := ei_get h rfl (HS_g11_1 hsσ6)
      obtain ⟨f, g, h⟩ := h
      clear g
      replace h : EV F f 158 z158 37 [some (rf 11 (0)), some (rf 1 (i1)), some (.inr (.inl (x2))), none, some (.inl (Int32.ofInt 0))] [rf 3 (0)] σ6 (.inl (some (.inr (.inl w))), σ') := h
      replace h := ei_p h rfl rfl rfl rfl
      obtain ⟨f, g, h⟩ := h
      clear g
      replace h : EV F f 158 z158 38 [some (rf 11 (0)), some (rf 1 (i1)), some (.inr (.inl (x2))), none, some (.inl (Int32.ofInt 0))] [rf 11 (0), rf 3 (0)] σ6 (.inl (some (.inr (.inl w))), σ') := h
      replace h := ei_get h rfl (HS_g11_0 hsσ6)
      obtain ⟨f, g, h⟩ := h
      clear g
      replace h : EV F f 158 z158 41 [some (rf 11 (0)), some (rf 1 (i1)), some (.inr (.inl (x2))), none, some (.inl (Int32.ofInt 0))] [rf 4 (0), rf 3 (0)] σ6 (.inl (some (.inr (.inl w))), σ') := h
      replace h := ei_get h rfl (HS_g4_0 hsσ6)
      obtain ⟨f, g, h⟩ := h
      clear g
      replace h : EV F f 158 z158 44 [some (rf 11 (0)), some (rf 1 (i1)), some (.inr (.inl (x2))), none, some (.inl (Int32.ofInt 0))] [rf 0 (0), rf 3 (0)] σ6 (.inl (some (.inr (.inl w))), σ') := h
      replace h := bk_0 (ei_v (as := [rf 0 (0)]) h rfl rfl rfl) rfl z53_at rfl
      obtain ⟨σ10, r11, f, g, h⟩ := h
      clear g
      have p12 := x53 hsσ6 r11
      have hsσ10 : HS σ10 := HS_run rfl r11 hsσ6
      refine ⟨σ10, fw_run W53 rfl r11, p12, ?_⟩
      replace h : EV F f 158 z158 47 [some (rf 11 (0)), some (rf 1 (i1)), some (.inr (.inl (x2))), none, some (.inl (Int32.ofInt 0))] [] σ10 (.inl (some (.inr (.inl w))), σ') := h
      replace h := ei_p h rfl rfl rfl rfl
      obtain ⟨f, g, h⟩ := h
      clear g
      replace h : EV F f 158 z158 48 [some (rf 11 (0)), some (rf 1 (i1)), some (.inr (.inl (x2))), none, some (.inl (Int32.ofInt 0))] [.inr (.inl (x2))] σ10 (.inl (some (.inr (.inl w))), σ') := h
      have e := ei_lret h rfl
      cases e
      exact ⟨rfl, rfl⟩
  · skip
    replace hp3 : ¬ ((m_i σ 1 (i1) 0).toInt ≠ (2 : Int)) := (not_congr ic_ne).mp hp3
    refine Or.inr ⟨hp3, ?_⟩
    clear g
    replace h : EV F f 158 z158 8 [some (rf 11 (0)), some (rf 1 (i1)), some (.inr (.inl (x2))), none, none] [] σ (.inl (some (.inr (.inl w))), σ') := h
    replace h := ei_p h rfl rfl rfl rfl
    obtain ⟨f, g, h⟩ := h
    clear g
    replace h : EV F f 158 z158 9 [some (rf 11 (0)), some (rf 1 (i1)), some (.inr (.inl (x2))), none, none] [.inr (.inl (x2))] σ (.inl (some (.inr (.inl w))), σ') := h
    replace h := ei_p h rfl rfl rfl rfl
    obtain ⟨f, g, h⟩ := h
    clear g
    replace h : EV F f 158 z158 12 [some (rf 11 (0)), some (rf 1 (i1)), some (.inr (.inl (x2))), none, none] [.inr (.inl (Int64.ofInt (-1))), .inr (.inl (x2))] σ (.inl (some (.inr (.inl w))), σ') := h
    replace h := ei_p h rfl rfl rfl rfl
    obtain ⟨f, g, h⟩ := h
    clear g
    replace h : EV F f 158 z158 13 [some (rf 11 (0)), some (rf 1 (i1)), some (.inr (.inl (x2))), none, none] [.inl (lg_cmp (x2) (Int64.ofInt (-1)))] σ (.inl (some (.inr (.inl w))), σ') := h
    replace h := ei_c h rfl rfl rfl
    rcases h with ⟨hp13, f, g, h⟩ | ⟨hp13, f, g, h⟩
    · skip
      replace hp13 : (x2).toInt ≠ (Int64.ofInt (-1)).toInt := (ab_lc .ne _ _).mp hp13
      refine Or.inl ⟨hp13, ?_⟩
      clear g
      replace h : EV F f 158 z158 20 [some (rf 11 (0)), some (rf 1 (i1)), some (.inr (.inl (x2))), none, none] [] σ (.inl (some (.inr (.inl w))), σ') := h
      replace h := ei_p h rfl rfl rfl rfl
      obtain ⟨f, g, h⟩ := h
      clear g
      replace h : EV F f 158 z158 21 [some (rf 11 (0)), some (rf 1 (i1)), some (.inr (.inl (x2))), none, none] [.inl (Int32.ofInt 0)] σ (.inl (some (.inr (.inl w))), σ') := h
      replace h := ei_p h rfl rfl rfl rfl
      obtain ⟨f, g, h⟩ := h
      clear g
      replace h : EV F f 158 z158 23 [some (rf 11 (0)), some (rf 1 (i1)), some (.inr (.inl (x2))), none, some (.inl (Int32.ofInt 0))] [] σ (.inl (some (.inr (.inl w))), σ') := h
      replace h := ei_p h rfl rfl rfl rfl
      obtain ⟨f, g, h⟩ := h
      clear g
      replace h : EV F f 158 z158 25 [some (rf 11 (0)), some (rf 1 (i1)), some (.inr (.inl (x2))), none, some (.inl (Int32.ofInt 0))] [.inl (Int32.ofInt 0)] σ (.inl (some (.inr (.inl w))), σ') := h
      replace h := ei_c h rfl rfl rfl
      rcases h with ⟨hp14, f, g, h⟩ | ⟨hp14, f, g, h⟩
      · exact absurd (ic_ne.mp hp14) (by decide)
      · skip
        clear g
        replace h : EV F f 158 z158 28 [some (rf 11 (0)), some (rf 1 (i1)), some (.inr (.inl (x2))), none, some (.inl (Int32.ofInt 0))] [] σ (.inl (some (.inr (.inl w))), σ') := h
        replace h := ei_p h rfl rfl rfl rfl
        obtain ⟨f, g, h⟩ := h
        clear g
        replace h : EV F f 158 z158 29 [some (rf 11 (0)), some (rf 1 (i1)), some (.inr (.inl (x2))), none, some (.inl (Int32.ofInt 0))] [rf 11 (0)] σ (.inl (some (.inr (.inl w))), σ') := h
        replace h := ei_p h rfl rfl rfl rfl
        obtain ⟨f, g, h⟩ := h
        clear g
        replace h : EV F f 158 z158 30 [some (rf 11 (0)), some (rf 1 (i1)), some (.inr (.inl (x2))), none, some (.inl (Int32.ofInt 0))] [rf 1 (i1), rf 11 (0)] σ (.inl (some (.inr (.inl w))), σ') := h
        replace h := bk_0 (ei_v (as := [rf 1 (i1)]) h rfl rfl rfl) rfl z159_at rfl
        obtain ⟨σ16, r17, f, g, h⟩ := h
        clear g
        have p18 := x159 hs r17
        have hsσ16 : HS σ16 := HS_run rfl r17 hs
        refine ⟨σ16, fw_run W159 rfl r17, p18, ?_⟩
        replace h : EV F f 158 z158 33 [some (rf 11 (0)), some (rf 1 (i1)), some (.inr (.inl (x2))), none, some (.inl (Int32.ofInt 0))] [] σ16 (.inl (some (.inr (.inl w))), σ') := h
        replace h := ei_p h rfl rfl rfl rfl
        obtain ⟨f, g, h⟩ := h
        clear g
        replace h : EV F f 158 z158 34 [some (rf 11 (0)), some (rf 1 (i1)), some (.inr (.inl (x2))), none, some (.inl (Int32.ofInt 0))] [rf 11 (0)] σ16 (.inl (some (.inr (.inl w))), σ') := h
        replace h := ei_get h rfl (HS_g11_1 hsσ16)
        obtain ⟨f, g, h⟩ := h
        clear g
        replace h : EV F f 158 z158 37 [some (rf 11 (0)), some (rf 1 (i1)), some (.inr (.inl (x2))), none, some (.inl (Int32.ofInt 0))] [rf 3 (0)] σ16 (.inl (some (.inr (.inl w))), σ') := h
        replace h := ei_p h rfl rfl rfl rfl
        obtain ⟨f, g, h⟩ := h
        clear g
        replace h : EV F f 158 z158 38 [some (rf 11 (0)), some (rf 1 (i1)), some (.inr (.inl (x2))), none, some (.inl (Int32.ofInt 0))] [rf 11 (0), rf 3 (0)] σ16 (.inl (some (.inr (.inl w))), σ') := h
        replace h := ei_get h rfl (HS_g11_0 hsσ16)
        obtain ⟨f, g, h⟩ := h
        clear g
        replace h : EV F f 158 z158 41 [some (rf 11 (0)), some (rf 1 (i1)), some (.inr (.inl (x2))), none, some (.inl (Int32.ofInt 0))] [rf 4 (0), rf 3 (0)] σ16 (.inl (some (.inr (.inl w))), σ') := h
        replace h := ei_get h rfl (HS_g4_0 hsσ16)
        obtain ⟨f, g, h⟩ := h
        clear g
        replace h : EV F f 158 z158 44 [some (rf 11 (0)), some (rf 1 (i1)), some (.inr (.inl (x2))), none, some (.inl (Int32.ofInt 0))] [rf 0 (0), rf 3 (0)] σ16 (.inl (some (.inr (.inl w))), σ') := h
        replace h := bk_0 (ei_v (as := [rf 0 (0)]) h rfl rfl rfl) rfl z53_at rfl
        obtain ⟨σ20, r21, f, g, h⟩ := h
        clear g
        have p22 := x53 hsσ16 r21
        have hsσ20 : HS σ20 := HS_run rfl r21 hsσ16
        refine ⟨σ20, fw_run W53 rfl r21, p22, ?_⟩
        replace h : EV F f 158 z158 47 [some (rf 11 (0)), some (rf 1 (i1)), some (.inr (.inl (x2))), none, some (.inl (Int32.ofInt 0))] [] σ20 (.inl (some (.inr (.inl w))), σ') := h
        replace h := ei_p h rfl rfl rfl rfl
        obtain ⟨f, g, h⟩ := h
        clear g
        replace h : EV F f 158 z158 48 [some (rf 11 (0)), some (rf 1 (i1)), some (.inr (.inl (x2))), none, some (.inl (Int32.ofInt 0))] [.inr (.inl (x2))] σ20 (.inl (some (.inr (.inl w))), σ') := h
        have e := ei_lret h rfl
        cases e
        exact ⟨rfl, rfl⟩
    · skip
      replace hp13 : ¬ ((x2).toInt ≠ (Int64.ofInt (-1)).toInt) := (not_congr (ab_lc .ne _ _)).mp hp13
      refine Or.inr ⟨hp13, ?_⟩
      clear g
      replace h : EV F f 158 z158 16 [some (rf 11 (0)), some (rf 1 (i1)), some (.inr (.inl (x2))), none, none] [] σ (.inl (some (.inr (.inl w))), σ') := h
      replace h := ei_p h rfl rfl rfl rfl
      obtain ⟨f, g, h⟩ := h
      clear g
      replace h : EV F f 158 z158 17 [some (rf 11 (0)), some (rf 1 (i1)), some (.inr (.inl (x2))), none, none] [.inl (Int32.ofInt 1)] σ (.inl (some (.inr (.inl w))), σ') := h
      replace h := ei_p h rfl rfl rfl rfl
      obtain ⟨f, g, h⟩ := h
      clear g
      replace h : EV F f 158 z158 21 [some (rf 11 (0)), some (rf 1 (i1)), some (.inr (.inl (x2))), none, none] [.inl (Int32.ofInt 1)] σ (.inl (some (.inr (.inl w))), σ') := h
      replace h := ei_p h rfl rfl rfl rfl
      obtain ⟨f, g, h⟩ := h
      clear g
      replace h : EV F f 158 z158 23 [some (rf 11 (0)), some (rf 1 (i1)), some (.inr (.inl (x2))), none, some (.inl (Int32.ofInt 1))] [] σ (.inl (some (.inr (.inl w))), σ') := h
      replace h := ei_p h rfl rfl rfl rfl
      obtain ⟨f, g, h⟩ := h
      clear g
      replace h : EV F f 158 z158 25 [some (rf 11 (0)), some (rf 1 (i1)), some (.inr (.inl (x2))), none, some (.inl (Int32.ofInt 1))] [.inl (Int32.ofInt 1)] σ (.inl (some (.inr (.inl w))), σ') := h
      replace h := ei_c h rfl rfl rfl
      rcases h with ⟨hp23, f, g, h⟩ | ⟨hp23, f, g, h⟩
      · skip
        clear g
        replace h : EV F f 158 z158 47 [some (rf 11 (0)), some (rf 1 (i1)), some (.inr (.inl (x2))), none, some (.inl (Int32.ofInt 1))] [] σ (.inl (some (.inr (.inl w))), σ') := h
        replace h := ei_p h rfl rfl rfl rfl
        obtain ⟨f, g, h⟩ := h
        clear g
        replace h : EV F f 158 z158 48 [some (rf 11 (0)), some (rf 1 (i1)), some (.inr (.inl (x2))), none, some (.inl (Int32.ofInt 1))] [.inr (.inl (x2))] σ (.inl (some (.inr (.inl w))), σ') := h
        have e := ei_lret h rfl
        cases e
        exact ⟨rfl, rfl⟩
      · exact absurd (ic_ne.mpr (by decide)) hp23
def z124 : mAl := ((yX11_deposit, cX11_deposit, 4, (some .long), { frames := 7, cells := 4, slots := 27, locals := 190 }, []), rw_X11_deposit, false)
theorem z124_at : m_alF[124]? = some z124 := rfl
abbrev L124 : List (Nat × Nat) := [(0, 1), (0, 2), (1, 0), (1, 1), (1, 2), (1, 3), (1, 4), (1, 5), (1, 6), (1, 7), (1, 8), (1, 9), (1, 10), (1, 11), (1, 12), (1, 13), (1, 14), (1, 15), (2, 5), (2, 6), (2, 7), (2, 8), (2, 9), (2, 10), (3, 3), (3, 4), (3, 5), (5, 2), (6, 2), (6, 3), (6, 4), (6, 5), (6, 6), (6, 7), (6, 8), (6, 9), (6, 10), (7, 1), (7, 2), (7, 3), (7, 4), (7, 5), (7, 6), (7, 7), (7, 8), (7, 9), (7, 10), (7, 11), (7, 12), (8, 1), (8, 2), (8, 3), (8, 4), (8, 5), (8, 6), (8, 7), (8, 8), (10, 0), (10, 1), (10, 2), (10, 3), (10, 4), (10, 5), (10, 6), (10, 7), (10, 8), (10, 9), (11, 3), (11, 4), (11, 5), (13, 0), (14, 0)]
abbrev w124 : Nat → Nat → Bool := wl L124
def S124 : List Nat := [3, 4, 5, 6, 8, 9, 10, 11, 12, 13, 14, 15, 16, 18, 22, 23, 24, 25, 26, 27, 28, 29, 30, 31, 32, 34, 35, 36, 37, 38, 39, 40, 41, 42, 43, 44, 45, 46, 47, 48, 51, 53, 54, 61, 62, 63, 64, 65, 66, 67, 68, 69, 70, 71, 72, 73, 74, 75, 76, 78, 79, 80, 81, 82, 83, 85, 86, 90, 91, 92, 95, 99, 100, 102, 103, 104, 105, 106, 107, 112, 113, 114, 115, 116, 117, 124, 158, 159, 160, 161, 162, 163, 164, 190]
theorem W124 : fw_S w124 S124 = true := by decide +kernel
def J124_36 (u1 : Int32) (u2 : Int32) (t0 : Int32) (τ : mS) (w : mX) (σ' : mS) : Prop := ((∃ σ2, fw_e w162 τ σ2 ∧ P162 τ (t0) (.inl none) σ2 ∧ ∃ σ5, σ5 = m_nu σ2 1 0 ∧ ∃ σ8, fw_e w18 σ5 σ8 ∧ P18 σ5 (σ2.1 1) (Int32.ofInt 0) (u1) (u2) (Int32.ofInt 0) σ8 ∧ ∃ v11 σ12, fw_e w61 σ8 σ12 ∧ P61 σ8 (some (1, σ2.1 1)) v11 σ12 ∧ ∃ v15 σ16, fw_e w158 σ12 σ16 ∧ P158 σ12 (some (1, σ2.1 1)) (v11) v15 σ16 ∧ w = .inl (some (.inr (.inl (v15)))) ∧ σ' = σ16) ∨ (∃ b, P162 τ (t0) (.inr b) σ' ∧ w = .inr b))
theorem j124_36 {F f : Nat} {σ' τ : mS} {u1 : Int32} {u2 : Int32} {t0 : Int32} {y3 : Option mV} {w : mX} (hsτ : HS τ) (h : EV F f 124 z124 36 [some (rf 11 (0)), some (.inl (u1)), some (.inl (u2)), y3] [.inl (t0)] τ (w, σ')) : J124_36 u1 u2 t0 τ w σ' := by
  unfold J124_36
  replace h := bx_0 (ei_s (as := [.inl (t0)]) h rfl (Nat.le_of_ble_eq_true rfl) rfl rfl) z162_at rfl
  rcases h with ⟨σ2, r3, f, g, h⟩ | ⟨b, σ2, r3, e⟩
  · skip
    clear g
    have p4 := x162 hsτ r3
    have hsσ2 : HS σ2 := HS_run rfl r3 hsτ
    refine Or.inl ⟨σ2, fw_run W162 rfl r3, p4, ?_⟩
    replace h : EV F f 124 z124 39 [some (rf 11 (0)), some (.inl (u1)), some (.inl (u2)), y3] [] σ2 (w, σ') := h
    replace h := ei_new h rfl (by decide)
    obtain ⟨f, g, h⟩ := h
    clear g
    obtain ⟨σ5, e6⟩ : ∃ s, s = m_nu σ2 1 0 := ⟨_, rfl⟩
    rw [← e6] at h
    have hsσ5 : HS σ5 := by rw [e6]; exact HS_nu hsσ2 (by decide)
    refine ⟨σ5, e6, ?_⟩
    replace h : EV F f 124 z124 42 [some (rf 11 (0)), some (.inl (u1)), some (.inl (u2)), y3] [rf 1 (σ2.1 1)] σ5 (w, σ') := h
    replace h := ei_p h rfl rfl rfl rfl
    obtain ⟨f, g, h⟩ := h
    clear g
    replace h : EV F f 124 z124 43 [some (rf 11 (0)), some (.inl (u1)), some (.inl (u2)), y3] [rf 1 (σ2.1 1), rf 1 (σ2.1 1)] σ5 (w, σ') := h
    replace h := ei_p h rfl rfl rfl rfl
    obtain ⟨f, g, h⟩ := h
    clear g
    replace h : EV F f 124 z124 44 [some (rf 11 (0)), some (.inl (u1)), some (.inl (u2)), y3] [.inl (Int32.ofInt 0), rf 1 (σ2.1 1), rf 1 (σ2.1 1)] σ5 (w, σ') := h
    replace h := ei_p h rfl rfl rfl rfl
    obtain ⟨f, g, h⟩ := h
    clear g
    replace h : EV F f 124 z124 45 [some (rf 11 (0)), some (.inl (u1)), some (.inl (u2)), y3] [.inl (u1), .inl (Int32.ofInt 0), rf 1 (σ2.1 1), rf 1 (σ2.1 1)] σ5 (w, σ') := h
    replace h := ei_p h rfl rfl rfl rfl
    obtain ⟨f, g, h⟩ := h
    clear g
    replace h : EV F f 124 z124 46 [some (rf 11 (0)), some (.inl (u1)), some (.inl (u2)), y3] [.inl (u2), .inl (u1), .inl (Int32.ofInt 0), rf 1 (σ2.1 1), rf 1 (σ2.1 1)] σ5 (w, σ') := h
    replace h := ei_p h rfl rfl rfl rfl
    obtain ⟨f, g, h⟩ := h
    clear g
    replace h : EV F f 124 z124 47 [some (rf 11 (0)), some (.inl (u1)), some (.inl (u2)), y3] [.inl (Int32.ofInt 0), .inl (u2), .inl (u1), .inl (Int32.ofInt 0), rf 1 (σ2.1 1), rf 1 (σ2.1 1)] σ5 (w, σ') := h
    replace h := bk_0 (ei_x (as := [.inl (Int32.ofInt 0), .inl (u2), .inl (u1), .inl (Int32.ofInt 0)]) h rfl rfl rfl) rfl z18_at rfl
    obtain ⟨σ8, r9, f, g, h⟩ := h
    clear g
    have p10 := x18 hsσ5 r9
    have hsσ8 : HS σ8 := HS_run rfl r9 hsσ5
    refine ⟨σ8, fw_run W18 rfl r9, p10, ?_⟩
    replace h : EV F f 124 z124 50 [some (rf 11 (0)), some (.inl (u1)), some (.inl (u2)), y3] [rf 1 (σ2.1 1)] σ8 (w, σ') := h
    replace h := ei_p h rfl rfl rfl rfl
    obtain ⟨f, g, h⟩ := h
    clear g
    replace h : EV F f 124 z124 51 [some (rf 11 (0)), some (.inl (u1)), some (.inl (u2)), some (rf 1 (σ2.1 1))] [] σ8 (w, σ') := h
    replace h := ei_p h rfl rfl rfl rfl
    obtain ⟨f, g, h⟩ := h
    clear g
    replace h : EV F f 124 z124 52 [some (rf 11 (0)), some (.inl (u1)), some (.inl (u2)), some (rf 1 (σ2.1 1))] [rf 11 (0)] σ8 (w, σ') := h
    replace h := ei_p h rfl rfl rfl rfl
    obtain ⟨f, g, h⟩ := h
    clear g
    replace h : EV F f 124 z124 53 [some (rf 11 (0)), some (.inl (u1)), some (.inl (u2)), some (rf 1 (σ2.1 1))] [rf 1 (σ2.1 1), rf 11 (0)] σ8 (w, σ') := h
    replace h := ei_p h rfl rfl rfl rfl
    obtain ⟨f, g, h⟩ := h
    clear g
    replace h : EV F f 124 z124 54 [some (rf 11 (0)), some (.inl (u1)), some (.inl (u2)), some (rf 1 (σ2.1 1))] [rf 11 (0), rf 1 (σ2.1 1), rf 11 (0)] σ8 (w, σ') := h
    replace h := ei_get h rfl (HS_g11_0 hsσ8)
    obtain ⟨f, g, h⟩ := h
    clear g
    replace h : EV F f 124 z124 57 [some (rf 11 (0)), some (.inl (u1)), some (.inl (u2)), some (rf 1 (σ2.1 1))] [rf 4 (0), rf 1 (σ2.1 1), rf 11 (0)] σ8 (w, σ') := h
    replace h := ei_p h rfl rfl rfl rfl
    obtain ⟨f, g, h⟩ := h
    clear g
    replace h : EV F f 124 z124 58 [some (rf 11 (0)), some (.inl (u1)), some (.inl (u2)), some (rf 1 (σ2.1 1))] [rf 1 (σ2.1 1), rf 4 (0), rf 1 (σ2.1 1), rf 11 (0)] σ8 (w, σ') := h
    replace h := bk_L (ei_v (as := [rf 1 (σ2.1 1)]) h rfl rfl rfl) rfl z61_at rfl
    obtain ⟨v11, σ12, r13, f, g, h⟩ := h
    clear g
    have p14 := x61 hsσ8 r13
    have hsσ12 : HS σ12 := HS_run rfl r13 hsσ8
    refine ⟨v11, σ12, fw_run W61 rfl r13, p14, ?_⟩
    replace h : EV F f 124 z124 61 [some (rf 11 (0)), some (.inl (u1)), some (.inl (u2)), some (rf 1 (σ2.1 1))] [.inr (.inl (v11)), rf 1 (σ2.1 1), rf 11 (0)] σ12 (w, σ') := h
    replace h := bk_L (ei_v (as := [.inr (.inl (v11)), rf 1 (σ2.1 1)]) h rfl rfl rfl) rfl z158_at rfl
    obtain ⟨v15, σ16, r17, f, g, h⟩ := h
    clear g
    have p18 := x158 hsσ12 r17
    have hsσ16 : HS σ16 := HS_run rfl r17 hsσ12
    refine ⟨v15, σ16, fw_run W158 rfl r17, p18, ?_⟩
    replace h : EV F f 124 z124 64 [some (rf 11 (0)), some (.inl (u1)), some (.inl (u2)), some (rf 1 (σ2.1 1))] [.inr (.inl (v15))] σ16 (w, σ') := h
    have e := ei_lret h rfl
    cases e
    exact ⟨rfl, rfl⟩
  · skip
    have p4 := x162 hsτ r3
    cases e
    exact Or.inr ⟨b, p4, rfl⟩
def P124 (σ : mS) (x1 : Int32) (x2 : Int32) (w : mX) (σ' : mS) : Prop := ∃ v1, P164 σ (x1) v1 ∧ ((∃ σ6, fw_e w160 σ σ6 ∧ P160 σ (v1) (.inl none) σ6 ∧ ∃ v9, P163 σ6 (x2) (Int32.ofInt 1) (Int32.ofInt 1000000) v9 ∧ ((∃ σ14, fw_e w161 σ6 σ14 ∧ P161 σ6 (v9) (.inl none) σ14 ∧ ∃ v17, P26 σ14 (x1) v17 ∧ (((v17).toInt ≠ (0 : Int) ∧ J124_36 (x1) (x2) (Int32.ofInt 0) σ14 w σ') ∨ (¬ ((v17).toInt ≠ (0 : Int)) ∧ J124_36 (x1) (x2) (Int32.ofInt 1) σ14 w σ'))) ∨ (∃ b, P161 σ6 (v9) (.inr b) σ' ∧ w = .inr b))) ∨ (∃ b, P160 σ (v1) (.inr b) σ' ∧ w = .inr b))
theorem x124 {σ σ' : mS} {x1 : Int32} {x2 : Int32} {w : mX} (hs : HS σ) (h : ev_run sm_all 124 [rf 11 (0), .inl (x1), .inl (x2)] σ (w) σ') : P124 σ x1 x2 w σ' := by
  unfold P124
  obtain ⟨F, f, h⟩ := ei_go h z124_at
  replace h : EV F f 124 z124 0 [some (rf 11 (0)), some (.inl (x1)), some (.inl (x2)), none] [] σ (w, σ') := h
  replace h := ei_p h rfl rfl rfl rfl
  obtain ⟨f, g, h⟩ := h
  clear g
  replace h : EV F f 124 z124 1 [some (rf 11 (0)), some (.inl (x1)), some (.inl (x2)), none] [.inl (x1)] σ (w, σ') := h
  replace h := bk_I (ei_s (as := [.inl (x1)]) h rfl (Nat.le_of_ble_eq_true rfl) rfl rfl) rfl z164_at (Or.inr rfl)
  obtain ⟨v1, σ2, r3, f, g, h⟩ := h
  clear g
  have er3 := ro_run rfl r3
  rw [er3] at h r3
  have p4 := x164 hs r3
  refine ⟨v1, p4, ?_⟩
  replace h : EV F f 124 z124 4 [some (rf 11 (0)), some (.inl (x1)), some (.inl (x2)), none] [.inl (v1)] σ (w, σ') := h
  replace h := bx_0 (ei_s (as := [.inl (v1)]) h rfl (Nat.le_of_ble_eq_true rfl) rfl rfl) z160_at rfl
  rcases h with ⟨σ6, r7, f, g, h⟩ | ⟨b, σ6, r7, e⟩
  · skip
    clear g
    have p8 := x160 hs r7
    have hsσ6 : HS σ6 := HS_run rfl r7 hs
    refine Or.inl ⟨σ6, fw_run W160 rfl r7, p8, ?_⟩
    replace h : EV F f 124 z124 7 [some (rf 11 (0)), some (.inl (x1)), some (.inl (x2)), none] [] σ6 (w, σ') := h
    replace h := ei_p h rfl rfl rfl rfl
    obtain ⟨f, g, h⟩ := h
    clear g
    replace h : EV F f 124 z124 8 [some (rf 11 (0)), some (.inl (x1)), some (.inl (x2)), none] [.inl (x2)] σ6 (w, σ') := h
    replace h := ei_p h rfl rfl rfl rfl
    obtain ⟨f, g, h⟩ := h
    clear g
    replace h : EV F f 124 z124 9 [some (rf 11 (0)), some (.inl (x1)), some (.inl (x2)), none] [.inl (Int32.ofInt 1), .inl (x2)] σ6 (w, σ') := h
    replace h := ei_p h rfl rfl rfl rfl
    obtain ⟨f, g, h⟩ := h
    clear g
    replace h : EV F f 124 z124 11 [some (rf 11 (0)), some (.inl (x1)), some (.inl (x2)), none] [.inl (Int32.ofInt 1000000), .inl (Int32.ofInt 1), .inl (x2)] σ6 (w, σ') := h
    replace h := bk_I (ei_s (as := [.inl (Int32.ofInt 1000000), .inl (Int32.ofInt 1), .inl (x2)]) h rfl (Nat.le_of_ble_eq_true rfl) rfl rfl) rfl z163_at (Or.inr rfl)
    obtain ⟨v9, σ10, r11, f, g, h⟩ := h
    clear g
    have er11 := ro_run rfl r11
    rw [er11] at h r11
    have p12 := x163 hsσ6 r11
    refine ⟨v9, p12, ?_⟩
    replace h : EV F f 124 z124 14 [some (rf 11 (0)), some (.inl (x1)), some (.inl (x2)), none] [.inl (v9)] σ6 (w, σ') := h
    replace h := bx_0 (ei_s (as := [.inl (v9)]) h rfl (Nat.le_of_ble_eq_true rfl) rfl rfl) z161_at rfl
    rcases h with ⟨σ14, r15, f, g, h⟩ | ⟨b, σ14, r15, e⟩
    · skip
      clear g
      have p16 := x161 hsσ6 r15
      have hsσ14 : HS σ14 := HS_run rfl r15 hsσ6
      refine Or.inl ⟨σ14, fw_run W161 rfl r15, p16, ?_⟩
      replace h : EV F f 124 z124 17 [some (rf 11 (0)), some (.inl (x1)), some (.inl (x2)), none] [] σ14 (w, σ') := h
      replace h := ei_p h rfl rfl rfl rfl
      obtain ⟨f, g, h⟩ := h
      clear g
      replace h : EV F f 124 z124 18 [some (rf 11 (0)), some (.inl (x1)), some (.inl (x2)), none] [rf 11 (0)] σ14 (w, σ') := h
      replace h := ei_get h rfl (HS_g11_0 hsσ14)
      obtain ⟨f, g, h⟩ := h
      clear g
      replace h : EV F f 124 z124 21 [some (rf 11 (0)), some (.inl (x1)), some (.inl (x2)), none] [rf 4 (0)] σ14 (w, σ') := h
      replace h := ei_get h rfl (HS_g4_1 hsσ14)
      obtain ⟨f, g, h⟩ := h
      clear g
      replace h : EV F f 124 z124 24 [some (rf 11 (0)), some (.inl (x1)), some (.inl (x2)), none] [rf 2 (0)] σ14 (w, σ') := h
      replace h := ei_p h rfl rfl rfl rfl
      obtain ⟨f, g, h⟩ := h
      clear g
      replace h : EV F f 124 z124 25 [some (rf 11 (0)), some (.inl (x1)), some (.inl (x2)), none] [.inl (x1), rf 2 (0)] σ14 (w, σ') := h
      replace h := bk_I (ei_v (as := [.inl (x1)]) h rfl rfl rfl) rfl z26_at (Or.inr rfl)
      obtain ⟨v17, σ18, r19, f, g, h⟩ := h
      clear g
      have er19 := ro_run rfl r19
      rw [er19] at h r19
      have p20 := x26 hsσ14 r19
      refine ⟨v17, p20, ?_⟩
      replace h : EV F f 124 z124 28 [some (rf 11 (0)), some (.inl (x1)), some (.inl (x2)), none] [.inl (v17)] σ14 (w, σ') := h
      replace h := ei_c h rfl rfl rfl
      rcases h with ⟨hp21, f, g, h⟩ | ⟨hp21, f, g, h⟩
      · skip
        replace hp21 : (v17).toInt ≠ (0 : Int) := ic_ne.mp hp21
        refine Or.inl ⟨hp21, ?_⟩
        clear g
        replace h : EV F f 124 z124 35 [some (rf 11 (0)), some (.inl (x1)), some (.inl (x2)), none] [] σ14 (w, σ') := h
        replace h := ei_p h rfl rfl rfl rfl
        obtain ⟨f, g, h⟩ := h
        clear g
        replace h : EV F f 124 z124 36 [some (rf 11 (0)), some (.inl (x1)), some (.inl (x2)), none] [.inl (Int32.ofInt 0)] σ14 (w, σ') := h
        exact j124_36 hsσ14 h
      · skip
        replace hp21 : ¬ ((v17).toInt ≠ (0 : Int)) := (not_congr ic_ne).mp hp21
        refine Or.inr ⟨hp21, ?_⟩
        clear g
        replace h : EV F f 124 z124 31 [some (rf 11 (0)), some (.inl (x1)), some (.inl (x2)), none] [] σ14 (w, σ') := h
        replace h := ei_p h rfl rfl rfl rfl
        obtain ⟨f, g, h⟩ := h
        clear g
        replace h : EV F f 124 z124 32 [some (rf 11 (0)), some (.inl (x1)), some (.inl (x2)), none] [.inl (Int32.ofInt 1)] σ14 (w, σ') := h
        replace h := ei_p h rfl rfl rfl rfl
        obtain ⟨f, g, h⟩ := h
        clear g
        replace h : EV F f 124 z124 36 [some (rf 11 (0)), some (.inl (x1)), some (.inl (x2)), none] [.inl (Int32.ofInt 1)] σ14 (w, σ') := h
        exact j124_36 hsσ14 h
    · skip
      have p16 := x161 hsσ6 r15
      cases e
      exact Or.inr ⟨b, p16, rfl⟩
  · skip
    have p8 := x160 hs r7
    cases e
    exact Or.inr ⟨b, p8, rfl⟩
def z165 : mAl := ((yX11_isMemberOrHouse, cX11_isMemberOrHouse, 1, (some .boolean), { frames := 2, cells := 0, slots := 0, locals := 42 }, []), rw_X11_isMemberOrHouse, false)
theorem z165_at : m_alF[165]? = some z165 := rfl
def P165 (σ : mS) (x1 : Int32) (w : Int32) : Prop := (((x1).toInt = (-1 : Int) ∧ w = (Int32.ofInt 1)) ∨ (¬ ((x1).toInt = (-1 : Int)) ∧ ∃ v2, P164 σ (x1) v2 ∧ (((v2).toInt = (0 : Int) ∧ w = (Int32.ofInt 0)) ∨ (¬ ((v2).toInt = (0 : Int)) ∧ w = (Int32.ofInt 1)))))
theorem x165 {σ σ' : mS} {x1 : Int32} {w : Int32} (hs : HS σ) (h : ev_run sm_all 165 [.inl (x1)] σ (.inl (some (.inl w))) σ') : P165 σ x1 w := by
  unfold P165
  obtain ⟨F, f, h⟩ := ei_go h z165_at
  replace h : EV F f 165 z165 0 [some (.inl (x1))] [] σ (.inl (some (.inl w)), σ') := h
  replace h := ei_p h rfl rfl rfl rfl
  obtain ⟨f, g, h⟩ := h
  clear g
  replace h : EV F f 165 z165 1 [some (.inl (x1))] [.inl (x1)] σ (.inl (some (.inl w)), σ') := h
  replace h := ei_p h rfl rfl rfl rfl
  obtain ⟨f, g, h⟩ := h
  clear g
  replace h : EV F f 165 z165 2 [some (.inl (x1))] [.inl (Int32.ofInt (-1)), .inl (x1)] σ (.inl (some (.inl w)), σ') := h
  replace h := ei_c h rfl rfl rfl
  rcases h with ⟨hp1, f, g, h⟩ | ⟨hp1, f, g, h⟩
  · skip
    replace hp1 : (x1).toInt = (-1 : Int) := ic_eq.mp hp1
    refine Or.inl ⟨hp1, ?_⟩
    clear g
    replace h : EV F f 165 z165 12 [some (.inl (x1))] [] σ (.inl (some (.inl w)), σ') := h
    replace h := ei_p h rfl rfl rfl rfl
    obtain ⟨f, g, h⟩ := h
    clear g
    replace h : EV F f 165 z165 13 [some (.inl (x1))] [.inl (Int32.ofInt 1)] σ (.inl (some (.inl w)), σ') := h
    replace h := ei_p h rfl rfl rfl rfl
    obtain ⟨f, g, h⟩ := h
    clear g
    replace h : EV F f 165 z165 17 [some (.inl (x1))] [.inl (Int32.ofInt 1)] σ (.inl (some (.inl w)), σ') := h
    have e := ei_iret h rfl
    cases e
    exact rfl
  · skip
    replace hp1 : ¬ ((x1).toInt = (-1 : Int)) := (not_congr ic_eq).mp hp1
    refine Or.inr ⟨hp1, ?_⟩
    clear g
    replace h : EV F f 165 z165 5 [some (.inl (x1))] [] σ (.inl (some (.inl w)), σ') := h
    replace h := ei_p h rfl rfl rfl rfl
    obtain ⟨f, g, h⟩ := h
    clear g
    replace h : EV F f 165 z165 6 [some (.inl (x1))] [.inl (x1)] σ (.inl (some (.inl w)), σ') := h
    replace h := bk_I (ei_s (as := [.inl (x1)]) h rfl (Nat.le_of_ble_eq_true rfl) rfl rfl) rfl z164_at (Or.inr rfl)
    obtain ⟨v2, σ3, r4, f, g, h⟩ := h
    clear g
    have er4 := ro_run rfl r4
    rw [er4] at h r4
    have p5 := x164 hs r4
    refine ⟨v2, p5, ?_⟩
    replace h : EV F f 165 z165 9 [some (.inl (x1))] [.inl (v2)] σ (.inl (some (.inl w)), σ') := h
    replace h := ei_c h rfl rfl rfl
    rcases h with ⟨hp6, f, g, h⟩ | ⟨hp6, f, g, h⟩
    · skip
      replace hp6 : (v2).toInt = (0 : Int) := ic_eq.mp hp6
      refine Or.inl ⟨hp6, ?_⟩
      clear g
      replace h : EV F f 165 z165 16 [some (.inl (x1))] [] σ (.inl (some (.inl w)), σ') := h
      replace h := ei_p h rfl rfl rfl rfl
      obtain ⟨f, g, h⟩ := h
      clear g
      replace h : EV F f 165 z165 17 [some (.inl (x1))] [.inl (Int32.ofInt 0)] σ (.inl (some (.inl w)), σ') := h
      have e := ei_iret h rfl
      cases e
      exact rfl
    · skip
      replace hp6 : ¬ ((v2).toInt = (0 : Int)) := (not_congr ic_eq).mp hp6
      refine Or.inr ⟨hp6, ?_⟩
      clear g
      replace h : EV F f 165 z165 12 [some (.inl (x1))] [] σ (.inl (some (.inl w)), σ') := h
      replace h := ei_p h rfl rfl rfl rfl
      obtain ⟨f, g, h⟩ := h
      clear g
      replace h : EV F f 165 z165 13 [some (.inl (x1))] [.inl (Int32.ofInt 1)] σ (.inl (some (.inl w)), σ') := h
      replace h := ei_p h rfl rfl rfl rfl
      obtain ⟨f, g, h⟩ := h
      clear g
      replace h : EV F f 165 z165 17 [some (.inl (x1))] [.inl (Int32.ofInt 1)] σ (.inl (some (.inl w)), σ') := h
      have e := ei_iret h rfl
      cases e
      exact rfl
