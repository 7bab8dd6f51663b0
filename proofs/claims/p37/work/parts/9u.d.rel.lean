/-! the class's methods as relations: 34 undoTrade, 35 hasTraded, 116 divideBy, 90 positionIn, 36 divide, 38 payDividendTo, 37 payDividend, 39 worthOf, 41 lossBy, 40 marginOf -/
def z34 : mAl := ((yX2_undoTrade, cX2_undoTrade, 10, none, { frames := 1, cells := 0, slots := 0, locals := 25 }, []), rw_X2_undoTrade, false)
theorem z34_at : m_alF[34]? = some z34 := rfl
abbrev L34 : List (Nat × Nat) := [(6, 2), (10, 9), (14, 0)]
abbrev w34 : Nat → Nat → Bool := wl L34
def S34 : List Nat := [22, 24, 25, 34, 91]
theorem W34 : fw_S w34 S34 = true := by decide +kernel
def P34 (σ : mS) (x1 : Int32) (σ' : mS) : Prop := ∃ v1, P25 σ (x1) v1 ∧ ((v1 = none ∧ σ' = σ) ∨ (∃ q6, v1 = some q6 ∧ ∃ i9, (some q6 : mR) = some (10, i9) ∧ (((0 : Int) < (m_i σ 10 (i9) 6).toInt ∧ ∃ v12, P24 σ (m_i σ 10 (i9) 0) v12 ∧ ∃ v16, P22 σ (m_i σ 10 (i9) 3) v16 ∧ ∃ v20, P22 σ (m_i σ 10 (i9) 4) v20 ∧ ((v12 = none ∧ σ' = σ) ∨ (∃ q25, v12 = some q25 ∧ ((v16 = none ∧ σ' = σ) ∨ (∃ q29, v16 = some q29 ∧ ((v20 = none ∧ σ' = σ) ∨ (∃ q33, v20 = some q33 ∧ ∃ i36, (some q25 : mR) = some (8, i36) ∧ ∃ n39, n39 = ((m_i σ 10 (i9) 2).toInt64) * (((m_i σ 8 (i36) 6) / (m_i σ 10 (i9) 6)).toInt64) ∧ ∃ n41, n41 = ((m_i σ 10 (i9) 1).toInt64) * ((m_i σ 10 (i9) 2).toInt64) ∧ ∃ i43, (some q29 : mR) = some (6, i43) ∧ ∃ σ46, fw_e w91 σ σ46 ∧ P91 σ (i43) (m_i σ 8 (i36) 0) (-(n39)) ((n41) + (m_l σ 10 (i9) 7)) σ46 ∧ ∃ i49, (some q33 : mR) = some (6, i49) ∧ ∃ σ52, fw_e w91 σ46 σ52 ∧ P91 σ46 (i49) (m_i σ46 8 (i36) 0) (n39) ((-(n41)) + (m_l σ46 10 (i9) 8)) σ52 ∧ ∃ σ56, σ56 = m_set σ52 6 (0) (2) (.inr (.inl ((m_l σ52 6 (0) 2) - ((m_l σ52 10 (i9) 7) + (m_l σ52 10 (i9) 8))))) ∧ ∃ σ59, σ59 = m_set σ56 10 (i9) (9) (.inl (Int32.ofInt 1)) ∧ σ' = σ59))))))) ∨ (¬ ((0 : Int) < (m_i σ 10 (i9) 6).toInt) ∧ σ' = σ))))
theorem x34 {σ σ' : mS} {x1 : Int32} (hs : HS σ) (h : ev_run sm_all 34 [rf 2 (0), .inl (x1)] σ (.inl none) σ') : P34 σ x1 σ' := by
  unfold P34
  obtain ⟨F, f, h⟩ := ei_go h z34_at
  replace h : EV F f 34 z34 0 [some (rf 2 (0)), some (.inl (x1)), none, none, none, none, none, none, none, none] [] σ (.inl none, σ') := h
  replace h := ei_p h rfl rfl rfl rfl
  obtain ⟨f, g, h⟩ := h
  clear g
  replace h : EV F f 34 z34 1 [some (rf 2 (0)), some (.inl (x1)), none, none, none, none, none, none, none, none] [rf 2 (0)] σ (.inl none, σ') := h
  replace h := ei_p h rfl rfl rfl rfl
  obtain ⟨f, g, h⟩ := h
  clear g
  replace h : EV F f 34 z34 2 [some (rf 2 (0)), some (.inl (x1)), none, none, none, none, none, none, none, none] [.inl (x1), rf 2 (0)] σ (.inl none, σ') := h
  replace h := bk_R (ei_v (as := [.inl (x1)]) h rfl rfl rfl) rfl z25_at rfl
  obtain ⟨v1, σ2, r3, f, g, h⟩ := h
  clear g
  have er3 := ro_run rfl r3
  rw [er3] at h r3
  have p4 := x25 hs r3
  refine ⟨v1, p4, ?_⟩
  replace h : EV F f 34 z34 5 [some (rf 2 (0)), some (.inl (x1)), none, none, none, none, none, none, none, none] [.inr (.inr (v1))] σ (.inl none, σ') := h
  replace h := ei_p h rfl rfl rfl rfl
  obtain ⟨f, g, h⟩ := h
  clear g
  replace h : EV F f 34 z34 6 [some (rf 2 (0)), some (.inl (x1)), some (.inr (.inr (v1))), none, none, none, none, none, none, none] [] σ (.inl none, σ') := h
  replace h := ei_p h rfl rfl rfl rfl
  obtain ⟨f, g, h⟩ := h
  clear g
  replace h : EV F f 34 z34 7 [some (rf 2 (0)), some (.inl (x1)), some (.inr (.inr (v1))), none, none, none, none, none, none, none] [.inr (.inr (v1))] σ (.inl none, σ') := h
  rcases r_cs (v1) with e5 | ⟨q6, e5⟩
  · skip
    rw [e5] at h
    refine Or.inl ⟨e5, ?_⟩
    replace h : EV F f 34 z34 7 [some (rf 2 (0)), some (.inl (x1)), some (.inr (.inr none)), none, none, none, none, none, none, none] [.inr (.inr none)] σ (.inl none, σ') := h
    replace h := ei_c h rfl rfl rfl
    rcases h with ⟨hp7, f, g, h⟩ | ⟨hp7, f, g, h⟩
    · skip
      clear g
      replace h : EV F f 34 z34 17 [some (rf 2 (0)), some (.inl (x1)), some (.inr (.inr none)), none, none, none, none, none, none, none] [] σ (.inl none, σ') := h
      have e := ei_ret h rfl
      cases e
      exact rfl
    · exact absurd rfl hp7
  · skip
    rw [e5] at h
    refine Or.inr ⟨q6, e5, ?_⟩
    replace h : EV F f 34 z34 7 [some (rf 2 (0)), some (.inl (x1)), some (.inr (.inr (some q6))), none, none, none, none, none, none, none] [.inr (.inr (some q6))] σ (.inl none, σ') := h
    replace h := ei_c h rfl rfl rfl
    rcases h with ⟨hp8, f, g, h⟩ | ⟨hp8, f, g, h⟩
    · exact absurd hp8 (fun z => by cases z)
    · skip
      clear g
      replace h : EV F f 34 z34 10 [some (rf 2 (0)), some (.inl (x1)), some (.inr (.inr (some q6))), none, none, none, none, none, none, none] [] σ (.inl none, σ') := h
      replace h := ei_p h rfl rfl rfl rfl
      obtain ⟨f, g, h⟩ := h
      clear g
      replace h : EV F f 34 z34 11 [some (rf 2 (0)), some (.inl (x1)), some (.inr (.inr (some q6))), none, none, none, none, none, none, none] [.inr (.inr (some q6))] σ (.inl none, σ') := h
      obtain ⟨i9, e10⟩ := ei_gp h rfl
      rw [Option.some.inj e10] at h
      refine ⟨i9, e10, ?_⟩
      replace h : EV F f 34 z34 11 [some (rf 2 (0)), some (.inl (x1)), some (rf 10 (i9)), none, none, none, none, none, none, none] [rf 10 (i9)] σ (.inl none, σ') := h
      replace h := ei_get h rfl rfl
      obtain ⟨f, g, h⟩ := h
      clear g
      replace h : EV F f 34 z34 14 [some (rf 2 (0)), some (.inl (x1)), some (rf 10 (i9)), none, none, none, none, none, none, none] [.inl (m_i σ 10 (i9) 6)] σ (.inl none, σ') := h
      replace h := ei_c h rfl rfl rfl
      rcases h with ⟨hp11, f, g, h⟩ | ⟨hp11, f, g, h⟩
      · skip
        replace hp11 : (0 : Int) < (m_i σ 10 (i9) 6).toInt := ic_gt.mp hp11
        refine Or.inl ⟨hp11, ?_⟩
        clear g
        replace h : EV F f 34 z34 18 [some (rf 2 (0)), some (.inl (x1)), some (rf 10 (i9)), none, none, none, none, none, none, none] [] σ (.inl none, σ') := h
        replace h := ei_p h rfl rfl rfl rfl
        obtain ⟨f, g, h⟩ := h
        clear g
        replace h : EV F f 34 z34 19 [some (rf 2 (0)), some (.inl (x1)), some (rf 10 (i9)), none, none, none, none, none, none, none] [rf 2 (0)] σ (.inl none, σ') := h
        replace h := ei_p h rfl rfl rfl rfl
        obtain ⟨f, g, h⟩ := h
        clear g
        replace h : EV F f 34 z34 20 [some (rf 2 (0)), some (.inl (x1)), some (rf 10 (i9)), none, none, none, none, none, none, none] [rf 10 (i9), rf 2 (0)] σ (.inl none, σ') := h
        replace h := ei_get h rfl rfl
        obtain ⟨f, g, h⟩ := h
        clear g
        replace h : EV F f 34 z34 23 [some (rf 2 (0)), some (.inl (x1)), some (rf 10 (i9)), none, none, none, none, none, none, none] [.inl (m_i σ 10 (i9) 0), rf 2 (0)] σ (.inl none, σ') := h
        replace h := bk_R (ei_v (as := [.inl (m_i σ 10 (i9) 0)]) h rfl rfl rfl) rfl z24_at rfl
        obtain ⟨v12, σ13, r14, f, g, h⟩ := h
        clear g
        have er14 := ro_run rfl r14
        rw [er14] at h r14
        have p15 := x24 hs r14
        refine ⟨v12, p15, ?_⟩
        replace h : EV F f 34 z34 26 [some (rf 2 (0)), some (.inl (x1)), some (rf 10 (i9)), none, none, none, none, none, none, none] [.inr (.inr (v12))] σ (.inl none, σ') := h
        replace h := ei_p h rfl rfl rfl rfl
        obtain ⟨f, g, h⟩ := h
        clear g
        replace h : EV F f 34 z34 27 [some (rf 2 (0)), some (.inl (x1)), some (rf 10 (i9)), some (.inr (.inr (v12))), none, none, none, none, none, none] [] σ (.inl none, σ') := h
        replace h := ei_p h rfl rfl rfl rfl
        obtain ⟨f, g, h⟩ := h
        clear g
        replace h : EV F f 34 z34 28 [some (rf 2 (0)), some (.inl (x1)), some (rf 10 (i9)), some (.inr (.inr (v12))), none, none, none, none, none, none] [rf 2 (0)] σ (.inl none, σ') := h
        replace h := ei_p h rfl rfl rfl rfl
        obtain ⟨f, g, h⟩ := h
        clear g
        replace h : EV F f 34 z34 29 [some (rf 2 (0)), some (.inl (x1)), some (rf 10 (i9)), some (.inr (.inr (v12))), none, none, none, none, none, none] [rf 10 (i9), rf 2 (0)] σ (.inl none, σ') := h
        replace h := ei_get h rfl rfl
        obtain ⟨f, g, h⟩ := h
        clear g
        replace h : EV F f 34 z34 32 [some (rf 2 (0)), some (.inl (x1)), some (rf 10 (i9)), some (.inr (.inr (v12))), none, none, none, none, none, none] [.inl (m_i σ 10 (i9) 3), rf 2 (0)] σ (.inl none, σ') := h
        replace h := bk_R (ei_v (as := [.inl (m_i σ 10 (i9) 3)]) h rfl rfl rfl) rfl z22_at rfl
        obtain ⟨v16, σ17, r18, f, g, h⟩ := h
        clear g
        have er18 := ro_run rfl r18
        rw [er18] at h r18
        have p19 := x22 hs r18
        refine ⟨v16, p19, ?_⟩
        replace h : EV F f 34 z34 35 [some (rf 2 (0)), some (.inl (x1)), some (rf 10 (i9)), some (.inr (.inr (v12))), none, none, none, none, none, none] [.inr (.inr (v16))] σ (.inl none, σ') := h
        replace h := ei_p h rfl rfl rfl rfl
        obtain ⟨f, g, h⟩ := h
        clear g
        replace h : EV F f 34 z34 37 [some (rf 2 (0)), some (.inl (x1)), some (rf 10 (i9)), some (.inr (.inr (v12))), some (.inr (.inr (v16))), none, none, none, none, none] [] σ (.inl none, σ') := h
        replace h := ei_p h rfl rfl rfl rfl
        obtain ⟨f, g, h⟩ := h
        clear g
        replace h : EV F f 34 z34 38 [some (rf 2 (0)), some (.inl (x1)), some (rf 10 (i9)), some (.inr (.inr (v12))), some (.inr (.inr (v16))), none, none, none, none, none] [rf 2 (0)] σ (.inl none, σ') := h
        replace h := ei_p h rfl rfl rfl rfl
        obtain ⟨f, g, h⟩ := h
        clear g
        replace h : EV F f 34 z34 39 [some (rf 2 (0)), some (.inl (x1)), some (rf 10 (i9)), some (.inr (.inr (v12))), some (.inr (.inr (v16))), none, none, none, none, none] [rf 10 (i9), rf 2 (0)] σ (.inl none, σ') := h
        replace h := ei_get h rfl rfl
        obtain ⟨f, g, h⟩ := h
        clear g
        replace h : EV F f 34 z34 42 [some (rf 2 (0)), some (.inl (x1)), some (rf 10 (i9)), some (.inr (.inr (v12))), some (.inr (.inr (v16))), none, none, none, none, none] [.inl (m_i σ 10 (i9) 4), rf 2 (0)] σ (.inl none, σ') := h
        replace h := bk_R (ei_v (as := [.inl (m_i σ 10 (i9) 4)]) h rfl rfl rfl) rfl z22_at rfl
        obtain ⟨v20, σ21, r22, f, g, h⟩ := h
        clear g
        have er22 := ro_run rfl r22
        rw [er22] at h r22
        have p23 := x22 hs r22
        refine ⟨v20, p23, ?_⟩
        replace h : EV F f 34 z34 45 [some (rf 2 (0)), some (.inl (x1)), some (rf 10 (i9)), some (.inr (.inr (v12))), some (.inr (.inr (v16))), none, none, none, none, none] [.inr (.inr (v20))] σ (.inl none, σ') := h
        replace h := ei_p h rfl rfl rfl rfl
        obtain ⟨f, g, h⟩ := h
        clear g
        replace h : EV F f 34 z34 47 [some (rf 2 (0)), some (.inl (x1)), some (rf 10 (i9)), some (.inr (.inr (v12))), some (.inr (.inr (v16))), some (.inr (.inr (v20))), none, none, none, none] [] σ (.inl none, σ') := h
        replace h := ei_p h rfl rfl rfl rfl
        obtain ⟨f, g, h⟩ := h
        clear g
        replace h : EV F f 34 z34 48 [some (rf 2 (0)), some (.inl (x1)), some (rf 10 (i9)), some (.inr (.inr (v12))), some (.inr (.inr (v16))), some (.inr (.inr (v20))), none, none, none, none] [.inr (.inr (v12))] σ (.inl none, σ') := h
        rcases r_cs (v12) with e24 | ⟨q25, e24⟩
        · skip
          rw [e24] at h
          refine Or.inl ⟨e24, ?_⟩
          replace h : EV F f 34 z34 48 [some (rf 2 (0)), some (.inl (x1)), some (rf 10 (i9)), some (.inr (.inr none)), some (.inr (.inr (v16))), some (.inr (.inr (v20))), none, none, none, none] [.inr (.inr none)] σ (.inl none, σ') := h
          replace h := ei_c h rfl rfl rfl
          rcases h with ⟨hp26, f, g, h⟩ | ⟨hp26, f, g, h⟩
          · skip
            clear g
            replace h : EV F f 34 z34 61 [some (rf 2 (0)), some (.inl (x1)), some (rf 10 (i9)), some (.inr (.inr none)), some (.inr (.inr (v16))), some (.inr (.inr (v20))), none, none, none, none] [] σ (.inl none, σ') := h
            have e := ei_ret h rfl
            cases e
            exact rfl
          · exact absurd rfl hp26
        · skip
          rw [e24] at h
          refine Or.inr ⟨q25, e24, ?_⟩
          replace h : EV F f 34 z34 48 [some (rf 2 (0)), some (.inl (x1)), some (rf 10 (i9)), some (.inr (.inr (some q25))), some (.inr (.inr (v16))), some (.inr (.inr (v20))), none, none, none, none] [.inr (.inr (some q25))] σ (.inl none, σ') := h
          replace h := ei_c h rfl rfl rfl
          rcases h with ⟨hp27, f, g, h⟩ | ⟨hp27, f, g, h⟩
          · exact absurd hp27 (fun z => by cases z)
          · skip
            clear g
            replace h : EV F f 34 z34 51 [some (rf 2 (0)), some (.inl (x1)), some (rf 10 (i9)), some (.inr (.inr (some q25))), some (.inr (.inr (v16))), some (.inr (.inr (v20))), none, none, none, none] [] σ (.inl none, σ') := h
            replace h := ei_p h rfl rfl rfl rfl
            obtain ⟨f, g, h⟩ := h
            clear g
            replace h : EV F f 34 z34 53 [some (rf 2 (0)), some (.inl (x1)), some (rf 10 (i9)), some (.inr (.inr (some q25))), some (.inr (.inr (v16))), some (.inr (.inr (v20))), none, none, none, none] [.inr (.inr (v16))] σ (.inl none, σ') := h
            rcases r_cs (v16) with e28 | ⟨q29, e28⟩
            · skip
              rw [e28] at h
              refine Or.inl ⟨e28, ?_⟩
              replace h : EV F f 34 z34 53 [some (rf 2 (0)), some (.inl (x1)), some (rf 10 (i9)), some (.inr (.inr (some q25))), some (.inr (.inr none)), some (.inr (.inr (v20))), none, none, none, none] [.inr (.inr none)] σ (.inl none, σ') := h
              replace h := ei_c h rfl rfl rfl
              rcases h with ⟨hp30, f, g, h⟩ | ⟨hp30, f, g, h⟩
              · skip
                clear g
                replace h : EV F f 34 z34 61 [some (rf 2 (0)), some (.inl (x1)), some (rf 10 (i9)), some (.inr (.inr (some q25))), some (.inr (.inr none)), some (.inr (.inr (v20))), none, none, none, none] [] σ (.inl none, σ') := h
                have e := ei_ret h rfl
                cases e
                exact rfl
              · exact absurd rfl hp30
            · skip
              rw [e28] at h
              refine Or.inr ⟨q29, e28, ?_⟩
              replace h : EV F f 34 z34 53 [some (rf 2 (0)), some (.inl (x1)), some (rf 10 (i9)), some (.inr (.inr (some q25))), some (.inr (.inr (some q29))), some (.inr (.inr (v20))), none, none, none, none] [.inr (.inr (some q29))] σ (.inl none, σ') := h
              replace h := ei_c h rfl rfl rfl
              rcases h with ⟨hp31, f, g, h⟩ | ⟨hp31, f, g, h⟩
              · exact absurd hp31 (fun z => by cases z)
              · skip
                clear g
                replace h : EV F f 34 z34 56 [some (rf 2 (0)), some (.inl (x1)), some (rf 10 (i9)), some (.inr (.inr (some q25))), some (.inr (.inr (some q29))), some (.inr (.inr (v20))), none, none, none, none] [] σ (.inl none, σ') := h
                replace h := ei_p h rfl rfl rfl rfl
                obtain ⟨f, g, h⟩ := h
                clear g
                replace h : EV F f 34 z34 58 [some (rf 2 (0)), some (.inl (x1)), some (rf 10 (i9)), some (.inr (.inr (some q25))), some (.inr (.inr (some q29))), some (.inr (.inr (v20))), none, none, none, none] [.inr (.inr (v20))] σ (.inl none, σ') := h
                rcases r_cs (v20) with e32 | ⟨q33, e32⟩
                · skip
                  rw [e32] at h
                  refine Or.inl ⟨e32, ?_⟩
                  replace h : EV F f 34 z34 58 [some (rf 2 (0)), some (.inl (x1)), some (rf 10 (i9)), some (.inr (.inr (some q25))), some (.inr (.inr (some q29))), some (.inr (.inr none)), none, none, none, none] [.inr (.inr none)] σ (.inl none, σ') := h
                  replace h := ei_c h rfl rfl rfl
                  rcases h with ⟨hp34, f, g, h⟩ | ⟨hp34, f, g, h⟩
                  · exact absurd rfl hp34
                  · skip
                    clear g
                    replace h : EV F f 34 z34 61 [some (rf 2 (0)), some (.inl (x1)), some (rf 10 (i9)), some (.inr (.inr (some q25))), some (.inr (.inr (some q29))), some (.inr (.inr none)), none, none, none, none] [] σ (.inl none, σ') := h
                    have e := ei_ret h rfl
                    cases e
                    exact rfl
                · skip
                  rw [e32] at h
                  refine Or.inr ⟨q33, e32, ?_⟩
                  replace h : EV F f 34 z34 58 [some (rf 2 (0)), some (.inl (x1)), some (rf 10 (i9)), some (.inr (.inr (some q25))), some (.inr (.inr (some q29))), some (.inr (.inr (some q33))), none, none, none, none] [.inr (.inr (some q33))] σ (.inl none, σ') := h
                  replace h := ei_c h rfl rfl rfl
                  rcases h with ⟨hp35, f, g, h⟩ | ⟨hp35, f, g, h⟩
                  · skip
                    clear g
                    replace h : EV F f 34 z34 62 [some (rf 2 (0)), some (.inl (x1)), some (rf 10 (i9)), some (.inr (.inr (some q25))), some (.inr (.inr (some q29))), some (.inr (.inr (some q33))), none, none, none, none] [] σ (.inl none, σ') := h
                    replace h := ei_p h rfl rfl rfl rfl
                    obtain ⟨f, g, h⟩ := h
                    clear g
                    replace h : EV F f 34 z34 63 [some (rf 2 (0)), some (.inl (x1)), some (rf 10 (i9)), some (.inr (.inr (some q25))), some (.inr (.inr (some q29))), some (.inr (.inr (some q33))), none, none, none, none] [rf 10 (i9)] σ (.inl none, σ') := h
                    replace h := ei_get h rfl rfl
                    obtain ⟨f, g, h⟩ := h
                    clear g
                    replace h : EV F f 34 z34 66 [some (rf 2 (0)), some (.inl (x1)), some (rf 10 (i9)), some (.inr (.inr (some q25))), some (.inr (.inr (some q29))), some (.inr (.inr (some q33))), none, none, none, none] [.inl (m_i σ 10 (i9) 2)] σ (.inl none, σ') := h
                    replace h := ei_p h rfl rfl rfl rfl
                    obtain ⟨f, g, h⟩ := h
                    clear g
                    replace h : EV F f 34 z34 67 [some (rf 2 (0)), some (.inl (x1)), some (rf 10 (i9)), some (.inr (.inr (some q25))), some (.inr (.inr (some q29))), some (.inr (.inr (some q33))), none, none, none, none] [.inr (.inl ((m_i σ 10 (i9) 2).toInt64))] σ (.inl none, σ') := h
                    replace h := ei_p h rfl rfl rfl rfl
                    obtain ⟨f, g, h⟩ := h
                    clear g
                    replace h : EV F f 34 z34 68 [some (rf 2 (0)), some (.inl (x1)), some (rf 10 (i9)), some (.inr (.inr (some q25))), some (.inr (.inr (some q29))), some (.inr (.inr (some q33))), none, none, none, none] [.inr (.inr (some q25)), .inr (.inl ((m_i σ 10 (i9) 2).toInt64))] σ (.inl none, σ') := h
                    obtain ⟨i36, e37⟩ := ei_gp h rfl
                    rw [Option.some.inj e37] at h
                    refine ⟨i36, e37, ?_⟩
                    replace h : EV F f 34 z34 68 [some (rf 2 (0)), some (.inl (x1)), some (rf 10 (i9)), some (rf 8 (i36)), some (.inr (.inr (some q29))), some (.inr (.inr (some q33))), none, none, none, none] [rf 8 (i36), .inr (.inl ((m_i σ 10 (i9) 2).toInt64))] σ (.inl none, σ') := h
                    replace h := ei_get h rfl rfl
                    obtain ⟨f, g, h⟩ := h
                    clear g
                    replace h : EV F f 34 z34 71 [some (rf 2 (0)), some (.inl (x1)), some (rf 10 (i9)), some (rf 8 (i36)), some (.inr (.inr (some q29))), some (.inr (.inr (some q33))), none, none, none, none] [.inl (m_i σ 8 (i36) 6), .inr (.inl ((m_i σ 10 (i9) 2).toInt64))] σ (.inl none, σ') := h
                    replace h := ei_p h rfl rfl rfl rfl
                    obtain ⟨f, g, h⟩ := h
                    clear g
                    replace h : EV F f 34 z34 72 [some (rf 2 (0)), some (.inl (x1)), some (rf 10 (i9)), some (rf 8 (i36)), some (.inr (.inr (some q29))), some (.inr (.inr (some q33))), none, none, none, none] [rf 10 (i9), .inl (m_i σ 8 (i36) 6), .inr (.inl ((m_i σ 10 (i9) 2).toInt64))] σ (.inl none, σ') := h
                    replace h := ei_get h rfl rfl
                    obtain ⟨f, g, h⟩ := h
                    clear g
                    replace h : EV F f 34 z34 75 [some (rf 2 (0)), some (.inl (x1)), some (rf 10 (i9)), some (rf 8 (i36)), some (.inr (.inr (some q29))), some (.inr (.inr (some q33))), none, none, none, none] [.inl (m_i σ 10 (i9) 6), .inl (m_i σ 8 (i36) 6), .inr (.inl ((m_i σ 10 (i9) 2).toInt64))] σ (.inl none, σ') := h
                    replace h := ei_idiv h rfl
                    obtain ⟨hd38, f, g, h⟩ := h
                    clear g
                    replace h : EV F f 34 z34 76 [some (rf 2 (0)), some (.inl (x1)), some (rf 10 (i9)), some (rf 8 (i36)), some (.inr (.inr (some q29))), some (.inr (.inr (some q33))), none, none, none, none] [.inl ((m_i σ 8 (i36) 6) / (m_i σ 10 (i9) 6)), .inr (.inl ((m_i σ 10 (i9) 2).toInt64))] σ (.inl none, σ') := h
                    replace h := ei_p h rfl rfl rfl rfl
                    obtain ⟨f, g, h⟩ := h
                    clear g
                    replace h : EV F f 34 z34 77 [some (rf 2 (0)), some (.inl (x1)), some (rf 10 (i9)), some (rf 8 (i36)), some (.inr (.inr (some q29))), some (.inr (.inr (some q33))), none, none, none, none] [.inr (.inl (((m_i σ 8 (i36) 6) / (m_i σ 10 (i9) 6)).toInt64)), .inr (.inl ((m_i σ 10 (i9) 2).toInt64))] σ (.inl none, σ') := h
                    replace h := ei_p h rfl rfl rfl rfl
                    obtain ⟨f, g, h⟩ := h
                    clear g
                    replace h : EV F f 34 z34 78 [some (rf 2 (0)), some (.inl (x1)), some (rf 10 (i9)), some (rf 8 (i36)), some (.inr (.inr (some q29))), some (.inr (.inr (some q33))), none, none, none, none] [.inr (.inl (((m_i σ 10 (i9) 2).toInt64) * (((m_i σ 8 (i36) 6) / (m_i σ 10 (i9) 6)).toInt64)))] σ (.inl none, σ') := h
                    replace h := ei_p h rfl rfl rfl rfl
                    obtain ⟨f, g, h⟩ := h
                    clear g
                    replace h : EV F f 34 z34 80 [some (rf 2 (0)), some (.inl (x1)), some (rf 10 (i9)), some (rf 8 (i36)), some (.inr (.inr (some q29))), some (.inr (.inr (some q33))), some (.inr (.inl (((m_i σ 10 (i9) 2).toInt64) * (((m_i σ 8 (i36) 6) / (m_i σ 10 (i9) 6)).toInt64)))), none, none, none] [] σ (.inl none, σ') := h
                    obtain ⟨n39, e40⟩ : ∃ s, s = ((m_i σ 10 (i9) 2).toInt64) * (((m_i σ 8 (i36) 6) / (m_i σ 10 (i9) 6)).toInt64) := ⟨_, rfl⟩
                    rw [← e40] at h
                    refine ⟨n39, e40, ?_⟩
                    replace h : EV F f 34 z34 80 [some (rf 2 (0)), some (.inl (x1)), some (rf 10 (i9)), some (rf 8 (i36)), some (.inr (.inr (some q29))), some (.inr (.inr (some q33))), some (.inr (.inl (n39))), none, none, none] [] σ (.inl none, σ') := h
                    replace h := ei_p h rfl rfl rfl rfl
                    obtain ⟨f, g, h⟩ := h
                    clear g
                    replace h : EV F f 34 z34 81 [some (rf 2 (0)), some (.inl (x1)), some (rf 10 (i9)), some (rf 8 (i36)), some (.inr (.inr (some q29))), some (.inr (.inr (some q33))), some (.inr (.inl (n39))), none, none, none] [rf 10 (i9)] σ (.inl none, σ') := h
                    replace h := ei_get h rfl rfl
                    obtain ⟨f, g, h⟩ := h
                    clear g
                    replace h : EV F f 34 z34 84 [some (rf 2 (0)), some (.inl (x1)), some (rf 10 (i9)), some (rf 8 (i36)), some (.inr (.inr (some q29))), some (.inr (.inr (some q33))), some (.inr (.inl (n39))), none, none, none] [.inl (m_i σ 10 (i9) 1)] σ (.inl none, σ') := h
                    replace h := ei_p h rfl rfl rfl rfl
                    obtain ⟨f, g, h⟩ := h
                    clear g
                    replace h : EV F f 34 z34 85 [some (rf 2 (0)), some (.inl (x1)), some (rf 10 (i9)), some (rf 8 (i36)), some (.inr (.inr (some q29))), some (.inr (.inr (some q33))), some (.inr (.inl (n39))), none, none, none] [.inr (.inl ((m_i σ 10 (i9) 1).toInt64))] σ (.inl none, σ') := h
                    replace h := ei_p h rfl rfl rfl rfl
                    obtain ⟨f, g, h⟩ := h
                    clear g
                    replace h : EV F f 34 z34 86 [some (rf 2 (0)), some (.inl (x1)), some (rf 10 (i9)), some (rf 8 (i36)), some (.inr (.inr (some q29))), some (.inr (.inr (some q33))), some (.inr (.inl (n39))), none, none, none] [rf 10 (i9), .inr (.inl ((m_i σ 10 (i9) 1).toInt64))] σ (.inl none, σ') := h
                    replace h := ei_get h rfl rfl
                    obtain ⟨f, g, h⟩ := h
                    clear g
                    replace h : EV F f 34 z34 89 [some (rf 2 (0)), some (.inl (x1)), some (rf 10 (i9)), some (rf 8 (i36)), some (.inr (.inr (some q29))), some (.inr (.inr (some q33))), some (.inr (.inl (n39))), none, none, none] [.inl (m_i σ 10 (i9) 2), .inr (.inl ((m_i σ 10 (i9) 1).toInt64))] σ (.inl none, σ') := h
                    replace h := ei_p h rfl rfl rfl rfl
                    obtain ⟨f, g, h⟩ := h
                    clear g
                    replace h : EV F f 34 z34 90 [some (rf 2 (0)), some (.inl (x1)), some (rf 10 (i9)), some (rf 8 (i36)), some (.inr (.inr (some q29))), some (.inr (.inr (some q33))), some (.inr (.inl (n39))), none, none, none] [.inr (.inl ((m_i σ 10 (i9) 2).toInt64)), .inr (.inl ((m_i σ 10 (i9) 1).toInt64))] σ (.inl none, σ') := h
                    replace h := ei_p h rfl rfl rfl rfl
                    obtain ⟨f, g, h⟩ := h
                    clear g
                    replace h : EV F f 34 z34 91 [some (rf 2 (0)), some (.inl (x1)), some (rf 10 (i9)), some (rf 8 (i36)), some (.inr (.inr (some q29))), some (.inr (.inr (some q33))), some (.inr (.inl (n39))), none, none, none] [.inr (.inl (((m_i σ 10 (i9) 1).toInt64) * ((m_i σ 10 (i9) 2).toInt64)))] σ (.inl none, σ') := h
                    replace h := ei_p h rfl rfl rfl rfl
                    obtain ⟨f, g, h⟩ := h
                    clear g
                    replace h : EV F f 34 z34 93 [some (rf 2 (0)), some (.inl (x1)), some (rf 10 (i9)), some (rf 8 (i36)), some (.inr (.inr (some q29))), some (.inr (.inr (some q33))), some (.inr (.inl (n39))), none, some (.inr (.inl (((m_i σ 10 (i9) 1).toInt64) * ((m_i σ 10 (i9) 2).toInt64)))), none] [] σ (.inl none, σ') := h
                    obtain ⟨n41, e42⟩ : ∃ s, s = ((m_i σ 10 (i9) 1).toInt64) * ((m_i σ 10 (i9) 2).toInt64) := ⟨_, rfl⟩
                    rw [← e42] at h
                    refine ⟨n41, e42, ?_⟩
                    replace h : EV F f 34 z34 93 [some (rf 2 (0)), some (.inl (x1)), some (rf 10 (i9)), some (rf 8 (i36)), some (.inr (.inr (some q29))), some (.inr (.inr (some q33))), some (.inr (.inl (n39))), none, some (.inr (.inl (n41))), none] [] σ (.inl none, σ') := h
                    replace h := ei_p h rfl rfl rfl rfl
                    obtain ⟨f, g, h⟩ := h
                    clear g
                    replace h : EV F f 34 z34 95 [some (rf 2 (0)), some (.inl (x1)), some (rf 10 (i9)), some (rf 8 (i36)), some (.inr (.inr (some q29))), some (.inr (.inr (some q33))), some (.inr (.inl (n39))), none, some (.inr (.inl (n41))), none] [.inr (.inr (some q29))] σ (.inl none, σ') := h
                    replace h := ei_p h rfl rfl rfl rfl
                    obtain ⟨f, g, h⟩ := h
                    clear g
                    replace h : EV F f 34 z34 96 [some (rf 2 (0)), some (.inl (x1)), some (rf 10 (i9)), some (rf 8 (i36)), some (.inr (.inr (some q29))), some (.inr (.inr (some q33))), some (.inr (.inl (n39))), none, some (.inr (.inl (n41))), none] [rf 8 (i36), .inr (.inr (some q29))] σ (.inl none, σ') := h
                    replace h := ei_get h rfl rfl
                    obtain ⟨f, g, h⟩ := h
                    clear g
                    replace h : EV F f 34 z34 99 [some (rf 2 (0)), some (.inl (x1)), some (rf 10 (i9)), some (rf 8 (i36)), some (.inr (.inr (some q29))), some (.inr (.inr (some q33))), some (.inr (.inl (n39))), none, some (.inr (.inl (n41))), none] [.inl (m_i σ 8 (i36) 0), .inr (.inr (some q29))] σ (.inl none, σ') := h
                    replace h := ei_p h rfl rfl rfl rfl
                    obtain ⟨f, g, h⟩ := h
                    clear g
                    replace h : EV F f 34 z34 101 [some (rf 2 (0)), some (.inl (x1)), some (rf 10 (i9)), some (rf 8 (i36)), some (.inr (.inr (some q29))), some (.inr (.inr (some q33))), some (.inr (.inl (n39))), none, some (.inr (.inl (n41))), none] [.inr (.inl (n39)), .inl (m_i σ 8 (i36) 0), .inr (.inr (some q29))] σ (.inl none, σ') := h
                    replace h := ei_p h rfl rfl rfl rfl
                    obtain ⟨f, g, h⟩ := h
                    clear g
                    replace h : EV F f 34 z34 102 [some (rf 2 (0)), some (.inl (x1)), some (rf 10 (i9)), some (rf 8 (i36)), some (.inr (.inr (some q29))), some (.inr (.inr (some q33))), some (.inr (.inl (n39))), none, some (.inr (.inl (n41))), none] [.inr (.inl (-(n39))), .inl (m_i σ 8 (i36) 0), .inr (.inr (some q29))] σ (.inl none, σ') := h
                    replace h := ei_p h rfl rfl rfl rfl
                    obtain ⟨f, g, h⟩ := h
                    clear g
                    replace h : EV F f 34 z34 104 [some (rf 2 (0)), some (.inl (x1)), some (rf 10 (i9)), some (rf 8 (i36)), some (.inr (.inr (some q29))), some (.inr (.inr (some q33))), some (.inr (.inl (n39))), none, some (.inr (.inl (n41))), none] [.inr (.inl (n41)), .inr (.inl (-(n39))), .inl (m_i σ 8 (i36) 0), .inr (.inr (some q29))] σ (.inl none, σ') := h
                    replace h := ei_p h rfl rfl rfl rfl
                    obtain ⟨f, g, h⟩ := h
                    clear g
                    replace h : EV F f 34 z34 105 [some (rf 2 (0)), some (.inl (x1)), some (rf 10 (i9)), some (rf 8 (i36)), some (.inr (.inr (some q29))), some (.inr (.inr (some q33))), some (.inr (.inl (n39))), none, some (.inr (.inl (n41))), none] [rf 10 (i9), .inr (.inl (n41)), .inr (.inl (-(n39))), .inl (m_i σ 8 (i36) 0), .inr (.inr (some q29))] σ (.inl none, σ') := h
                    replace h := ei_get h rfl rfl
                    obtain ⟨f, g, h⟩ := h
                    clear g
                    replace h : EV F f 34 z34 108 [some (rf 2 (0)), some (.inl (x1)), some (rf 10 (i9)), some (rf 8 (i36)), some (.inr (.inr (some q29))), some (.inr (.inr (some q33))), some (.inr (.inl (n39))), none, some (.inr (.inl (n41))), none] [.inr (.inl (m_l σ 10 (i9) 7)), .inr (.inl (n41)), .inr (.inl (-(n39))), .inl (m_i σ 8 (i36) 0), .inr (.inr (some q29))] σ (.inl none, σ') := h
                    replace h := ei_p h rfl rfl rfl rfl
                    obtain ⟨f, g, h⟩ := h
                    clear g
                    replace h : EV F f 34 z34 109 [some (rf 2 (0)), some (.inl (x1)), some (rf 10 (i9)), some (rf 8 (i36)), some (.inr (.inr (some q29))), some (.inr (.inr (some q33))), some (.inr (.inl (n39))), none, some (.inr (.inl (n41))), none] [.inr (.inl ((n41) + (m_l σ 10 (i9) 7))), .inr (.inl (-(n39))), .inl (m_i σ 8 (i36) 0), .inr (.inr (some q29))] σ (.inl none, σ') := h
                    obtain ⟨i43, e44⟩ := ei_vp (as := [.inr (.inl ((n41) + (m_l σ 10 (i9) 7))), .inr (.inl (-(n39))), .inl (m_i σ 8 (i36) 0)]) h rfl rfl
                    rw [Option.some.inj e44] at h
                    refine ⟨i43, e44, ?_⟩
                    replace h : EV F f 34 z34 109 [some (rf 2 (0)), some (.inl (x1)), some (rf 10 (i9)), some (rf 8 (i36)), some (rf 6 (i43)), some (.inr (.inr (some q33))), some (.inr (.inl (n39))), none, some (.inr (.inl (n41))), none] [.inr (.inl ((n41) + (m_l σ 10 (i9) 7))), .inr (.inl (-(n39))), .inl (m_i σ 8 (i36) 0), rf 6 (i43)] σ (.inl none, σ') := h
                    replace h := bk_0 (ei_v (as := [.inr (.inl ((n41) + (m_l σ 10 (i9) 7))), .inr (.inl (-(n39))), .inl (m_i σ 8 (i36) 0)]) h rfl rfl rfl) rfl z91_at rfl
                    obtain ⟨σ46, r47, f, g, h⟩ := h
                    clear g
                    have p48 := x91 hs r47
                    have hsσ46 : HS σ46 := HS_run rfl r47 hs
                    refine ⟨σ46, fw_run W91 rfl r47, p48, ?_⟩
                    replace h : EV F f 34 z34 112 [some (rf 2 (0)), some (.inl (x1)), some (rf 10 (i9)), some (rf 8 (i36)), some (rf 6 (i43)), some (.inr (.inr (some q33))), some (.inr (.inl (n39))), none, some (.inr (.inl (n41))), none] [] σ46 (.inl none, σ') := h
                    replace h := ei_p h rfl rfl rfl rfl
                    obtain ⟨f, g, h⟩ := h
                    clear g
                    replace h : EV F f 34 z34 114 [some (rf 2 (0)), some (.inl (x1)), some (rf 10 (i9)), some (rf 8 (i36)), some (rf 6 (i43)), some (.inr (.inr (some q33))), some (.inr (.inl (n39))), none, some (.inr (.inl (n41))), none] [.inr (.inr (some q33))] σ46 (.inl none, σ') := h
                    replace h := ei_p h rfl rfl rfl rfl
                    obtain ⟨f, g, h⟩ := h
                    clear g
                    replace h : EV F f 34 z34 115 [some (rf 2 (0)), some (.inl (x1)), some (rf 10 (i9)), some (rf 8 (i36)), some (rf 6 (i43)), some (.inr (.inr (some q33))), some (.inr (.inl (n39))), none, some (.inr (.inl (n41))), none] [rf 8 (i36), .inr (.inr (some q33))] σ46 (.inl none, σ') := h
                    replace h := ei_get h rfl rfl
                    obtain ⟨f, g, h⟩ := h
                    clear g
                    replace h : EV F f 34 z34 118 [some (rf 2 (0)), some (.inl (x1)), some (rf 10 (i9)), some (rf 8 (i36)), some (rf 6 (i43)), some (.inr (.inr (some q33))), some (.inr (.inl (n39))), none, some (.inr (.inl (n41))), none] [.inl (m_i σ46 8 (i36) 0), .inr (.inr (some q33))] σ46 (.inl none, σ') := h
                    replace h := ei_p h rfl rfl rfl rfl
                    obtain ⟨f, g, h⟩ := h
                    clear g
                    replace h : EV F f 34 z34 120 [some (rf 2 (0)), some (.inl (x1)), some (rf 10 (i9)), some (rf 8 (i36)), some (rf 6 (i43)), some (.inr (.inr (some q33))), some (.inr (.inl (n39))), none, some (.inr (.inl (n41))), none] [.inr (.inl (n39)), .inl (m_i σ46 8 (i36) 0), .inr (.inr (some q33))] σ46 (.inl none, σ') := h
                    replace h := ei_p h rfl rfl rfl rfl
                    obtain ⟨f, g, h⟩ := h
                    clear g
                    replace h : EV F f 34 z34 122 [some (rf 2 (0)), some (.inl (x1)), some (rf 10 (i9)), some (rf 8 (i36)), some (rf 6 (i43)), some (.inr (.inr (some q33))), some (.inr (.inl (n39))), none, some (.inr (.inl (n41))), none] [.inr (.inl (n41)), .inr (.inl (n39)), .inl (m_i σ46 8 (i36) 0), .inr (.inr (some q33))] σ46 (.inl none, σ') := h
                    replace h := ei_p h rfl rfl rfl rfl
                    obtain ⟨f, g, h⟩ := h
                    clear g
                    replace h : EV F f 34 z34 123 [some (rf 2 (0)), some (.inl (x1)), some (rf 10 (i9)), some (rf 8 (i36)), some (rf 6 (i43)), some (.inr (.inr (some q33))), some (.inr (.inl (n39))), none, some (.inr (.inl (n41))), none] [.inr (.inl (-(n41))), .inr (.inl (n39)), .inl (m_i σ46 8 (i36) 0), .inr (.inr (some q33))] σ46 (.inl none, σ') := h
                    replace h := ei_p h rfl rfl rfl rfl
                    obtain ⟨f, g, h⟩ := h
                    clear g
                    replace h : EV F f 34 z34 124 [some (rf 2 (0)), some (.inl (x1)), some (rf 10 (i9)), some (rf 8 (i36)), some (rf 6 (i43)), some (.inr (.inr (some q33))), some (.inr (.inl (n39))), none, some (.inr (.inl (n41))), none] [rf 10 (i9), .inr (.inl (-(n41))), .inr (.inl (n39)), .inl (m_i σ46 8 (i36) 0), .inr (.inr (some q33))] σ46 (.inl none, σ') := h
                    replace h := ei_get h rfl rfl
                    obtain ⟨f, g, h⟩ := h
                    clear g
                    replace h : EV F f 34 z34 127 [some (rf 2 (0)), some (.inl (x1)), some (rf 10 (i9)), some (rf 8 (i36)), some (rf 6 (i43)), some (.inr (.inr (some q33))), some (.inr (.inl (n39))), none, some (.inr (.inl (n41))), none] [.inr (.inl (m_l σ46 10 (i9) 8)), .inr (.inl (-(n41))), .inr (.inl (n39)), .inl (m_i σ46 8 (i36) 0), .inr (.inr (some q33))] σ46 (.inl none, σ') := h
                    replace h := ei_p h rfl rfl rfl rfl
                    obtain ⟨f, g, h⟩ := h
                    clear g
                    replace h : EV F f 34 z34 128 [some (rf 2 (0)), some (.inl (x1)), some (rf 10 (i9)), some (rf 8 (i36)), some (rf 6 (i43)), some (.inr (.inr (some q33))), some (.inr (.inl (n39))), none, some (.inr (.inl (n41))), none] [.inr (.inl ((-(n41)) + (m_l σ46 10 (i9) 8))), .inr (.inl (n39)), .inl (m_i σ46 8 (i36) 0), .inr (.inr (some q33))] σ46 (.inl none, σ') := h
                    obtain ⟨i49, e50⟩ := ei_vp (as := [.inr (.inl ((-(n41)) + (m_l σ46 10 (i9) 8))), .inr (.inl (n39)), .inl (m_i σ46 8 (i36) 0)]) h rfl rfl
                    rw [Option.some.inj e50] at h
                    refine ⟨i49, e50, ?_⟩
                    replace h : EV F f 34 z34 128 [some (rf 2 (0)), some (.inl (x1)), some (rf 10 (i9)), some (rf 8 (i36)), some (rf 6 (i43)), some (rf 6 (i49)), some (.inr (.inl (n39))), none, some (.inr (.inl (n41))), none] [.inr (.inl ((-(n41)) + (m_l σ46 10 (i9) 8))), .inr (.inl (n39)), .inl (m_i σ46 8 (i36) 0), rf 6 (i49)] σ46 (.inl none, σ') := h
                    replace h := bk_0 (ei_v (as := [.inr (.inl ((-(n41)) + (m_l σ46 10 (i9) 8))), .inr (.inl (n39)), .inl (m_i σ46 8 (i36) 0)]) h rfl rfl rfl) rfl z91_at rfl
                    obtain ⟨σ52, r53, f, g, h⟩ := h
                    clear g
                    have p54 := x91 hsσ46 r53
                    have hsσ52 : HS σ52 := HS_run rfl r53 hsσ46
                    refine ⟨σ52, fw_run W91 rfl r53, p54, ?_⟩
                    replace h : EV F f 34 z34 131 [some (rf 2 (0)), some (.inl (x1)), some (rf 10 (i9)), some (rf 8 (i36)), some (rf 6 (i43)), some (rf 6 (i49)), some (.inr (.inl (n39))), none, some (.inr (.inl (n41))), none] [] σ52 (.inl none, σ') := h
                    replace h := ei_p h rfl rfl rfl rfl
                    obtain ⟨f, g, h⟩ := h
                    clear g
                    replace h : EV F f 34 z34 132 [some (rf 2 (0)), some (.inl (x1)), some (rf 10 (i9)), some (rf 8 (i36)), some (rf 6 (i43)), some (rf 6 (i49)), some (.inr (.inl (n39))), none, some (.inr (.inl (n41))), none] [rf 2 (0)] σ52 (.inl none, σ') := h
                    replace h := ei_get h rfl (HS_g2_1 hsσ52)
                    obtain ⟨f, g, h⟩ := h
                    clear g
                    replace h : EV F f 34 z34 135 [some (rf 2 (0)), some (.inl (x1)), some (rf 10 (i9)), some (rf 8 (i36)), some (rf 6 (i43)), some (rf 6 (i49)), some (.inr (.inl (n39))), none, some (.inr (.inl (n41))), none] [rf 6 (0)] σ52 (.inl none, σ') := h
                    replace h := ei_p h rfl rfl rfl rfl
                    obtain ⟨f, g, h⟩ := h
                    clear g
                    replace h : EV F f 34 z34 136 [some (rf 2 (0)), some (.inl (x1)), some (rf 10 (i9)), some (rf 8 (i36)), some (rf 6 (i43)), some (rf 6 (i49)), some (.inr (.inl (n39))), none, some (.inr (.inl (n41))), none] [rf 6 (0), rf 6 (0)] σ52 (.inl none, σ') := h
                    replace h := ei_get h rfl rfl
                    obtain ⟨f, g, h⟩ := h
                    clear g
                    replace h : EV F f 34 z34 139 [some (rf 2 (0)), some (.inl (x1)), some (rf 10 (i9)), some (rf 8 (i36)), some (rf 6 (i43)), some (rf 6 (i49)), some (.inr (.inl (n39))), none, some (.inr (.inl (n41))), none] [.inr (.inl (m_l σ52 6 (0) 2)), rf 6 (0)] σ52 (.inl none, σ') := h
                    replace h := ei_p h rfl rfl rfl rfl
                    obtain ⟨f, g, h⟩ := h
                    clear g
                    replace h : EV F f 34 z34 140 [some (rf 2 (0)), some (.inl (x1)), some (rf 10 (i9)), some (rf 8 (i36)), some (rf 6 (i43)), some (rf 6 (i49)), some (.inr (.inl (n39))), none, some (.inr (.inl (n41))), none] [rf 10 (i9), .inr (.inl (m_l σ52 6 (0) 2)), rf 6 (0)] σ52 (.inl none, σ') := h
                    replace h := ei_get h rfl rfl
                    obtain ⟨f, g, h⟩ := h
                    clear g
                    replace h : EV F f 34 z34 143 [some (rf 2 (0)), some (.inl (x1)), some (rf 10 (i9)), some (rf 8 (i36)), some (rf 6 (i43)), some (rf 6 (i49)), some (.inr (.inl (n39))), none, some (.inr (.inl (n41))), none] [.inr (.inl (m_l σ52 10 (i9) 7)), .inr (.inl (m_l σ52 6 (0) 2)), rf 6 (0)] σ52 (.inl none, σ') := h
                    replace h := ei_p h rfl rfl rfl rfl
                    obtain ⟨f, g, h⟩ := h
                    clear g
                    replace h : EV F f 34 z34 144 [some (rf 2 (0)), some (.inl (x1)), some (rf 10 (i9)), some (rf 8 (i36)), some (rf 6 (i43)), some (rf 6 (i49)), some (.inr (.inl (n39))), none, some (.inr (.inl (n41))), none] [rf 10 (i9), .inr (.inl (m_l σ52 10 (i9) 7)), .inr (.inl (m_l σ52 6 (0) 2)), rf 6 (0)] σ52 (.inl none, σ') := h
                    replace h := ei_get h rfl rfl
                    obtain ⟨f, g, h⟩ := h
                    clear g
                    replace h : EV F f 34 z34 147 [some (rf 2 (0)), some (.inl (x1)), some (rf 10 (i9)), some (rf 8 (i36)), some (rf 6 (i43)), some (rf 6 (i49)), some (.inr (.inl (n39))), none, some (.inr (.inl (n41))), none] [.inr (.inl (m_l σ52 10 (i9) 8)), .inr (.inl (m_l σ52 10 (i9) 7)), .inr (.inl (m_l σ52 6 (0) 2)), rf 6 (0)] σ52 (.inl none, σ') := h
                    replace h := ei_p h rfl rfl rfl rfl
                    obtain ⟨f, g, h⟩ := h
                    clear g
                    replace h : EV F f 34 z34 148 [some (rf 2 (0)), some (.inl (x1)), some (rf 10 (i9)), some (rf 8 (i36)), some (rf 6 (i43)), some (rf 6 (i49)), some (.inr (.inl (n39))), none, some (.inr (.inl (n41))), none] [.inr (.inl ((m_l σ52 10 (i9) 7) + (m_l σ52 10 (i9) 8))), .inr (.inl (m_l σ52 6 (0) 2)), rf 6 (0)] σ52 (.inl none, σ') := h
                    replace h := ei_p h rfl rfl rfl rfl
                    obtain ⟨f, g, h⟩ := h
                    clear g
                    replace h : EV F f 34 z34 149 [some (rf 2 (0)), some (.inl (x1)), some (rf 10 (i9)), some (rf 8 (i36)), some (rf 6 (i43)), some (rf 6 (i49)), some (.inr (.inl (n39))), none, some (.inr (.inl (n41))), none] [.inr (.inl ((m_l σ52 6 (0) 2) - ((m_l σ52 10 (i9) 7) + (m_l σ52 10 (i9) 8)))), rf 6 (0)] σ52 (.inl none, σ') := h
                    replace h := ei_put h rfl
                    obtain ⟨ht55, f, g, h⟩ := h
                    clear g
                    obtain ⟨σ56, e57⟩ : ∃ s, s = m_set σ52 6 (0) (2) (.inr (.inl ((m_l σ52 6 (0) 2) - ((m_l σ52 10 (i9) 7) + (m_l σ52 10 (i9) 8))))) := ⟨_, rfl⟩
                    rw [← e57] at h
                    have hsσ56 : HS σ56 := by rw [e57]; exact HS_set hsσ52 rfl
                    refine ⟨σ56, e57, ?_⟩
                    replace h : EV F f 34 z34 152 [some (rf 2 (0)), some (.inl (x1)), some (rf 10 (i9)), some (rf 8 (i36)), some (rf 6 (i43)), some (rf 6 (i49)), some (.inr (.inl (n39))), none, some (.inr (.inl (n41))), none] [] σ56 (.inl none, σ') := h
                    replace h := ei_p h rfl rfl rfl rfl
                    obtain ⟨f, g, h⟩ := h
                    clear g
                    replace h : EV F f 34 z34 153 [some (rf 2 (0)), some (.inl (x1)), some (rf 10 (i9)), some (rf 8 (i36)), some (rf 6 (i43)), some (rf 6 (i49)), some (.inr (.inl (n39))), none, some (.inr (.inl (n41))), none] [rf 10 (i9)] σ56 (.inl none, σ') := h
                    replace h := ei_p h rfl rfl rfl rfl
                    obtain ⟨f, g, h⟩ := h
                    clear g
                    replace h : EV F f 34 z34 154 [some (rf 2 (0)), some (.inl (x1)), some (rf 10 (i9)), some (rf 8 (i36)), some (rf 6 (i43)), some (rf 6 (i49)), some (.inr (.inl (n39))), none, some (.inr (.inl (n41))), none] [.inl (Int32.ofInt 1), rf 10 (i9)] σ56 (.inl none, σ') := h
                    replace h := ei_put h rfl
                    obtain ⟨ht58, f, g, h⟩ := h
                    clear g
                    obtain ⟨σ59, e60⟩ : ∃ s, s = m_set σ56 10 (i9) (9) (.inl (Int32.ofInt 1)) := ⟨_, rfl⟩
                    rw [← e60] at h
                    have hsσ59 : HS σ59 := by rw [e60]; exact HS_set hsσ56 rfl
                    refine ⟨σ59, e60, ?_⟩
                    replace h : EV F f 34 z34 157 [some (rf 2 (0)), some (.inl (x1)), some (rf 10 (i9)), some (rf 8 (i36)), some (rf 6 (i43)), some (rf 6 (i49)), some (.inr (.inl (n39))), none, some (.inr (.inl (n41))), none] [] σ59 (.inl none, σ') := h
                    have e := ei_ret h rfl
                    cases e
                    exact rfl
                  · exact absurd (fun z => by cases z) hp35
      · skip
        replace hp11 : ¬ ((0 : Int) < (m_i σ 10 (i9) 6).toInt) := (not_congr ic_gt).mp hp11
        refine Or.inr ⟨hp11, ?_⟩
        clear g
        replace h : EV F f 34 z34 17 [some (rf 2 (0)), some (.inl (x1)), some (rf 10 (i9)), none, none, none, none, none, none, none] [] σ (.inl none, σ') := h
        have e := ei_ret h rfl
        cases e
        exact rfl
def z35 : mAl := ((yX2_hasTraded, cX2_hasTraded, 8, (some .boolean), { frames := 0, cells := 0, slots := 0, locals := 0 }, []), rw_X2_hasTraded, false)
theorem z35_at : m_alF[35]? = some z35 := rfl
abbrev B35_3 (σ : mS) (c1 : Int32) (c2 : Int32) (c3 : Int32) (c4 : Int32) (ih : Int32 → Int32 → Prop) (u5 : Int32) (w : Int32) : Prop := (((m_i σ 2 (0) 5).toInt ≤ (u5).toInt ∧ w = (Int32.ofInt 0)) ∨ (¬ ((m_i σ 2 (0) 5).toInt ≤ (u5).toInt) ∧ (((200 : Int) ≤ (u5).toInt ∧ w = (Int32.ofInt 0)) ∨ (¬ ((200 : Int) ≤ (u5).toInt) ∧ (0 ≤ (u5).toInt ∧ (u5).toInt < 200) ∧ (((c3).toInt ≠ (0 : Int) ∧ ∃ n5, n5 = m_i σ 10 ((u5).toNatClampNeg) 4 ∧ (((m_i σ 10 ((u5).toNatClampNeg) 0).toInt ≠ (c2).toInt ∧ ih ((u5) + Int32.ofInt 1) w) ∨ (¬ ((m_i σ 10 ((u5).toNatClampNeg) 0).toInt ≠ (c2).toInt) ∧ (((m_i σ 10 ((u5).toNatClampNeg) 5).toInt < (c4).toInt ∧ ih ((u5) + Int32.ofInt 1) w) ∨ (¬ ((m_i σ 10 ((u5).toNatClampNeg) 5).toInt < (c4).toInt) ∧ (((n5).toInt ≠ (c1).toInt ∧ ih ((u5) + Int32.ofInt 1) w) ∨ (¬ ((n5).toInt ≠ (c1).toInt) ∧ w = (Int32.ofInt 1)))))))) ∨ (¬ ((c3).toInt ≠ (0 : Int)) ∧ ∃ n10, n10 = m_i σ 10 ((u5).toNatClampNeg) 3 ∧ (((m_i σ 10 ((u5).toNatClampNeg) 0).toInt ≠ (c2).toInt ∧ ih ((u5) + Int32.ofInt 1) w) ∨ (¬ ((m_i σ 10 ((u5).toNatClampNeg) 0).toInt ≠ (c2).toInt) ∧ (((m_i σ 10 ((u5).toNatClampNeg) 5).toInt < (c4).toInt ∧ ih ((u5) + Int32.ofInt 1) w) ∨ (¬ ((m_i σ 10 ((u5).toNatClampNeg) 5).toInt < (c4).toInt) ∧ (((n10).toInt ≠ (c1).toInt ∧ ih ((u5) + Int32.ofInt 1) w) ∨ (¬ ((n10).toInt ≠ (c1).toInt) ∧ w = (Int32.ofInt 1)))))))))))))
def Q35_3 (σ : mS) (c1 : Int32) (c2 : Int32) (c3 : Int32) (c4 : Int32) : Nat → Int32 → Int32 → Prop
  | 0 => fun _ _ => False
  | n + 1 => B35_3 σ c1 c2 c3 c4 (Q35_3 σ c1 c2 c3 c4 n)
theorem q35_3 {F : Nat} {σ σ' : mS} {c1 : Int32} {c2 : Int32} {c3 : Int32} {c4 : Int32} {w : Int32} (hs : HS σ) : ∀ N f, f < N → ∀ (u5 : Int32) (y6 : Option mV) (y7 : Option mV), EV F f 35 z35 3 [some (rf 2 (0)), some (.inl (c1)), some (.inl (c2)), some (.inl (c3)), some (.inl (c4)), some (.inl (u5)), y6, y7] [] σ (.inl (some (.inl w)), σ') → Q35_3 σ c1 c2 c3 c4 N u5 w := by
  intro N
  induction N with
  | zero => intro f hf; omega
  | succ N IH =>
    intro f hf0 u5 y6 y7 h
    have hf : f < N + 1 := hf0
    clear hf0
    show B35_3 σ c1 c2 c3 c4 (Q35_3 σ c1 c2 c3 c4 N) u5 w
    replace h := ei_p h rfl rfl rfl rfl
    obtain ⟨f, g, h⟩ := h
    replace hf := Nat.lt_of_lt_of_le g (Nat.le_of_lt_succ hf)
    clear g
    replace h : EV F f 35 z35 5 [some (rf 2 (0)), some (.inl (c1)), some (.inl (c2)), some (.inl (c3)), some (.inl (c4)), some (.inl (u5)), y6, y7] [.inl (u5)] σ (.inl (some (.inl w)), σ') := h
    replace h := ei_p h rfl rfl rfl rfl
    obtain ⟨f, g, h⟩ := h
    replace hf := Nat.lt_trans g hf
    clear g
    replace h : EV F f 35 z35 6 [some (rf 2 (0)), some (.inl (c1)), some (.inl (c2)), some (.inl (c3)), some (.inl (c4)), some (.inl (u5)), y6, y7] [rf 2 (0), .inl (u5)] σ (.inl (some (.inl w)), σ') := h
    replace h := ei_get h rfl rfl
    obtain ⟨f, g, h⟩ := h
    replace hf := Nat.lt_trans g hf
    clear g
    replace h : EV F f 35 z35 9 [some (rf 2 (0)), some (.inl (c1)), some (.inl (c2)), some (.inl (c3)), some (.inl (c4)), some (.inl (u5)), y6, y7] [.inl (m_i σ 2 (0) 5), .inl (u5)] σ (.inl (some (.inl w)), σ') := h
    replace h := ei_c h rfl rfl rfl
    rcases h with ⟨hp1, f, g, h⟩ | ⟨hp1, f, g, h⟩
    · skip
      replace hp1 : (m_i σ 2 (0) 5).toInt ≤ (u5).toInt := ic_ge.mp hp1
      refine Or.inl ⟨hp1, ?_⟩
      replace hf := Nat.lt_trans g hf
      clear g
      replace h : EV F f 35 z35 83 [some (rf 2 (0)), some (.inl (c1)), some (.inl (c2)), some (.inl (c3)), some (.inl (c4)), some (.inl (u5)), y6, y7] [] σ (.inl (some (.inl w)), σ') := h
      replace h := ei_p h rfl rfl rfl rfl
      obtain ⟨f, g, h⟩ := h
      replace hf := Nat.lt_trans g hf
      clear g
      replace h : EV F f 35 z35 84 [some (rf 2 (0)), some (.inl (c1)), some (.inl (c2)), some (.inl (c3)), some (.inl (c4)), some (.inl (u5)), y6, y7] [.inl (Int32.ofInt 0)] σ (.inl (some (.inl w)), σ') := h
      have e := ei_iret h rfl
      cases e
      exact rfl
    · skip
      replace hp1 : ¬ ((m_i σ 2 (0) 5).toInt ≤ (u5).toInt) := (not_congr ic_ge).mp hp1
      refine Or.inr ⟨hp1, ?_⟩
      replace hf := Nat.lt_trans g hf
      clear g
      replace h : EV F f 35 z35 12 [some (rf 2 (0)), some (.inl (c1)), some (.inl (c2)), some (.inl (c3)), some (.inl (c4)), some (.inl (u5)), y6, y7] [] σ (.inl (some (.inl w)), σ') := h
      replace h := ei_p h rfl rfl rfl rfl
      obtain ⟨f, g, h⟩ := h
      replace hf := Nat.lt_trans g hf
      clear g
      replace h : EV F f 35 z35 14 [some (rf 2 (0)), some (.inl (c1)), some (.inl (c2)), some (.inl (c3)), some (.inl (c4)), some (.inl (u5)), y6, y7] [.inl (u5)] σ (.inl (some (.inl w)), σ') := h
      replace h := ei_p h rfl rfl rfl rfl
      obtain ⟨f, g, h⟩ := h
      replace hf := Nat.lt_trans g hf
      clear g
      replace h : EV F f 35 z35 15 [some (rf 2 (0)), some (.inl (c1)), some (.inl (c2)), some (.inl (c3)), some (.inl (c4)), some (.inl (u5)), y6, y7] [rf 2 (0), .inl (u5)] σ (.inl (some (.inl w)), σ') := h
      replace h := ei_get h rfl (HS_g2_3 hs)
      obtain ⟨f, g, h⟩ := h
      replace hf := Nat.lt_trans g hf
      clear g
      replace h : EV F f 35 z35 18 [some (rf 2 (0)), some (.inl (c1)), some (.inl (c2)), some (.inl (c3)), some (.inl (c4)), some (.inl (u5)), y6, y7] [rf 20 (0), .inl (u5)] σ (.inl (some (.inl w)), σ') := h
      replace h := ei_len h rfl (HS_l20_0 hs) ⟨Nat.le_of_ble_eq_true rfl, Nat.le_of_ble_eq_true rfl⟩
      obtain ⟨f, g, h⟩ := h
      replace hf := Nat.lt_trans g hf
      clear g
      replace h : EV F f 35 z35 19 [some (rf 2 (0)), some (.inl (c1)), some (.inl (c2)), some (.inl (c3)), some (.inl (c4)), some (.inl (u5)), y6, y7] [.inl (Int32.ofInt 200), .inl (u5)] σ (.inl (some (.inl w)), σ') := h
      replace h := ei_c h rfl rfl rfl
      rcases h with ⟨hp2, f, g, h⟩ | ⟨hp2, f, g, h⟩
      · skip
        replace hp2 : (200 : Int) ≤ (u5).toInt := ic_ge.mp hp2
        refine Or.inl ⟨hp2, ?_⟩
        replace hf := Nat.lt_trans g hf
        clear g
        replace h : EV F f 35 z35 83 [some (rf 2 (0)), some (.inl (c1)), some (.inl (c2)), some (.inl (c3)), some (.inl (c4)), some (.inl (u5)), y6, y7] [] σ (.inl (some (.inl w)), σ') := h
        replace h := ei_p h rfl rfl rfl rfl
        obtain ⟨f, g, h⟩ := h
        replace hf := Nat.lt_trans g hf
        clear g
        replace h : EV F f 35 z35 84 [some (rf 2 (0)), some (.inl (c1)), some (.inl (c2)), some (.inl (c3)), some (.inl (c4)), some (.inl (u5)), y6, y7] [.inl (Int32.ofInt 0)] σ (.inl (some (.inl w)), σ') := h
        have e := ei_iret h rfl
        cases e
        exact rfl
      · skip
        replace hp2 : ¬ ((200 : Int) ≤ (u5).toInt) := (not_congr ic_ge).mp hp2
        refine Or.inr ⟨hp2, ?_⟩
        replace hf := Nat.lt_trans g hf
        clear g
        replace h : EV F f 35 z35 22 [some (rf 2 (0)), some (.inl (c1)), some (.inl (c2)), some (.inl (c3)), some (.inl (c4)), some (.inl (u5)), y6, y7] [] σ (.inl (some (.inl w)), σ') := h
        replace h := ei_p h rfl rfl rfl rfl
        obtain ⟨f, g, h⟩ := h
        replace hf := Nat.lt_trans g hf
        clear g
        replace h : EV F f 35 z35 23 [some (rf 2 (0)), some (.inl (c1)), some (.inl (c2)), some (.inl (c3)), some (.inl (c4)), some (.inl (u5)), y6, y7] [rf 2 (0)] σ (.inl (some (.inl w)), σ') := h
        replace h := ei_get h rfl (HS_g2_3 hs)
        obtain ⟨f, g, h⟩ := h
        replace hf := Nat.lt_trans g hf
        clear g
        replace h : EV F f 35 z35 26 [some (rf 2 (0)), some (.inl (c1)), some (.inl (c2)), some (.inl (c3)), some (.inl (c4)), some (.inl (u5)), y6, y7] [rf 20 (0)] σ (.inl (some (.inl w)), σ') := h
        replace h := ei_p h rfl rfl rfl rfl
        obtain ⟨f, g, h⟩ := h
        replace hf := Nat.lt_trans g hf
        clear g
        replace h : EV F f 35 z35 28 [some (rf 2 (0)), some (.inl (c1)), some (.inl (c2)), some (.inl (c3)), some (.inl (c4)), some (.inl (u5)), y6, y7] [.inl (u5), rf 20 (0)] σ (.inl (some (.inl w)), σ') := h
        replace h := ei_ald h rfl (HS_a20 hs)
        obtain ⟨vp3, f, g, h⟩ := h
        replace hf := Nat.lt_trans g hf
        clear g
        replace h : EV F f 35 z35 29 [some (rf 2 (0)), some (.inl (c1)), some (.inl (c2)), some (.inl (c3)), some (.inl (c4)), some (.inl (u5)), y6, y7] [rf 10 ((u5).toNatClampNeg)] σ (.inl (some (.inl w)), σ') := h
        refine ⟨HS_v20 hs vp3, ?_⟩
        replace h := ei_p h rfl rfl rfl rfl
        obtain ⟨f, g, h⟩ := h
        replace hf := Nat.lt_trans g hf
        clear g
        replace h : EV F f 35 z35 31 [some (rf 2 (0)), some (.inl (c1)), some (.inl (c2)), some (.inl (c3)), some (.inl (c4)), some (.inl (u5)), some (rf 10 ((u5).toNatClampNeg)), y7] [] σ (.inl (some (.inl w)), σ') := h
        replace h := ei_p h rfl rfl rfl rfl
        obtain ⟨f, g, h⟩ := h
        replace hf := Nat.lt_trans g hf
        clear g
        replace h : EV F f 35 z35 32 [some (rf 2 (0)), some (.inl (c1)), some (.inl (c2)), some (.inl (c3)), some (.inl (c4)), some (.inl (u5)), some (rf 10 ((u5).toNatClampNeg)), y7] [.inl (c3)] σ (.inl (some (.inl w)), σ') := h
        replace h := ei_c h rfl rfl rfl
        rcases h with ⟨hp4, f, g, h⟩ | ⟨hp4, f, g, h⟩
        · skip
          replace hp4 : (c3).toInt ≠ (0 : Int) := ic_ne.mp hp4
          refine Or.inl ⟨hp4, ?_⟩
          replace hf := Nat.lt_trans g hf
          clear g
          replace h : EV F f 35 z35 43 [some (rf 2 (0)), some (.inl (c1)), some (.inl (c2)), some (.inl (c3)), some (.inl (c4)), some (.inl (u5)), some (rf 10 ((u5).toNatClampNeg)), y7] [] σ (.inl (some (.inl w)), σ') := h
          replace h := ei_p h rfl rfl rfl rfl
          obtain ⟨f, g, h⟩ := h
          replace hf := Nat.lt_trans g hf
          clear g
          replace h : EV F f 35 z35 45 [some (rf 2 (0)), some (.inl (c1)), some (.inl (c2)), some (.inl (c3)), some (.inl (c4)), some (.inl (u5)), some (rf 10 ((u5).toNatClampNeg)), y7] [rf 10 ((u5).toNatClampNeg)] σ (.inl (some (.inl w)), σ') := h
          replace h := ei_get h rfl rfl
          obtain ⟨f, g, h⟩ := h
          replace hf := Nat.lt_trans g hf
          clear g
          replace h : EV F f 35 z35 48 [some (rf 2 (0)), some (.inl (c1)), some (.inl (c2)), some (.inl (c3)), some (.inl (c4)), some (.inl (u5)), some (rf 10 ((u5).toNatClampNeg)), y7] [.inl (m_i σ 10 ((u5).toNatClampNeg) 4)] σ (.inl (some (.inl w)), σ') := h
          replace h := ei_p h rfl rfl rfl rfl
          obtain ⟨f, g, h⟩ := h
          replace hf := Nat.lt_trans g hf
          clear g
          replace h : EV F f 35 z35 50 [some (rf 2 (0)), some (.inl (c1)), some (.inl (c2)), some (.inl (c3)), some (.inl (c4)), some (.inl (u5)), some (rf 10 ((u5).toNatClampNeg)), some (.inl (m_i σ 10 ((u5).toNatClampNeg) 4))] [] σ (.inl (some (.inl w)), σ') := h
          obtain ⟨n5, e6⟩ : ∃ s, s = m_i σ 10 ((u5).toNatClampNeg) 4 := ⟨_, rfl⟩
          rw [← e6] at h
          refine ⟨n5, e6, ?_⟩
          replace h : EV F f 35 z35 50 [some (rf 2 (0)), some (.inl (c1)), some (.inl (c2)), some (.inl (c3)), some (.inl (c4)), some (.inl (u5)), some (rf 10 ((u5).toNatClampNeg)), some (.inl (n5))] [] σ (.inl (some (.inl w)), σ') := h
          replace h := ei_p h rfl rfl rfl rfl
          obtain ⟨f, g, h⟩ := h
          replace hf := Nat.lt_trans g hf
          clear g
          replace h : EV F f 35 z35 52 [some (rf 2 (0)), some (.inl (c1)), some (.inl (c2)), some (.inl (c3)), some (.inl (c4)), some (.inl (u5)), some (rf 10 ((u5).toNatClampNeg)), some (.inl (n5))] [rf 10 ((u5).toNatClampNeg)] σ (.inl (some (.inl w)), σ') := h
          replace h := ei_get h rfl rfl
          obtain ⟨f, g, h⟩ := h
          replace hf := Nat.lt_trans g hf
          clear g
          replace h : EV F f 35 z35 55 [some (rf 2 (0)), some (.inl (c1)), some (.inl (c2)), some (.inl (c3)), some (.inl (c4)), some (.inl (u5)), some (rf 10 ((u5).toNatClampNeg)), some (.inl (n5))] [.inl (m_i σ 10 ((u5).toNatClampNeg) 0)] σ (.inl (some (.inl w)), σ') := h
          replace h := ei_p h rfl rfl rfl rfl
          obtain ⟨f, g, h⟩ := h
          replace hf := Nat.lt_trans g hf
          clear g
          replace h : EV F f 35 z35 56 [some (rf 2 (0)), some (.inl (c1)), some (.inl (c2)), some (.inl (c3)), some (.inl (c4)), some (.inl (u5)), some (rf 10 ((u5).toNatClampNeg)), some (.inl (n5))] [.inl (c2), .inl (m_i σ 10 ((u5).toNatClampNeg) 0)] σ (.inl (some (.inl w)), σ') := h
          replace h := ei_c h rfl rfl rfl
          rcases h with ⟨hp7, f, g, h⟩ | ⟨hp7, f, g, h⟩
          · skip
            replace hp7 : (m_i σ 10 ((u5).toNatClampNeg) 0).toInt ≠ (c2).toInt := ic_ne.mp hp7
            refine Or.inl ⟨hp7, ?_⟩
            replace hf := Nat.lt_trans g hf
            clear g
            replace h : EV F f 35 z35 77 [some (rf 2 (0)), some (.inl (c1)), some (.inl (c2)), some (.inl (c3)), some (.inl (c4)), some (.inl (u5)), some (rf 10 ((u5).toNatClampNeg)), some (.inl (n5))] [] σ (.inl (some (.inl w)), σ') := h
            replace h := ei_p h rfl rfl rfl rfl
            obtain ⟨f, g, h⟩ := h
            replace hf := Nat.lt_trans g hf
            clear g
            replace h : EV F f 35 z35 80 [some (rf 2 (0)), some (.inl (c1)), some (.inl (c2)), some (.inl (c3)), some (.inl (c4)), some (.inl ((u5) + Int32.ofInt 1)), some (rf 10 ((u5).toNatClampNeg)), some (.inl (n5))] [] σ (.inl (some (.inl w)), σ') := h
            replace h := ei_p h rfl rfl rfl rfl
            obtain ⟨f, g, h⟩ := h
            replace hf := Nat.lt_trans g hf
            clear g
            replace h : EV F f 35 z35 3 [some (rf 2 (0)), some (.inl (c1)), some (.inl (c2)), some (.inl (c3)), some (.inl (c4)), some (.inl ((u5) + Int32.ofInt 1)), some (rf 10 ((u5).toNatClampNeg)), some (.inl (n5))] [] σ (.inl (some (.inl w)), σ') := h
            exact IH f hf ((u5) + Int32.ofInt 1) (some (rf 10 ((u5).toNatClampNeg))) (some (.inl (n5))) h
          · skip
            replace hp7 : ¬ ((m_i σ 10 ((u5).toNatClampNeg) 0).toInt ≠ (c2).toInt) := (not_congr ic_ne).mp hp7
            refine Or.inr ⟨hp7, ?_⟩
            replace hf := Nat.lt_trans g hf
            clear g
            replace h : EV F f 35 z35 59 [some (rf 2 (0)), some (.inl (c1)), some (.inl (c2)), some (.inl (c3)), some (.inl (c4)), some (.inl (u5)), some (rf 10 ((u5).toNatClampNeg)), some (.inl (n5))] [] σ (.inl (some (.inl w)), σ') := h
            replace h := ei_p h rfl rfl rfl rfl
            obtain ⟨f, g, h⟩ := h
            replace hf := Nat.lt_trans g hf
            clear g
            replace h : EV F f 35 z35 61 [some (rf 2 (0)), some (.inl (c1)), some (.inl (c2)), some (.inl (c3)), some (.inl (c4)), some (.inl (u5)), some (rf 10 ((u5).toNatClampNeg)), some (.inl (n5))] [rf 10 ((u5).toNatClampNeg)] σ (.inl (some (.inl w)), σ') := h
            replace h := ei_get h rfl rfl
            obtain ⟨f, g, h⟩ := h
            replace hf := Nat.lt_trans g hf
            clear g
            replace h : EV F f 35 z35 64 [some (rf 2 (0)), some (.inl (c1)), some (.inl (c2)), some (.inl (c3)), some (.inl (c4)), some (.inl (u5)), some (rf 10 ((u5).toNatClampNeg)), some (.inl (n5))] [.inl (m_i σ 10 ((u5).toNatClampNeg) 5)] σ (.inl (some (.inl w)), σ') := h
            replace h := ei_p h rfl rfl rfl rfl
            obtain ⟨f, g, h⟩ := h
            replace hf := Nat.lt_trans g hf
            clear g
            replace h : EV F f 35 z35 66 [some (rf 2 (0)), some (.inl (c1)), some (.inl (c2)), some (.inl (c3)), some (.inl (c4)), some (.inl (u5)), some (rf 10 ((u5).toNatClampNeg)), some (.inl (n5))] [.inl (c4), .inl (m_i σ 10 ((u5).toNatClampNeg) 5)] σ (.inl (some (.inl w)), σ') := h
            replace h := ei_c h rfl rfl rfl
            rcases h with ⟨hp8, f, g, h⟩ | ⟨hp8, f, g, h⟩
            · skip
              replace hp8 : (m_i σ 10 ((u5).toNatClampNeg) 5).toInt < (c4).toInt := ic_lt.mp hp8
              refine Or.inl ⟨hp8, ?_⟩
              replace hf := Nat.lt_trans g hf
              clear g
              replace h : EV F f 35 z35 77 [some (rf 2 (0)), some (.inl (c1)), some (.inl (c2)), some (.inl (c3)), some (.inl (c4)), some (.inl (u5)), some (rf 10 ((u5).toNatClampNeg)), some (.inl (n5))] [] σ (.inl (some (.inl w)), σ') := h
              replace h := ei_p h rfl rfl rfl rfl
              obtain ⟨f, g, h⟩ := h
              replace hf := Nat.lt_trans g hf
              clear g
              replace h : EV F f 35 z35 80 [some (rf 2 (0)), some (.inl (c1)), some (.inl (c2)), some (.inl (c3)), some (.inl (c4)), some (.inl ((u5) + Int32.ofInt 1)), some (rf 10 ((u5).toNatClampNeg)), some (.inl (n5))] [] σ (.inl (some (.inl w)), σ') := h
              replace h := ei_p h rfl rfl rfl rfl
              obtain ⟨f, g, h⟩ := h
              replace hf := Nat.lt_trans g hf
              clear g
              replace h : EV F f 35 z35 3 [some (rf 2 (0)), some (.inl (c1)), some (.inl (c2)), some (.inl (c3)), some (.inl (c4)), some (.inl ((u5) + Int32.ofInt 1)), some (rf 10 ((u5).toNatClampNeg)), some (.inl (n5))] [] σ (.inl (some (.inl w)), σ') := h
              exact IH f hf ((u5) + Int32.ofInt 1) (some (rf 10 ((u5).toNatClampNeg))) (some (.inl (n5))) h
            · skip
              replace hp8 : ¬ ((m_i σ 10 ((u5).toNatClampNeg) 5).toInt < (c4).toInt) := (not_congr ic_lt).mp hp8
              refine Or.inr ⟨hp8, ?_⟩
              replace hf := Nat.lt_trans g hf
              clear g
              replace h : EV F f 35 z35 69 [some (rf 2 (0)), some (.inl (c1)), some (.inl (c2)), some (.inl (c3)), some (.inl (c4)), some (.inl (u5)), some (rf 10 ((u5).toNatClampNeg)), some (.inl (n5))] [] σ (.inl (some (.inl w)), σ') := h
              replace h := ei_p h rfl rfl rfl rfl
              obtain ⟨f, g, h⟩ := h
              replace hf := Nat.lt_trans g hf
              clear g
              replace h : EV F f 35 z35 71 [some (rf 2 (0)), some (.inl (c1)), some (.inl (c2)), some (.inl (c3)), some (.inl (c4)), some (.inl (u5)), some (rf 10 ((u5).toNatClampNeg)), some (.inl (n5))] [.inl (n5)] σ (.inl (some (.inl w)), σ') := h
              replace h := ei_p h rfl rfl rfl rfl
              obtain ⟨f, g, h⟩ := h
              replace hf := Nat.lt_trans g hf
              clear g
              replace h : EV F f 35 z35 72 [some (rf 2 (0)), some (.inl (c1)), some (.inl (c2)), some (.inl (c3)), some (.inl (c4)), some (.inl (u5)), some (rf 10 ((u5).toNatClampNeg)), some (.inl (n5))] [.inl (c1), .inl (n5)] σ (.inl (some (.inl w)), σ') := h
              replace h := ei_c h rfl rfl rfl
              rcases h with ⟨hp9, f, g, h⟩ | ⟨hp9, f, g, h⟩
              · skip
                replace hp9 : (n5).toInt ≠ (c1).toInt := ic_ne.mp hp9
                refine Or.inl ⟨hp9, ?_⟩
                replace hf := Nat.lt_trans g hf
                clear g
                replace h : EV F f 35 z35 77 [some (rf 2 (0)), some (.inl (c1)), some (.inl (c2)), some (.inl (c3)), some (.inl (c4)), some (.inl (u5)), some (rf 10 ((u5).toNatClampNeg)), some (.inl (n5))] [] σ (.inl (some (.inl w)), σ') := h
                replace h := ei_p h rfl rfl rfl rfl
                obtain ⟨f, g, h⟩ := h
                replace hf := Nat.lt_trans g hf
                clear g
                replace h : EV F f 35 z35 80 [some (rf 2 (0)), some (.inl (c1)), some (.inl (c2)), some (.inl (c3)), some (.inl (c4)), some (.inl ((u5) + Int32.ofInt 1)), some (rf 10 ((u5).toNatClampNeg)), some (.inl (n5))] [] σ (.inl (some (.inl w)), σ') := h
                replace h := ei_p h rfl rfl rfl rfl
                obtain ⟨f, g, h⟩ := h
                replace hf := Nat.lt_trans g hf
                clear g
                replace h : EV F f 35 z35 3 [some (rf 2 (0)), some (.inl (c1)), some (.inl (c2)), some (.inl (c3)), some (.inl (c4)), some (.inl ((u5) + Int32.ofInt 1)), some (rf 10 ((u5).toNatClampNeg)), some (.inl (n5))] [] σ (.inl (some (.inl w)), σ') := h
                exact IH f hf ((u5) + Int32.ofInt 1) (some (rf 10 ((u5).toNatClampNeg))) (some (.inl (n5))) h
              · skip
                replace hp9 : ¬ ((n5).toInt ≠ (c1).toInt) := (not_congr ic_ne).mp hp9
                refine Or.inr ⟨hp9, ?_⟩
                replace hf := Nat.lt_trans g hf
                clear g
                replace h : EV F f 35 z35 75 [some (rf 2 (0)), some (.inl (c1)), some (.inl (c2)), some (.inl (c3)), some (.inl (c4)), some (.inl (u5)), some (rf 10 ((u5).toNatClampNeg)), some (.inl (n5))] [] σ (.inl (some (.inl w)), σ') := h
                replace h := ei_p h rfl rfl rfl rfl
                obtain ⟨f, g, h⟩ := h
                replace hf := Nat.lt_trans g hf
                clear g
                replace h : EV F f 35 z35 76 [some (rf 2 (0)), some (.inl (c1)), some (.inl (c2)), some (.inl (c3)), some (.inl (c4)), some (.inl (u5)), some (rf 10 ((u5).toNatClampNeg)), some (.inl (n5))] [.inl (Int32.ofInt 1)] σ (.inl (some (.inl w)), σ') := h
                have e := ei_iret h rfl
                cases e
                exact rfl
        · skip
          replace hp4 : ¬ ((c3).toInt ≠ (0 : Int)) := (not_congr ic_ne).mp hp4
          refine Or.inr ⟨hp4, ?_⟩
          replace hf := Nat.lt_trans g hf
          clear g
          replace h : EV F f 35 z35 35 [some (rf 2 (0)), some (.inl (c1)), some (.inl (c2)), some (.inl (c3)), some (.inl (c4)), some (.inl (u5)), some (rf 10 ((u5).toNatClampNeg)), y7] [] σ (.inl (some (.inl w)), σ') := h
          replace h := ei_p h rfl rfl rfl rfl
          obtain ⟨f, g, h⟩ := h
          replace hf := Nat.lt_trans g hf
          clear g
          replace h : EV F f 35 z35 37 [some (rf 2 (0)), some (.inl (c1)), some (.inl (c2)), some (.inl (c3)), some (.inl (c4)), some (.inl (u5)), some (rf 10 ((u5).toNatClampNeg)), y7] [rf 10 ((u5).toNatClampNeg)] σ (.inl (some (.inl w)), σ') := h
          replace h := ei_get h rfl rfl
          obtain ⟨f, g, h⟩ := h
          replace hf := Nat.lt_trans g hf
          clear g
          replace h : EV F f 35 z35 40 [some (rf 2 (0)), some (.inl (c1)), some (.inl (c2)), some (.inl (c3)), some (.inl (c4)), some (.inl (u5)), some (rf 10 ((u5).toNatClampNeg)), y7] [.inl (m_i σ 10 ((u5).toNatClampNeg) 3)] σ (.inl (some (.inl w)), σ') := h
          replace h := ei_p h rfl rfl rfl rfl
          obtain ⟨f, g, h⟩ := h
          replace hf := Nat.lt_trans g hf
          clear g
          replace h : EV F f 35 z35 48 [some (rf 2 (0)), some (.inl (c1)), some (.inl (c2)), some (.inl (c3)), some (.inl (c4)), some (.inl (u5)), some (rf 10 ((u5).toNatClampNeg)), y7] [.inl (m_i σ 10 ((u5).toNatClampNeg) 3)] σ (.inl (some (.inl w)), σ') := h
          replace h := ei_p h rfl rfl rfl rfl
          obtain ⟨f, g, h⟩ := h
          replace hf := Nat.lt_trans g hf
          clear g
          replace h : EV F f 35 z35 50 [some (rf 2 (0)), some (.inl (c1)), some (.inl (c2)), some (.inl (c3)), some (.inl (c4)), some (.inl (u5)), some (rf 10 ((u5).toNatClampNeg)), some (.inl (m_i σ 10 ((u5).toNatClampNeg) 3))] [] σ (.inl (some (.inl w)), σ') := h
          obtain ⟨n10, e11⟩ : ∃ s, s = m_i σ 10 ((u5).toNatClampNeg) 3 := ⟨_, rfl⟩
          rw [← e11] at h
          refine ⟨n10, e11, ?_⟩
          replace h : EV F f 35 z35 50 [some (rf 2 (0)), some (.inl (c1)), some (.inl (c2)), some (.inl (c3)), some (.inl (c4)), some (.inl (u5)), some (rf 10 ((u5).toNatClampNeg)), some (.inl (n10))] [] σ (.inl (some (.inl w)), σ') := h
          replace h := ei_p h rfl rfl rfl rfl
          obtain ⟨f, g, h⟩ := h
          replace hf := Nat.lt_trans g hf
          clear g
          replace h : EV F f 35 z35 52 [some (rf 2 (0)), some (.inl (c1)), some (.inl (c2)), some (.inl (c3)), some (.inl (c4)), some (.inl (u5)), some (rf 10 ((u5).toNatClampNeg)), some (.inl (n10))] [rf 10 ((u5).toNatClampNeg)] σ (.inl (some (.inl w)), σ') := h
          replace h := ei_get h rfl rfl
          obtain ⟨f, g, h⟩ := h
          replace hf := Nat.lt_trans g hf
          clear g
          replace h : EV F f 35 z35 55 [some (rf 2 (0)), some (.inl (c1)), some (.inl (c2)), some (.inl (c3)), some (.inl (c4)), some (.inl (u5)), some (rf 10 ((u5).toNatClampNeg)), some (.inl (n10))] [.inl (m_i σ 10 ((u5).toNatClampNeg) 0)] σ (.inl (some (.inl w)), σ') := h
          replace h := ei_p h rfl rfl rfl rfl
          obtain ⟨f, g, h⟩ := h
          replace hf := Nat.lt_trans g hf
          clear g
          replace h : EV F f 35 z35 56 [some (rf 2 (0)), some (.inl (c1)), some (.inl (c2)), some (.inl (c3)), some (.inl (c4)), some (.inl (u5)), some (rf 10 ((u5).toNatClampNeg)), some (.inl (n10))] [.inl (c2), .inl (m_i σ 10 ((u5).toNatClampNeg) 0)] σ (.inl (some (.inl w)), σ') := h
          replace h := ei_c h rfl rfl rfl
          rcases h with ⟨hp12, f, g, h⟩ | ⟨hp12, f, g, h⟩
          · skip
            replace hp12 : (m_i σ 10 ((u5).toNatClampNeg) 0).toInt ≠ (c2).toInt := ic_ne.mp hp12
            refine Or.inl ⟨hp12, ?_⟩
            replace hf := Nat.lt_trans g hf
            clear g
            replace h : EV F f 35 z35 77 [some (rf 2 (0)), some (.inl (c1)), some (.inl (c2)), some (.inl (c3)), some (.inl (c4)), some (.inl (u5)), some (rf 10 ((u5).toNatClampNeg)), some (.inl (n10))] [] σ (.inl (some (.inl w)), σ') := h
            replace h := ei_p h rfl rfl rfl rfl
            obtain ⟨f, g, h⟩ := h
            replace hf := Nat.lt_trans g hf
            clear g
            replace h : EV F f 35 z35 80 [some (rf 2 (0)), some (.inl (c1)), some (.inl (c2)), some (.inl (c3)), some (.inl (c4)), some (.inl ((u5) + Int32.ofInt 1)), some (rf 10 ((u5).toNatClampNeg)), some (.inl (n10))] [] σ (.inl (some (.inl w)), σ') := h
            replace h := ei_p h rfl rfl rfl rfl
            obtain ⟨f, g, h⟩ := h
            replace hf := Nat.lt_trans g hf
            clear g
            replace h : EV F f 35 z35 3 [some (rf 2 (0)), some (.inl (c1)), some (.inl (c2)), some (.inl (c3)), some (.inl (c4)), some (.inl ((u5) + Int32.ofInt 1)), some (rf 10 ((u5).toNatClampNeg)), some (.inl (n10))] [] σ (.inl (some (.inl w)), σ') := h
            exact IH f hf ((u5) + Int32.ofInt 1) (some (rf 10 ((u5).toNatClampNeg))) (some (.inl (n10))) h
          · skip
            replace hp12 : ¬ ((m_i σ 10 ((u5).toNatClampNeg) 0).toInt ≠ (c2).toInt) := (not_congr ic_ne).mp hp12
            refine Or.inr ⟨hp12, ?_⟩
            replace hf := Nat.lt_trans g hf
            clear g
            replace h : EV F f 35 z35 59 [some (rf 2 (0)), some (.inl (c1)), some (.inl (c2)), some (.inl (c3)), some (.inl (c4)), some (.inl (u5)), some (rf 10 ((u5).toNatClampNeg)), some (.inl (n10))] [] σ (.inl (some (.inl w)), σ') := h
            replace h := ei_p h rfl rfl rfl rfl
            obtain ⟨f, g, h⟩ := h
            replace hf := Nat.lt_trans g hf
            clear g
            replace h : EV F f 35 z35 61 [some (rf 2 (0)), some (.inl (c1)), some (.inl (c2)), some (.inl (c3)), some (.inl (c4)), some (.inl (u5)), some (rf 10 ((u5).toNatClampNeg)), some (.inl (n10))] [rf 10 ((u5).toNatClampNeg)] σ (.inl (some (.inl w)), σ') := h
            replace h := ei_get h rfl rfl
            obtain ⟨f, g, h⟩ := h
            replace hf := Nat.lt_trans g hf
            clear g
            replace h : EV F f 35 z35 64 [some (rf 2 (0)), some (.inl (c1)), some (.inl (c2)), some (.inl (c3)), some (.inl (c4)), some (.inl (u5)), some (rf 10 ((u5).toNatClampNeg)), some (.inl (n10))] [.inl (m_i σ 10 ((u5).toNatClampNeg) 5)] σ (.inl (some (.inl w)), σ') := h
            replace h := ei_p h rfl rfl rfl rfl
            obtain ⟨f, g, h⟩ := h
            replace hf := Nat.lt_trans g hf
            clear g
            replace h : EV F f 35 z35 66 [some (rf 2 (0)), some (.inl (c1)), some (.inl (c2)), some (.inl (c3)), some (.inl (c4)), some (.inl (u5)), some (rf 10 ((u5).toNatClampNeg)), some (.inl (n10))] [.inl (c4), .inl (m_i σ 10 ((u5).toNatClampNeg) 5)] σ (.inl (some (.inl w)), σ') := h
            replace h := ei_c h rfl rfl rfl
            rcases h with ⟨hp13, f, g, h⟩ | ⟨hp13, f, g, h⟩
            · skip
              replace hp13 : (m_i σ 10 ((u5).toNatClampNeg) 5).toInt < (c4).toInt := ic_lt.mp hp13
              refine Or.inl ⟨hp13, ?_⟩
              replace hf := Nat.lt_trans g hf
              clear g
              replace h : EV F f 35 z35 77 [some (rf 2 (0)), some (.inl (c1)), some (.inl (c2)), some (.inl (c3)), some (.inl (c4)), some (.inl (u5)), some (rf 10 ((u5).toNatClampNeg)), some (.inl (n10))] [] σ (.inl (some (.inl w)), σ') := h
              replace h := ei_p h rfl rfl rfl rfl
              obtain ⟨f, g, h⟩ := h
              replace hf := Nat.lt_trans g hf
              clear g
              replace h : EV F f 35 z35 80 [some (rf 2 (0)), some (.inl (c1)), some (.inl (c2)), some (.inl (c3)), some (.inl (c4)), some (.inl ((u5) + Int32.ofInt 1)), some (rf 10 ((u5).toNatClampNeg)), some (.inl (n10))] [] σ (.inl (some (.inl w)), σ') := h
              replace h := ei_p h rfl rfl rfl rfl
              obtain ⟨f, g, h⟩ := h
              replace hf := Nat.lt_trans g hf
              clear g
              replace h : EV F f 35 z35 3 [some (rf 2 (0)), some (.inl (c1)), some (.inl (c2)), some (.inl (c3)), some (.inl (c4)), some (.inl ((u5) + Int32.ofInt 1)), some (rf 10 ((u5).toNatClampNeg)), some (.inl (n10))] [] σ (.inl (some (.inl w)), σ') := h
              exact IH f hf ((u5) + Int32.ofInt 1) (some (rf 10 ((u5).toNatClampNeg))) (some (.inl (n10))) h
            · skip
              replace hp13 : ¬ ((m_i σ 10 ((u5).toNatClampNeg) 5).toInt < (c4).toInt) := (not_congr ic_lt).mp hp13
              refine Or.inr ⟨hp13, ?_⟩
              replace hf := Nat.lt_trans g hf
              clear g
              replace h : EV F f 35 z35 69 [some (rf 2 (0)), some (.inl (c1)), some (.inl (c2)), some (.inl (c3)), some (.inl (c4)), some (.inl (u5)), some (rf 10 ((u5).toNatClampNeg)), some (.inl (n10))] [] σ (.inl (some (.inl w)), σ') := h
              replace h := ei_p h rfl rfl rfl rfl
              obtain ⟨f, g, h⟩ := h
              replace hf := Nat.lt_trans g hf
              clear g
              replace h : EV F f 35 z35 71 [some (rf 2 (0)), some (.inl (c1)), some (.inl (c2)), some (.inl (c3)), some (.inl (c4)), some (.inl (u5)), some (rf 10 ((u5).toNatClampNeg)), some (.inl (n10))] [.inl (n10)] σ (.inl (some (.inl w)), σ') := h
              replace h := ei_p h rfl rfl rfl rfl
              obtain ⟨f, g, h⟩ := h
              replace hf := Nat.lt_trans g hf
              clear g
              replace h : EV F f 35 z35 72 [some (rf 2 (0)), some (.inl (c1)), some (.inl (c2)), some (.inl (c3)), some (.inl (c4)), some (.inl (u5)), some (rf 10 ((u5).toNatClampNeg)), some (.inl (n10))] [.inl (c1), .inl (n10)] σ (.inl (some (.inl w)), σ') := h
              replace h := ei_c h rfl rfl rfl
              rcases h with ⟨hp14, f, g, h⟩ | ⟨hp14, f, g, h⟩
              · skip
                replace hp14 : (n10).toInt ≠ (c1).toInt := ic_ne.mp hp14
                refine Or.inl ⟨hp14, ?_⟩
                replace hf := Nat.lt_trans g hf
                clear g
                replace h : EV F f 35 z35 77 [some (rf 2 (0)), some (.inl (c1)), some (.inl (c2)), some (.inl (c3)), some (.inl (c4)), some (.inl (u5)), some (rf 10 ((u5).toNatClampNeg)), some (.inl (n10))] [] σ (.inl (some (.inl w)), σ') := h
                replace h := ei_p h rfl rfl rfl rfl
                obtain ⟨f, g, h⟩ := h
                replace hf := Nat.lt_trans g hf
                clear g
                replace h : EV F f 35 z35 80 [some (rf 2 (0)), some (.inl (c1)), some (.inl (c2)), some (.inl (c3)), some (.inl (c4)), some (.inl ((u5) + Int32.ofInt 1)), some (rf 10 ((u5).toNatClampNeg)), some (.inl (n10))] [] σ (.inl (some (.inl w)), σ') := h
                replace h := ei_p h rfl rfl rfl rfl
                obtain ⟨f, g, h⟩ := h
                replace hf := Nat.lt_trans g hf
                clear g
                replace h : EV F f 35 z35 3 [some (rf 2 (0)), some (.inl (c1)), some (.inl (c2)), some (.inl (c3)), some (.inl (c4)), some (.inl ((u5) + Int32.ofInt 1)), some (rf 10 ((u5).toNatClampNeg)), some (.inl (n10))] [] σ (.inl (some (.inl w)), σ') := h
                exact IH f hf ((u5) + Int32.ofInt 1) (some (rf 10 ((u5).toNatClampNeg))) (some (.inl (n10))) h
              · skip
                replace hp14 : ¬ ((n10).toInt ≠ (c1).toInt) := (not_congr ic_ne).mp hp14
                refine Or.inr ⟨hp14, ?_⟩
                replace hf := Nat.lt_trans g hf
                clear g
                replace h : EV F f 35 z35 75 [some (rf 2 (0)), some (.inl (c1)), some (.inl (c2)), some (.inl (c3)), some (.inl (c4)), some (.inl (u5)), some (rf 10 ((u5).toNatClampNeg)), some (.inl (n10))] [] σ (.inl (some (.inl w)), σ') := h
                replace h := ei_p h rfl rfl rfl rfl
                obtain ⟨f, g, h⟩ := h
                replace hf := Nat.lt_trans g hf
                clear g
                replace h : EV F f 35 z35 76 [some (rf 2 (0)), some (.inl (c1)), some (.inl (c2)), some (.inl (c3)), some (.inl (c4)), some (.inl (u5)), some (rf 10 ((u5).toNatClampNeg)), some (.inl (n10))] [.inl (Int32.ofInt 1)] σ (.inl (some (.inl w)), σ') := h
                have e := ei_iret h rfl
                cases e
                exact rfl
def P35 (σ : mS) (x1 : Int32) (x2 : Int32) (x3 : Int32) (x4 : Int32) (w : Int32) : Prop := ∃ n, Q35_3 σ (x1) (x2) (x3) (x4) n (Int32.ofInt 0) w
theorem x35 {σ σ' : mS} {x1 : Int32} {x2 : Int32} {x3 : Int32} {x4 : Int32} {w : Int32} (hs : HS σ) (h : ev_run sm_all 35 [rf 2 (0), .inl (x1), .inl (x2), .inl (x3), .inl (x4)] σ (.inl (some (.inl w))) σ') : P35 σ x1 x2 x3 x4 w := by
  unfold P35
  obtain ⟨F, f, h⟩ := ei_go h z35_at
  replace h : EV F f 35 z35 0 [some (rf 2 (0)), some (.inl (x1)), some (.inl (x2)), some (.inl (x3)), some (.inl (x4)), none, none, none] [] σ (.inl (some (.inl w)), σ') := h
  replace h := ei_p h rfl rfl rfl rfl
  obtain ⟨f, g, h⟩ := h
  clear g
  replace h : EV F f 35 z35 1 [some (rf 2 (0)), some (.inl (x1)), some (.inl (x2)), some (.inl (x3)), some (.inl (x4)), none, none, none] [.inl (Int32.ofInt 0)] σ (.inl (some (.inl w)), σ') := h
  replace h := ei_p h rfl rfl rfl rfl
  obtain ⟨f, g, h⟩ := h
  clear g
  replace h : EV F f 35 z35 3 [some (rf 2 (0)), some (.inl (x1)), some (.inl (x2)), some (.inl (x3)), some (.inl (x4)), some (.inl (Int32.ofInt 0)), none, none] [] σ (.inl (some (.inl w)), σ') := h
  exact ⟨f + 1, q35_3 hs (f + 1) f (Nat.lt_succ_self f) (Int32.ofInt 0) _ _ h⟩
def z116 : mAl := ((yX8_divideBy, cX8_divideBy, 2, none, { frames := 2, cells := 0, slots := 0, locals := 44 }, []), rw_X8_divideBy, false)
theorem z116_at : m_alF[116]? = some z116 := rfl
abbrev L116 : List (Nat × Nat) := [(8, 2), (8, 3), (8, 5), (8, 6)]
abbrev w116 : Nat → Nat → Bool := wl L116
def S116 : List Nat := [116, 117]
theorem W116 : fw_S w116 S116 = true := by decide +kernel
def J116_63 (t0 : Int32) (t1 : mR) (τ : mS) (σ' : mS) : Prop := ∃ i1, t1 = some (8, i1) ∧ ∃ σ4, σ4 = m_set τ 8 (i1) (3) (.inl (t0)) ∧ σ' = σ4
theorem j116_63 {F f : Nat} {σ' τ : mS} {t0 : Int32} {t1 : mR} {y0 : Option mV} {y1 : Option mV} (hsτ : HS τ) (h : EV F f 116 z116 63 [y0, y1] [.inl (t0), .inr (.inr (t1))] τ (.inl none, σ')) : J116_63 t0 t1 τ σ' := by
  unfold J116_63
  obtain ⟨i1, e2⟩ := ei_pp h rfl
  rw [e2] at h
  refine ⟨i1, e2, ?_⟩
  replace h : EV F f 116 z116 63 [y0, y1] [.inl (t0), rf 8 (i1)] τ (.inl none, σ') := h
  replace h := ei_put h rfl
  obtain ⟨ht3, f, g, h⟩ := h
  clear g
  obtain ⟨σ4, e5⟩ : ∃ s, s = m_set τ 8 (i1) (3) (.inl (t0)) := ⟨_, rfl⟩
  rw [← e5] at h
  have hsσ4 : HS σ4 := by rw [e5]; exact HS_set hsτ rfl
  refine ⟨σ4, e5, ?_⟩
  replace h : EV F f 116 z116 66 [y0, y1] [] σ4 (.inl none, σ') := h
  have e := ei_ret h rfl
  cases e
  exact rfl
def J116_40 (u0 : Nat) (u1 : Int32) (t0 : Int32) (t1 : Nat) (τ : mS) (σ' : mS) : Prop := ∃ σ2, σ2 = m_set τ 8 (t1) (2) (.inl (t0)) ∧ (((m_i σ2 8 (u0) 3).toInt ≠ (0 : Int) ∧ ∃ v5, P117 σ2 (m_i σ2 8 (u0) 3) (u1) v5 ∧ J116_63 (v5) (some (8, u0)) σ2 σ') ∨ (¬ ((m_i σ2 8 (u0) 3).toInt ≠ (0 : Int)) ∧ J116_63 (Int32.ofInt 0) (some (8, u0)) σ2 σ'))
theorem j116_40 {F f : Nat} {σ' τ : mS} {u0 : Nat} {u1 : Int32} {t0 : Int32} {t1 : Nat} (hsτ : HS τ) (h : EV F f 116 z116 40 [some (rf 8 (u0)), some (.inl (u1))] [.inl (t0), rf 8 (t1)] τ (.inl none, σ')) : J116_40 u0 u1 t0 t1 τ σ' := by
  unfold J116_40
  replace h := ei_put h rfl
  obtain ⟨ht1, f, g, h⟩ := h
  clear g
  obtain ⟨σ2, e3⟩ : ∃ s, s = m_set τ 8 (t1) (2) (.inl (t0)) := ⟨_, rfl⟩
  rw [← e3] at h
  have hsσ2 : HS σ2 := by rw [e3]; exact HS_set hsτ rfl
  refine ⟨σ2, e3, ?_⟩
  replace h : EV F f 116 z116 43 [some (rf 8 (u0)), some (.inl (u1))] [] σ2 (.inl none, σ') := h
  replace h := ei_p h rfl rfl rfl rfl
  obtain ⟨f, g, h⟩ := h
  clear g
  replace h : EV F f 116 z116 44 [some (rf 8 (u0)), some (.inl (u1))] [rf 8 (u0)] σ2 (.inl none, σ') := h
  replace h := ei_p h rfl rfl rfl rfl
  obtain ⟨f, g, h⟩ := h
  clear g
  replace h : EV F f 116 z116 45 [some (rf 8 (u0)), some (.inl (u1))] [rf 8 (u0), rf 8 (u0)] σ2 (.inl none, σ') := h
  replace h := ei_get h rfl rfl
  obtain ⟨f, g, h⟩ := h
  clear g
  replace h : EV F f 116 z116 48 [some (rf 8 (u0)), some (.inl (u1))] [.inl (m_i σ2 8 (u0) 3), rf 8 (u0)] σ2 (.inl none, σ') := h
  replace h := ei_c h rfl rfl rfl
  rcases h with ⟨hp4, f, g, h⟩ | ⟨hp4, f, g, h⟩
  · skip
    replace hp4 : (m_i σ2 8 (u0) 3).toInt ≠ (0 : Int) := ic_ne.mp hp4
    refine Or.inl ⟨hp4, ?_⟩
    clear g
    replace h : EV F f 116 z116 55 [some (rf 8 (u0)), some (.inl (u1))] [rf 8 (u0)] σ2 (.inl none, σ') := h
    replace h := ei_p h rfl rfl rfl rfl
    obtain ⟨f, g, h⟩ := h
    clear g
    replace h : EV F f 116 z116 56 [some (rf 8 (u0)), some (.inl (u1))] [rf 8 (u0), rf 8 (u0)] σ2 (.inl none, σ') := h
    replace h := ei_get h rfl rfl
    obtain ⟨f, g, h⟩ := h
    clear g
    replace h : EV F f 116 z116 59 [some (rf 8 (u0)), some (.inl (u1))] [.inl (m_i σ2 8 (u0) 3), rf 8 (u0)] σ2 (.inl none, σ') := h
    replace h := ei_p h rfl rfl rfl rfl
    obtain ⟨f, g, h⟩ := h
    clear g
    replace h : EV F f 116 z116 60 [some (rf 8 (u0)), some (.inl (u1))] [.inl (u1), .inl (m_i σ2 8 (u0) 3), rf 8 (u0)] σ2 (.inl none, σ') := h
    replace h := bk_I (ei_s (as := [.inl (u1), .inl (m_i σ2 8 (u0) 3)]) h rfl (Nat.le_of_ble_eq_true rfl) rfl rfl) rfl z117_at (Or.inl rfl)
    obtain ⟨v5, σ6, r7, f, g, h⟩ := h
    clear g
    have er7 := ro_run rfl r7
    rw [er7] at h r7
    have p8 := x117 hsσ2 r7
    refine ⟨v5, p8, ?_⟩
    replace h : EV F f 116 z116 63 [some (rf 8 (u0)), some (.inl (u1))] [.inl (v5), rf 8 (u0)] σ2 (.inl none, σ') := h
    exact j116_63 hsσ2 h
  · skip
    replace hp4 : ¬ ((m_i σ2 8 (u0) 3).toInt ≠ (0 : Int)) := (not_congr ic_ne).mp hp4
    refine Or.inr ⟨hp4, ?_⟩
    clear g
    replace h : EV F f 116 z116 51 [some (rf 8 (u0)), some (.inl (u1))] [rf 8 (u0)] σ2 (.inl none, σ') := h
    replace h := ei_p h rfl rfl rfl rfl
    obtain ⟨f, g, h⟩ := h
    clear g
    replace h : EV F f 116 z116 52 [some (rf 8 (u0)), some (.inl (u1))] [.inl (Int32.ofInt 0), rf 8 (u0)] σ2 (.inl none, σ') := h
    replace h := ei_p h rfl rfl rfl rfl
    obtain ⟨f, g, h⟩ := h
    clear g
    replace h : EV F f 116 z116 63 [some (rf 8 (u0)), some (.inl (u1))] [.inl (Int32.ofInt 0), rf 8 (u0)] σ2 (.inl none, σ') := h
    exact j116_63 hsσ2 h
def P116 (σ : mS) (a : Nat) (x1 : Int32) (σ' : mS) : Prop := ∃ σ2, σ2 = m_set σ 8 (a) (5) (.inl ((m_i σ 8 (a) 5) + (Int32.ofInt 1))) ∧ ∃ σ5, σ5 = m_set σ2 8 (a) (6) (.inl ((m_i σ2 8 (a) 6) * (x1))) ∧ (((m_i σ5 8 (a) 2).toInt ≠ (0 : Int) ∧ ∃ v8, P117 σ5 (m_i σ5 8 (a) 2) (x1) v8 ∧ J116_40 (a) (x1) (v8) (a) σ5 σ') ∨ (¬ ((m_i σ5 8 (a) 2).toInt ≠ (0 : Int)) ∧ J116_40 (a) (x1) (Int32.ofInt 0) (a) σ5 σ'))
theorem x116 {σ σ' : mS} {a : Nat} {x1 : Int32} (hs : HS σ) (h : ev_run sm_all 116 [rf 8 (a), .inl (x1)] σ (.inl none) σ') : P116 σ a x1 σ' := by
  unfold P116
  obtain ⟨F, f, h⟩ := ei_go h z116_at
  replace h : EV F f 116 z116 0 [some (rf 8 (a)), some (.inl (x1))] [] σ (.inl none, σ') := h
  replace h := ei_p h rfl rfl rfl rfl
  obtain ⟨f, g, h⟩ := h
  clear g
  replace h : EV F f 116 z116 1 [some (rf 8 (a)), some (.inl (x1))] [rf 8 (a)] σ (.inl none, σ') := h
  replace h := ei_p h rfl rfl rfl rfl
  obtain ⟨f, g, h⟩ := h
  clear g
  replace h : EV F f 116 z116 2 [some (rf 8 (a)), some (.inl (x1))] [rf 8 (a), rf 8 (a)] σ (.inl none, σ') := h
  replace h := ei_get h rfl rfl
  obtain ⟨f, g, h⟩ := h
  clear g
  replace h : EV F f 116 z116 5 [some (rf 8 (a)), some (.inl (x1))] [.inl (m_i σ 8 (a) 5), rf 8 (a)] σ (.inl none, σ') := h
  replace h := ei_p h rfl rfl rfl rfl
  obtain ⟨f, g, h⟩ := h
  clear g
  replace h : EV F f 116 z116 6 [some (rf 8 (a)), some (.inl (x1))] [.inl (Int32.ofInt 1), .inl (m_i σ 8 (a) 5), rf 8 (a)] σ (.inl none, σ') := h
  replace h := ei_p h rfl rfl rfl rfl
  obtain ⟨f, g, h⟩ := h
  clear g
  replace h : EV F f 116 z116 7 [some (rf 8 (a)), some (.inl (x1))] [.inl ((m_i σ 8 (a) 5) + (Int32.ofInt 1)), rf 8 (a)] σ (.inl none, σ') := h
  replace h := ei_put h rfl
  obtain ⟨ht1, f, g, h⟩ := h
  clear g
  obtain ⟨σ2, e3⟩ : ∃ s, s = m_set σ 8 (a) (5) (.inl ((m_i σ 8 (a) 5) + (Int32.ofInt 1))) := ⟨_, rfl⟩
  rw [← e3] at h
  have hsσ2 : HS σ2 := by rw [e3]; exact HS_set hs rfl
  refine ⟨σ2, e3, ?_⟩
  replace h : EV F f 116 z116 10 [some (rf 8 (a)), some (.inl (x1))] [] σ2 (.inl none, σ') := h
  replace h := ei_p h rfl rfl rfl rfl
  obtain ⟨f, g, h⟩ := h
  clear g
  replace h : EV F f 116 z116 11 [some (rf 8 (a)), some (.inl (x1))] [rf 8 (a)] σ2 (.inl none, σ') := h
  replace h := ei_p h rfl rfl rfl rfl
  obtain ⟨f, g, h⟩ := h
  clear g
  replace h : EV F f 116 z116 12 [some (rf 8 (a)), some (.inl (x1))] [rf 8 (a), rf 8 (a)] σ2 (.inl none, σ') := h
  replace h := ei_get h rfl rfl
  obtain ⟨f, g, h⟩ := h
  clear g
  replace h : EV F f 116 z116 15 [some (rf 8 (a)), some (.inl (x1))] [.inl (m_i σ2 8 (a) 6), rf 8 (a)] σ2 (.inl none, σ') := h
  replace h := ei_p h rfl rfl rfl rfl
  obtain ⟨f, g, h⟩ := h
  clear g
  replace h : EV F f 116 z116 16 [some (rf 8 (a)), some (.inl (x1))] [.inl (x1), .inl (m_i σ2 8 (a) 6), rf 8 (a)] σ2 (.inl none, σ') := h
  replace h := ei_p h rfl rfl rfl rfl
  obtain ⟨f, g, h⟩ := h
  clear g
  replace h : EV F f 116 z116 17 [some (rf 8 (a)), some (.inl (x1))] [.inl ((m_i σ2 8 (a) 6) * (x1)), rf 8 (a)] σ2 (.inl none, σ') := h
  replace h := ei_put h rfl
  obtain ⟨ht4, f, g, h⟩ := h
  clear g
  obtain ⟨σ5, e6⟩ : ∃ s, s = m_set σ2 8 (a) (6) (.inl ((m_i σ2 8 (a) 6) * (x1))) := ⟨_, rfl⟩
  rw [← e6] at h
  have hsσ5 : HS σ5 := by rw [e6]; exact HS_set hsσ2 rfl
  refine ⟨σ5, e6, ?_⟩
  replace h : EV F f 116 z116 20 [some (rf 8 (a)), some (.inl (x1))] [] σ5 (.inl none, σ') := h
  replace h := ei_p h rfl rfl rfl rfl
  obtain ⟨f, g, h⟩ := h
  clear g
  replace h : EV F f 116 z116 21 [some (rf 8 (a)), some (.inl (x1))] [rf 8 (a)] σ5 (.inl none, σ') := h
  replace h := ei_p h rfl rfl rfl rfl
  obtain ⟨f, g, h⟩ := h
  clear g
  replace h : EV F f 116 z116 22 [some (rf 8 (a)), some (.inl (x1))] [rf 8 (a), rf 8 (a)] σ5 (.inl none, σ') := h
  replace h := ei_get h rfl rfl
  obtain ⟨f, g, h⟩ := h
  clear g
  replace h : EV F f 116 z116 25 [some (rf 8 (a)), some (.inl (x1))] [.inl (m_i σ5 8 (a) 2), rf 8 (a)] σ5 (.inl none, σ') := h
  replace h := ei_c h rfl rfl rfl
  rcases h with ⟨hp7, f, g, h⟩ | ⟨hp7, f, g, h⟩
  · skip
    replace hp7 : (m_i σ5 8 (a) 2).toInt ≠ (0 : Int) := ic_ne.mp hp7
    refine Or.inl ⟨hp7, ?_⟩
    clear g
    replace h : EV F f 116 z116 32 [some (rf 8 (a)), some (.inl (x1))] [rf 8 (a)] σ5 (.inl none, σ') := h
    replace h := ei_p h rfl rfl rfl rfl
    obtain ⟨f, g, h⟩ := h
    clear g
    replace h : EV F f 116 z116 33 [some (rf 8 (a)), some (.inl (x1))] [rf 8 (a), rf 8 (a)] σ5 (.inl none, σ') := h
    replace h := ei_get h rfl rfl
    obtain ⟨f, g, h⟩ := h
    clear g
    replace h : EV F f 116 z116 36 [some (rf 8 (a)), some (.inl (x1))] [.inl (m_i σ5 8 (a) 2), rf 8 (a)] σ5 (.inl none, σ') := h
    replace h := ei_p h rfl rfl rfl rfl
    obtain ⟨f, g, h⟩ := h
    clear g
    replace h : EV F f 116 z116 37 [some (rf 8 (a)), some (.inl (x1))] [.inl (x1), .inl (m_i σ5 8 (a) 2), rf 8 (a)] σ5 (.inl none, σ') := h
    replace h := bk_I (ei_s (as := [.inl (x1), .inl (m_i σ5 8 (a) 2)]) h rfl (Nat.le_of_ble_eq_true rfl) rfl rfl) rfl z117_at (Or.inl rfl)
    obtain ⟨v8, σ9, r10, f, g, h⟩ := h
    clear g
    have er10 := ro_run rfl r10
    rw [er10] at h r10
    have p11 := x117 hsσ5 r10
    refine ⟨v8, p11, ?_⟩
    replace h : EV F f 116 z116 40 [some (rf 8 (a)), some (.inl (x1))] [.inl (v8), rf 8 (a)] σ5 (.inl none, σ') := h
    exact j116_40 hsσ5 h
  · skip
    replace hp7 : ¬ ((m_i σ5 8 (a) 2).toInt ≠ (0 : Int)) := (not_congr ic_ne).mp hp7
    refine Or.inr ⟨hp7, ?_⟩
    clear g
    replace h : EV F f 116 z116 28 [some (rf 8 (a)), some (.inl (x1))] [rf 8 (a)] σ5 (.inl none, σ') := h
    replace h := ei_p h rfl rfl rfl rfl
    obtain ⟨f, g, h⟩ := h
    clear g
    replace h : EV F f 116 z116 29 [some (rf 8 (a)), some (.inl (x1))] [.inl (Int32.ofInt 0), rf 8 (a)] σ5 (.inl none, σ') := h
    replace h := ei_p h rfl rfl rfl rfl
    obtain ⟨f, g, h⟩ := h
    clear g
    replace h : EV F f 116 z116 40 [some (rf 8 (a)), some (.inl (x1))] [.inl (Int32.ofInt 0), rf 8 (a)] σ5 (.inl none, σ') := h
    exact j116_40 hsσ5 h
def z90 : mAl := ((yX6_positionIn, cX6_positionIn, 2, (some .long), { frames := 0, cells := 0, slots := 0, locals := 0 }, []), rw_X6_positionIn, false)
theorem z90_at : m_alF[90]? = some z90 := rfl
def P90 (σ : mS) (a : Nat) (x1 : Int32) (w : Int64) : Prop := (((x1).toInt < (0 : Int) ∧ w = (Int64.ofNat 0)) ∨ (¬ ((x1).toInt < (0 : Int)) ∧ ∃ ci2 i2, m_r σ 6 (a) 1 = some (ci2, i2) ∧ (((x1).toInt < (Int32.ofNat (σ.2.1 ci2 (i2))).toInt ∧ ∃ i5, m_r σ 6 (a) 1 = some (14, i5) ∧ (0 ≤ (x1).toInt ∧ (x1).toInt < (σ.2.1 14 (i5) : Int)) ∧ w = (m_l σ 14 (i5) (x1).toNatClampNeg)) ∨ (¬ ((x1).toInt < (Int32.ofNat (σ.2.1 ci2 (i2))).toInt) ∧ w = (Int64.ofNat 0)))))
theorem x90 {σ σ' : mS} {a : Nat} {x1 : Int32} {w : Int64} (hs : HS σ) (h : ev_run sm_all 90 [rf 6 (a), .inl (x1)] σ (.inl (some (.inr (.inl w)))) σ') : P90 σ a x1 w := by
  unfold P90
  obtain ⟨F, f, h⟩ := ei_go h z90_at
  replace h : EV F f 90 z90 0 [some (rf 6 (a)), some (.inl (x1))] [] σ (.inl (some (.inr (.inl w))), σ') := h
  replace h := ei_p h rfl rfl rfl rfl
  obtain ⟨f, g, h⟩ := h
  clear g
  replace h : EV F f 90 z90 1 [some (rf 6 (a)), some (.inl (x1))] [.inl (x1)] σ (.inl (some (.inr (.inl w))), σ') := h
  replace h := ei_c h rfl rfl rfl
  rcases h with ⟨hp1, f, g, h⟩ | ⟨hp1, f, g, h⟩
  · skip
    replace hp1 : (x1).toInt < (0 : Int) := ic_lt.mp hp1
    refine Or.inl ⟨hp1, ?_⟩
    clear g
    replace h : EV F f 90 z90 13 [some (rf 6 (a)), some (.inl (x1))] [] σ (.inl (some (.inr (.inl w))), σ') := h
    replace h := ei_p h rfl rfl rfl rfl
    obtain ⟨f, g, h⟩ := h
    clear g
    replace h : EV F f 90 z90 14 [some (rf 6 (a)), some (.inl (x1))] [.inr (.inl (Int64.ofNat 0))] σ (.inl (some (.inr (.inl w))), σ') := h
    replace h := ei_p h rfl rfl rfl rfl
    obtain ⟨f, g, h⟩ := h
    clear g
    replace h : EV F f 90 z90 23 [some (rf 6 (a)), some (.inl (x1))] [.inr (.inl (Int64.ofNat 0))] σ (.inl (some (.inr (.inl w))), σ') := h
    have e := ei_lret h rfl
    cases e
    exact rfl
  · skip
    replace hp1 : ¬ ((x1).toInt < (0 : Int)) := (not_congr ic_lt).mp hp1
    refine Or.inr ⟨hp1, ?_⟩
    clear g
    replace h : EV F f 90 z90 4 [some (rf 6 (a)), some (.inl (x1))] [] σ (.inl (some (.inr (.inl w))), σ') := h
    replace h := ei_p h rfl rfl rfl rfl
    obtain ⟨f, g, h⟩ := h
    clear g
    replace h : EV F f 90 z90 5 [some (rf 6 (a)), some (.inl (x1))] [.inl (x1)] σ (.inl (some (.inr (.inl w))), σ') := h
    replace h := ei_p h rfl rfl rfl rfl
    obtain ⟨f, g, h⟩ := h
    clear g
    replace h : EV F f 90 z90 6 [some (rf 6 (a)), some (.inl (x1))] [rf 6 (a), .inl (x1)] σ (.inl (some (.inr (.inl w))), σ') := h
    replace h := ei_get h rfl rfl
    obtain ⟨f, g, h⟩ := h
    clear g
    replace h : EV F f 90 z90 9 [some (rf 6 (a)), some (.inl (x1))] [.inr (.inr (m_r σ 6 (a) 1)), .inl (x1)] σ (.inl (some (.inr (.inl w))), σ') := h
    obtain ⟨ci2, i2, e3⟩ := ei_lp h rfl
    rw [e3.1] at h
    refine ⟨ci2, i2, e3.1, ?_⟩
    replace h : EV F f 90 z90 9 [some (rf 6 (a)), some (.inl (x1))] [rf ci2 (i2), .inl (x1)] σ (.inl (some (.inr (.inl w))), σ') := h
    replace h := ei_len h rfl rfl e3.2
    obtain ⟨f, g, h⟩ := h
    clear g
    replace h : EV F f 90 z90 10 [some (rf 6 (a)), some (.inl (x1))] [.inl (Int32.ofNat (σ.2.1 ci2 (i2))), .inl (x1)] σ (.inl (some (.inr (.inl w))), σ') := h
    replace h := ei_c h rfl rfl rfl
    rcases h with ⟨hp4, f, g, h⟩ | ⟨hp4, f, g, h⟩
    · skip
      replace hp4 : (x1).toInt < (Int32.ofNat (σ.2.1 ci2 (i2))).toInt := ic_lt.mp hp4
      refine Or.inl ⟨hp4, ?_⟩
      clear g
      replace h : EV F f 90 z90 17 [some (rf 6 (a)), some (.inl (x1))] [] σ (.inl (some (.inr (.inl w))), σ') := h
      replace h := ei_p h rfl rfl rfl rfl
      obtain ⟨f, g, h⟩ := h
      clear g
      replace h : EV F f 90 z90 18 [some (rf 6 (a)), some (.inl (x1))] [rf 6 (a)] σ (.inl (some (.inr (.inl w))), σ') := h
      replace h := ei_get h rfl rfl
      obtain ⟨f, g, h⟩ := h
      clear g
      replace h : EV F f 90 z90 21 [some (rf 6 (a)), some (.inl (x1))] [.inr (.inr (m_r σ 6 (a) 1))] σ (.inl (some (.inr (.inl w))), σ') := h
      replace h := ei_p h rfl rfl rfl rfl
      obtain ⟨f, g, h⟩ := h
      clear g
      replace h : EV F f 90 z90 22 [some (rf 6 (a)), some (.inl (x1))] [.inl (x1), .inr (.inr (m_r σ 6 (a) 1))] σ (.inl (some (.inr (.inl w))), σ') := h
      obtain ⟨i5, e6⟩ := ei_lap h rfl
      rw [e6] at h
      refine ⟨i5, e6, ?_⟩
      replace h : EV F f 90 z90 22 [some (rf 6 (a)), some (.inl (x1))] [.inl (x1), rf 14 (i5)] σ (.inl (some (.inr (.inl w))), σ') := h
      replace h := ei_lald h rfl (fun _ => rfl)
      obtain ⟨vp7, f, g, h⟩ := h
      clear g
      replace h : EV F f 90 z90 23 [some (rf 6 (a)), some (.inl (x1))] [.inr (.inl (m_l σ 14 (i5) (x1).toNatClampNeg))] σ (.inl (some (.inr (.inl w))), σ') := h
      refine ⟨vp_2 vp7, ?_⟩
      have e := ei_lret h rfl
      cases e
      exact rfl
    · skip
      replace hp4 : ¬ ((x1).toInt < (Int32.ofNat (σ.2.1 ci2 (i2))).toInt) := (not_congr ic_lt).mp hp4
      refine Or.inr ⟨hp4, ?_⟩
      clear g
      replace h : EV F f 90 z90 13 [some (rf 6 (a)), some (.inl (x1))] [] σ (.inl (some (.inr (.inl w))), σ') := h
      replace h := ei_p h rfl rfl rfl rfl
      obtain ⟨f, g, h⟩ := h
      clear g
      replace h : EV F f 90 z90 14 [some (rf 6 (a)), some (.inl (x1))] [.inr (.inl (Int64.ofNat 0))] σ (.inl (some (.inr (.inl w))), σ') := h
      replace h := ei_p h rfl rfl rfl rfl
      obtain ⟨f, g, h⟩ := h
      clear g
      replace h : EV F f 90 z90 23 [some (rf 6 (a)), some (.inl (x1))] [.inr (.inl (Int64.ofNat 0))] σ (.inl (some (.inr (.inl w))), σ') := h
      have e := ei_lret h rfl
      cases e
      exact rfl
def z36 : mAl := ((yX2_divide, cX2_divide, 7, none, { frames := 3, cells := 0, slots := 0, locals := 65 }, []), rw_X2_divide, false)
theorem z36_at : m_alF[36]? = some z36 := rfl
abbrev L36 : List (Nat × Nat) := [(6, 2), (8, 2), (8, 3), (8, 5), (8, 6), (14, 0)]
abbrev w36 : Nat → Nat → Bool := wl L36
def S36 : List Nat := [36, 90, 91, 116, 117]
theorem W36 : fw_S w36 S36 = true := by decide +kernel
abbrev B36_17 (c1 : Nat) (c2 : Int32) (c3 : Int32) (ih : Int32 → mS → mS → Prop) (u5 : Int32) (τ : mS) (σ' : mS) : Prop := (((c3).toInt ≤ (u5).toInt ∧ ∃ v2, P90 τ (0) (m_i τ 8 (c1) 0) v2 ∧ ∃ σ7, fw_e w91 τ σ7 ∧ P91 τ (0) (m_i τ 8 (c1) 0) ((v2) * (((c2) - (Int32.ofInt 1)).toInt64)) (Int64.ofNat 0) σ7 ∧ σ' = σ7) ∨ (¬ ((c3).toInt ≤ (u5).toInt) ∧ (0 ≤ (u5).toInt ∧ (u5).toInt < 5) ∧ ∃ v11, P90 τ ((u5).toNatClampNeg + 1) (m_i τ 8 (c1) 0) v11 ∧ ∃ σ16, fw_e w91 τ σ16 ∧ P91 τ ((u5).toNatClampNeg + 1) (m_i τ 8 (c1) 0) ((v11) * (((c2) - (Int32.ofInt 1)).toInt64)) (Int64.ofNat 0) σ16 ∧ ih ((u5) + Int32.ofInt 1) σ16 σ'))
def Q36_17 (c1 : Nat) (c2 : Int32) (c3 : Int32) : Nat → Int32 → mS → mS → Prop
  | 0 => fun _ _ _ => False
  | n + 1 => B36_17 c1 c2 c3 (Q36_17 c1 c2 c3 n)
theorem q36_17 {F : Nat} {σ' : mS} {c1 : Nat} {c2 : Int32} {c3 : Int32} : ∀ N f, f < N → ∀ (u5 : Int32) (y6 : Option mV) (τ : mS), HS τ → EV F f 36 z36 17 [some (rf 2 (0)), some (rf 8 (c1)), some (.inl (c2)), some (rf 16 (0)), some (.inl (c3)), some (.inl (u5)), y6] [] τ (.inl none, σ') → Q36_17 c1 c2 c3 N u5 τ σ' := by
  intro N
  induction N with
  | zero => intro f hf; omega
  | succ N IH =>
    intro f hf0 u5 y6 τ hsτ h
    have hf : f < N + 1 := hf0
    clear hf0
    show B36_17 c1 c2 c3 (Q36_17 c1 c2 c3 N) u5 τ σ'
    replace h := ei_p h rfl rfl rfl rfl
    obtain ⟨f, g, h⟩ := h
    replace hf := Nat.lt_of_lt_of_le g (Nat.le_of_lt_succ hf)
    clear g
    replace h : EV F f 36 z36 19 [some (rf 2 (0)), some (rf 8 (c1)), some (.inl (c2)), some (rf 16 (0)), some (.inl (c3)), some (.inl (u5)), y6] [.inl (u5)] τ (.inl none, σ') := h
    replace h := ei_p h rfl rfl rfl rfl
    obtain ⟨f, g, h⟩ := h
    replace hf := Nat.lt_trans g hf
    clear g
    replace h : EV F f 36 z36 21 [some (rf 2 (0)), some (rf 8 (c1)), some (.inl (c2)), some (rf 16 (0)), some (.inl (c3)), some (.inl (u5)), y6] [.inl (c3), .inl (u5)] τ (.inl none, σ') := h
    replace h := ei_c h rfl rfl rfl
    rcases h with ⟨hp1, f, g, h⟩ | ⟨hp1, f, g, h⟩
    · skip
      replace hp1 : (c3).toInt ≤ (u5).toInt := ic_ge.mp hp1
      refine Or.inl ⟨hp1, ?_⟩
      replace hf := Nat.lt_trans g hf
      clear g
      replace h : EV F f 36 z36 60 [some (rf 2 (0)), some (rf 8 (c1)), some (.inl (c2)), some (rf 16 (0)), some (.inl (c3)), some (.inl (u5)), y6] [] τ (.inl none, σ') := h
      replace h := ei_p h rfl rfl rfl rfl
      obtain ⟨f, g, h⟩ := h
      replace hf := Nat.lt_trans g hf
      clear g
      replace h : EV F f 36 z36 61 [some (rf 2 (0)), some (rf 8 (c1)), some (.inl (c2)), some (rf 16 (0)), some (.inl (c3)), some (.inl (u5)), y6] [rf 2 (0)] τ (.inl none, σ') := h
      replace h := ei_get h rfl (HS_g2_1 hsτ)
      obtain ⟨f, g, h⟩ := h
      replace hf := Nat.lt_trans g hf
      clear g
      replace h : EV F f 36 z36 64 [some (rf 2 (0)), some (rf 8 (c1)), some (.inl (c2)), some (rf 16 (0)), some (.inl (c3)), some (.inl (u5)), y6] [rf 6 (0)] τ (.inl none, σ') := h
      replace h := ei_p h rfl rfl rfl rfl
      obtain ⟨f, g, h⟩ := h
      replace hf := Nat.lt_trans g hf
      clear g
      replace h : EV F f 36 z36 65 [some (rf 2 (0)), some (rf 8 (c1)), some (.inl (c2)), some (rf 16 (0)), some (.inl (c3)), some (.inl (u5)), y6] [rf 8 (c1), rf 6 (0)] τ (.inl none, σ') := h
      replace h := ei_get h rfl rfl
      obtain ⟨f, g, h⟩ := h
      replace hf := Nat.lt_trans g hf
      clear g
      replace h : EV F f 36 z36 68 [some (rf 2 (0)), some (rf 8 (c1)), some (.inl (c2)), some (rf 16 (0)), some (.inl (c3)), some (.inl (u5)), y6] [.inl (m_i τ 8 (c1) 0), rf 6 (0)] τ (.inl none, σ') := h
      replace h := ei_p h rfl rfl rfl rfl
      obtain ⟨f, g, h⟩ := h
      replace hf := Nat.lt_trans g hf
      clear g
      replace h : EV F f 36 z36 69 [some (rf 2 (0)), some (rf 8 (c1)), some (.inl (c2)), some (rf 16 (0)), some (.inl (c3)), some (.inl (u5)), y6] [rf 2 (0), .inl (m_i τ 8 (c1) 0), rf 6 (0)] τ (.inl none, σ') := h
      replace h := ei_get h rfl (HS_g2_1 hsτ)
      obtain ⟨f, g, h⟩ := h
      replace hf := Nat.lt_trans g hf
      clear g
      replace h : EV F f 36 z36 72 [some (rf 2 (0)), some (rf 8 (c1)), some (.inl (c2)), some (rf 16 (0)), some (.inl (c3)), some (.inl (u5)), y6] [rf 6 (0), .inl (m_i τ 8 (c1) 0), rf 6 (0)] τ (.inl none, σ') := h
      replace h := ei_p h rfl rfl rfl rfl
      obtain ⟨f, g, h⟩ := h
      replace hf := Nat.lt_trans g hf
      clear g
      replace h : EV F f 36 z36 73 [some (rf 2 (0)), some (rf 8 (c1)), some (.inl (c2)), some (rf 16 (0)), some (.inl (c3)), some (.inl (u5)), y6] [rf 8 (c1), rf 6 (0), .inl (m_i τ 8 (c1) 0), rf 6 (0)] τ (.inl none, σ') := h
      replace h := ei_get h rfl rfl
      obtain ⟨f, g, h⟩ := h
      replace hf := Nat.lt_trans g hf
      clear g
      replace h : EV F f 36 z36 76 [some (rf 2 (0)), some (rf 8 (c1)), some (.inl (c2)), some (rf 16 (0)), some (.inl (c3)), some (.inl (u5)), y6] [.inl (m_i τ 8 (c1) 0), rf 6 (0), .inl (m_i τ 8 (c1) 0), rf 6 (0)] τ (.inl none, σ') := h
      replace h := bk_L (ei_v (as := [.inl (m_i τ 8 (c1) 0)]) h rfl rfl rfl) rfl z90_at rfl
      obtain ⟨v2, σ3, r4, f, g, h⟩ := h
      replace hf := Nat.lt_trans g hf
      clear g
      have er4 := ro_run rfl r4
      rw [er4] at h r4
      have p5 := x90 hsτ r4
      refine ⟨v2, p5, ?_⟩
      replace h : EV F f 36 z36 79 [some (rf 2 (0)), some (rf 8 (c1)), some (.inl (c2)), some (rf 16 (0)), some (.inl (c3)), some (.inl (u5)), y6] [.inr (.inl (v2)), .inl (m_i τ 8 (c1) 0), rf 6 (0)] τ (.inl none, σ') := h
      replace h := ei_p h rfl rfl rfl rfl
      obtain ⟨f, g, h⟩ := h
      replace hf := Nat.lt_trans g hf
      clear g
      replace h : EV F f 36 z36 80 [some (rf 2 (0)), some (rf 8 (c1)), some (.inl (c2)), some (rf 16 (0)), some (.inl (c3)), some (.inl (u5)), y6] [.inl (c2), .inr (.inl (v2)), .inl (m_i τ 8 (c1) 0), rf 6 (0)] τ (.inl none, σ') := h
      replace h := ei_p h rfl rfl rfl rfl
      obtain ⟨f, g, h⟩ := h
      replace hf := Nat.lt_trans g hf
      clear g
      replace h : EV F f 36 z36 81 [some (rf 2 (0)), some (rf 8 (c1)), some (.inl (c2)), some (rf 16 (0)), some (.inl (c3)), some (.inl (u5)), y6] [.inl (Int32.ofInt 1), .inl (c2), .inr (.inl (v2)), .inl (m_i τ 8 (c1) 0), rf 6 (0)] τ (.inl none, σ') := h
      replace h := ei_p h rfl rfl rfl rfl
      obtain ⟨f, g, h⟩ := h
      replace hf := Nat.lt_trans g hf
      clear g
      replace h : EV F f 36 z36 82 [some (rf 2 (0)), some (rf 8 (c1)), some (.inl (c2)), some (rf 16 (0)), some (.inl (c3)), some (.inl (u5)), y6] [.inl ((c2) - (Int32.ofInt 1)), .inr (.inl (v2)), .inl (m_i τ 8 (c1) 0), rf 6 (0)] τ (.inl none, σ') := h
      replace h := ei_p h rfl rfl rfl rfl
      obtain ⟨f, g, h⟩ := h
      replace hf := Nat.lt_trans g hf
      clear g
      replace h : EV F f 36 z36 83 [some (rf 2 (0)), some (rf 8 (c1)), some (.inl (c2)), some (rf 16 (0)), some (.inl (c3)), some (.inl (u5)), y6] [.inr (.inl (((c2) - (Int32.ofInt 1)).toInt64)), .inr (.inl (v2)), .inl (m_i τ 8 (c1) 0), rf 6 (0)] τ (.inl none, σ') := h
      replace h := ei_p h rfl rfl rfl rfl
      obtain ⟨f, g, h⟩ := h
      replace hf := Nat.lt_trans g hf
      clear g
      replace h : EV F f 36 z36 84 [some (rf 2 (0)), some (rf 8 (c1)), some (.inl (c2)), some (rf 16 (0)), some (.inl (c3)), some (.inl (u5)), y6] [.inr (.inl ((v2) * (((c2) - (Int32.ofInt 1)).toInt64))), .inl (m_i τ 8 (c1) 0), rf 6 (0)] τ (.inl none, σ') := h
      replace h := ei_p h rfl rfl rfl rfl
      obtain ⟨f, g, h⟩ := h
      replace hf := Nat.lt_trans g hf
      clear g
      replace h : EV F f 36 z36 85 [some (rf 2 (0)), some (rf 8 (c1)), some (.inl (c2)), some (rf 16 (0)), some (.inl (c3)), some (.inl (u5)), y6] [.inr (.inl (Int64.ofNat 0)), .inr (.inl ((v2) * (((c2) - (Int32.ofInt 1)).toInt64))), .inl (m_i τ 8 (c1) 0), rf 6 (0)] τ (.inl none, σ') := h
      replace h := bk_0 (ei_v (as := [.inr (.inl (Int64.ofNat 0)), .inr (.inl ((v2) * (((c2) - (Int32.ofInt 1)).toInt64))), .inl (m_i τ 8 (c1) 0)]) h rfl rfl rfl) rfl z91_at rfl
      obtain ⟨σ7, r8, f, g, h⟩ := h
      replace hf := Nat.lt_trans g hf
      clear g
      have p9 := x91 hsτ r8
      have hsσ7 : HS σ7 := HS_run rfl r8 hsτ
      refine ⟨σ7, fw_run W91 rfl r8, p9, ?_⟩
      replace h : EV F f 36 z36 88 [some (rf 2 (0)), some (rf 8 (c1)), some (.inl (c2)), some (rf 16 (0)), some (.inl (c3)), some (.inl (u5)), y6] [] σ7 (.inl none, σ') := h
      have e := ei_ret h rfl
      cases e
      exact rfl
    · skip
      replace hp1 : ¬ ((c3).toInt ≤ (u5).toInt) := (not_congr ic_ge).mp hp1
      refine Or.inr ⟨hp1, ?_⟩
      replace hf := Nat.lt_trans g hf
      clear g
      replace h : EV F f 36 z36 24 [some (rf 2 (0)), some (rf 8 (c1)), some (.inl (c2)), some (rf 16 (0)), some (.inl (c3)), some (.inl (u5)), y6] [] τ (.inl none, σ') := h
      replace h := ei_p h rfl rfl rfl rfl
      obtain ⟨f, g, h⟩ := h
      replace hf := Nat.lt_trans g hf
      clear g
      replace h : EV F f 36 z36 25 [some (rf 2 (0)), some (rf 8 (c1)), some (.inl (c2)), some (rf 16 (0)), some (.inl (c3)), some (.inl (u5)), y6] [rf 16 (0)] τ (.inl none, σ') := h
      replace h := ei_p h rfl rfl rfl rfl
      obtain ⟨f, g, h⟩ := h
      replace hf := Nat.lt_trans g hf
      clear g
      replace h : EV F f 36 z36 27 [some (rf 2 (0)), some (rf 8 (c1)), some (.inl (c2)), some (rf 16 (0)), some (.inl (c3)), some (.inl (u5)), y6] [.inl (u5), rf 16 (0)] τ (.inl none, σ') := h
      replace h := ei_ald h rfl (HS_a16 hsτ)
      obtain ⟨vp10, f, g, h⟩ := h
      replace hf := Nat.lt_trans g hf
      clear g
      replace h : EV F f 36 z36 28 [some (rf 2 (0)), some (rf 8 (c1)), some (.inl (c2)), some (rf 16 (0)), some (.inl (c3)), some (.inl (u5)), y6] [rf 6 ((u5).toNatClampNeg + 1)] τ (.inl none, σ') := h
      refine ⟨HS_v16 hsτ vp10, ?_⟩
      replace h := ei_p h rfl rfl rfl rfl
      obtain ⟨f, g, h⟩ := h
      replace hf := Nat.lt_trans g hf
      clear g
      replace h : EV F f 36 z36 30 [some (rf 2 (0)), some (rf 8 (c1)), some (.inl (c2)), some (rf 16 (0)), some (.inl (c3)), some (.inl (u5)), some (rf 6 ((u5).toNatClampNeg + 1))] [] τ (.inl none, σ') := h
      replace h := ei_p h rfl rfl rfl rfl
      obtain ⟨f, g, h⟩ := h
      replace hf := Nat.lt_trans g hf
      clear g
      replace h : EV F f 36 z36 32 [some (rf 2 (0)), some (rf 8 (c1)), some (.inl (c2)), some (rf 16 (0)), some (.inl (c3)), some (.inl (u5)), some (rf 6 ((u5).toNatClampNeg + 1))] [rf 6 ((u5).toNatClampNeg + 1)] τ (.inl none, σ') := h
      replace h := ei_p h rfl rfl rfl rfl
      obtain ⟨f, g, h⟩ := h
      replace hf := Nat.lt_trans g hf
      clear g
      replace h : EV F f 36 z36 33 [some (rf 2 (0)), some (rf 8 (c1)), some (.inl (c2)), some (rf 16 (0)), some (.inl (c3)), some (.inl (u5)), some (rf 6 ((u5).toNatClampNeg + 1))] [rf 8 (c1), rf 6 ((u5).toNatClampNeg + 1)] τ (.inl none, σ') := h
      replace h := ei_get h rfl rfl
      obtain ⟨f, g, h⟩ := h
      replace hf := Nat.lt_trans g hf
      clear g
      replace h : EV F f 36 z36 36 [some (rf 2 (0)), some (rf 8 (c1)), some (.inl (c2)), some (rf 16 (0)), some (.inl (c3)), some (.inl (u5)), some (rf 6 ((u5).toNatClampNeg + 1))] [.inl (m_i τ 8 (c1) 0), rf 6 ((u5).toNatClampNeg + 1)] τ (.inl none, σ') := h
      replace h := ei_p h rfl rfl rfl rfl
      obtain ⟨f, g, h⟩ := h
      replace hf := Nat.lt_trans g hf
      clear g
      replace h : EV F f 36 z36 38 [some (rf 2 (0)), some (rf 8 (c1)), some (.inl (c2)), some (rf 16 (0)), some (.inl (c3)), some (.inl (u5)), some (rf 6 ((u5).toNatClampNeg + 1))] [rf 6 ((u5).toNatClampNeg + 1), .inl (m_i τ 8 (c1) 0), rf 6 ((u5).toNatClampNeg + 1)] τ (.inl none, σ') := h
      replace h := ei_p h rfl rfl rfl rfl
      obtain ⟨f, g, h⟩ := h
      replace hf := Nat.lt_trans g hf
      clear g
      replace h : EV F f 36 z36 39 [some (rf 2 (0)), some (rf 8 (c1)), some (.inl (c2)), some (rf 16 (0)), some (.inl (c3)), some (.inl (u5)), some (rf 6 ((u5).toNatClampNeg + 1))] [rf 8 (c1), rf 6 ((u5).toNatClampNeg + 1), .inl (m_i τ 8 (c1) 0), rf 6 ((u5).toNatClampNeg + 1)] τ (.inl none, σ') := h
      replace h := ei_get h rfl rfl
      obtain ⟨f, g, h⟩ := h
      replace hf := Nat.lt_trans g hf
      clear g
      replace h : EV F f 36 z36 42 [some (rf 2 (0)), some (rf 8 (c1)), some (.inl (c2)), some (rf 16 (0)), some (.inl (c3)), some (.inl (u5)), some (rf 6 ((u5).toNatClampNeg + 1))] [.inl (m_i τ 8 (c1) 0), rf 6 ((u5).toNatClampNeg + 1), .inl (m_i τ 8 (c1) 0), rf 6 ((u5).toNatClampNeg + 1)] τ (.inl none, σ') := h
      replace h := bk_L (ei_v (as := [.inl (m_i τ 8 (c1) 0)]) h rfl rfl rfl) rfl z90_at rfl
      obtain ⟨v11, σ12, r13, f, g, h⟩ := h
      replace hf := Nat.lt_trans g hf
      clear g
      have er13 := ro_run rfl r13
      rw [er13] at h r13
      have p14 := x90 hsτ r13
      refine ⟨v11, p14, ?_⟩
      replace h : EV F f 36 z36 45 [some (rf 2 (0)), some (rf 8 (c1)), some (.inl (c2)), some (rf 16 (0)), some (.inl (c3)), some (.inl (u5)), some (rf 6 ((u5).toNatClampNeg + 1))] [.inr (.inl (v11)), .inl (m_i τ 8 (c1) 0), rf 6 ((u5).toNatClampNeg + 1)] τ (.inl none, σ') := h
      replace h := ei_p h rfl rfl rfl rfl
      obtain ⟨f, g, h⟩ := h
      replace hf := Nat.lt_trans g hf
      clear g
      replace h : EV F f 36 z36 46 [some (rf 2 (0)), some (rf 8 (c1)), some (.inl (c2)), some (rf 16 (0)), some (.inl (c3)), some (.inl (u5)), some (rf 6 ((u5).toNatClampNeg + 1))] [.inl (c2), .inr (.inl (v11)), .inl (m_i τ 8 (c1) 0), rf 6 ((u5).toNatClampNeg + 1)] τ (.inl none, σ') := h
      replace h := ei_p h rfl rfl rfl rfl
      obtain ⟨f, g, h⟩ := h
      replace hf := Nat.lt_trans g hf
      clear g
      replace h : EV F f 36 z36 47 [some (rf 2 (0)), some (rf 8 (c1)), some (.inl (c2)), some (rf 16 (0)), some (.inl (c3)), some (.inl (u5)), some (rf 6 ((u5).toNatClampNeg + 1))] [.inl (Int32.ofInt 1), .inl (c2), .inr (.inl (v11)), .inl (m_i τ 8 (c1) 0), rf 6 ((u5).toNatClampNeg + 1)] τ (.inl none, σ') := h
      replace h := ei_p h rfl rfl rfl rfl
      obtain ⟨f, g, h⟩ := h
      replace hf := Nat.lt_trans g hf
      clear g
      replace h : EV F f 36 z36 48 [some (rf 2 (0)), some (rf 8 (c1)), some (.inl (c2)), some (rf 16 (0)), some (.inl (c3)), some (.inl (u5)), some (rf 6 ((u5).toNatClampNeg + 1))] [.inl ((c2) - (Int32.ofInt 1)), .inr (.inl (v11)), .inl (m_i τ 8 (c1) 0), rf 6 ((u5).toNatClampNeg + 1)] τ (.inl none, σ') := h
      replace h := ei_p h rfl rfl rfl rfl
      obtain ⟨f, g, h⟩ := h
      replace hf := Nat.lt_trans g hf
      clear g
      replace h : EV F f 36 z36 49 [some (rf 2 (0)), some (rf 8 (c1)), some (.inl (c2)), some (rf 16 (0)), some (.inl (c3)), some (.inl (u5)), some (rf 6 ((u5).toNatClampNeg + 1))] [.inr (.inl (((c2) - (Int32.ofInt 1)).toInt64)), .inr (.inl (v11)), .inl (m_i τ 8 (c1) 0), rf 6 ((u5).toNatClampNeg + 1)] τ (.inl none, σ') := h
      replace h := ei_p h rfl rfl rfl rfl
      obtain ⟨f, g, h⟩ := h
      replace hf := Nat.lt_trans g hf
      clear g
      replace h : EV F f 36 z36 50 [some (rf 2 (0)), some (rf 8 (c1)), some (.inl (c2)), some (rf 16 (0)), some (.inl (c3)), some (.inl (u5)), some (rf 6 ((u5).toNatClampNeg + 1))] [.inr (.inl ((v11) * (((c2) - (Int32.ofInt 1)).toInt64))), .inl (m_i τ 8 (c1) 0), rf 6 ((u5).toNatClampNeg + 1)] τ (.inl none, σ') := h
      replace h := ei_p h rfl rfl rfl rfl
      obtain ⟨f, g, h⟩ := h
      replace hf := Nat.lt_trans g hf
      clear g
      replace h : EV F f 36 z36 51 [some (rf 2 (0)), some (rf 8 (c1)), some (.inl (c2)), some (rf 16 (0)), some (.inl (c3)), some (.inl (u5)), some (rf 6 ((u5).toNatClampNeg + 1))] [.inr (.inl (Int64.ofNat 0)), .inr (.inl ((v11) * (((c2) - (Int32.ofInt 1)).toInt64))), .inl (m_i τ 8 (c1) 0), rf 6 ((u5).toNatClampNeg + 1)] τ (.inl none, σ') := h
      replace h := bk_0 (ei_v (as := [.inr (.inl (Int64.ofNat 0)), .inr (.inl ((v11) * (((c2) - (Int32.ofInt 1)).toInt64))), .inl (m_i τ 8 (c1) 0)]) h rfl rfl rfl) rfl z91_at rfl
      obtain ⟨σ16, r17, f, g, h⟩ := h
      replace hf := Nat.lt_trans g hf
      clear g
      have p18 := x91 hsτ r17
      have hsσ16 : HS σ16 := HS_run rfl r17 hsτ
      refine ⟨σ16, fw_run W91 rfl r17, p18, ?_⟩
      replace h : EV F f 36 z36 54 [some (rf 2 (0)), some (rf 8 (c1)), some (.inl (c2)), some (rf 16 (0)), some (.inl (c3)), some (.inl (u5)), some (rf 6 ((u5).toNatClampNeg + 1))] [] σ16 (.inl none, σ') := h
      replace h := ei_p h rfl rfl rfl rfl
      obtain ⟨f, g, h⟩ := h
      replace hf := Nat.lt_trans g hf
      clear g
      replace h : EV F f 36 z36 57 [some (rf 2 (0)), some (rf 8 (c1)), some (.inl (c2)), some (rf 16 (0)), some (.inl (c3)), some (.inl ((u5) + Int32.ofInt 1)), some (rf 6 ((u5).toNatClampNeg + 1))] [] σ16 (.inl none, σ') := h
      replace h := ei_p h rfl rfl rfl rfl
      obtain ⟨f, g, h⟩ := h
      replace hf := Nat.lt_trans g hf
      clear g
      replace h : EV F f 36 z36 17 [some (rf 2 (0)), some (rf 8 (c1)), some (.inl (c2)), some (rf 16 (0)), some (.inl (c3)), some (.inl ((u5) + Int32.ofInt 1)), some (rf 6 ((u5).toNatClampNeg + 1))] [] σ16 (.inl none, σ') := h
      exact IH f hf ((u5) + Int32.ofInt 1) (some (rf 6 ((u5).toNatClampNeg + 1))) σ16 hsσ16 h
def P36 (σ : mS) (x1 : mR) (x2 : Int32) (σ' : mS) : Prop := ∃ i1, x1 = some (8, i1) ∧ ∃ σ4, fw_e w116 σ σ4 ∧ P116 σ (i1) (x2) σ4 ∧ ∃ n, Q36_17 (i1) (x2) (Int32.ofInt 5) n (Int32.ofInt 0) σ4 σ'
theorem x36 {σ σ' : mS} {x1 : mR} {x2 : Int32} (hs : HS σ) (h : ev_run sm_all 36 [rf 2 (0), .inr (.inr (x1)), .inl (x2)] σ (.inl none) σ') : P36 σ x1 x2 σ' := by
  unfold P36
  obtain ⟨F, f, h⟩ := ei_go h z36_at
  replace h : EV F f 36 z36 0 [some (rf 2 (0)), some (.inr (.inr (x1))), some (.inl (x2)), none, none, none, none] [] σ (.inl none, σ') := h
  replace h := ei_p h rfl rfl rfl rfl
  obtain ⟨f, g, h⟩ := h
  clear g
  replace h : EV F f 36 z36 1 [some (rf 2 (0)), some (.inr (.inr (x1))), some (.inl (x2)), none, none, none, none] [.inr (.inr (x1))] σ (.inl none, σ') := h
  replace h := ei_p h rfl rfl rfl rfl
  obtain ⟨f, g, h⟩ := h
  clear g
  replace h : EV F f 36 z36 2 [some (rf 2 (0)), some (.inr (.inr (x1))), some (.inl (x2)), none, none, none, none] [.inl (x2), .inr (.inr (x1))] σ (.inl none, σ') := h
  obtain ⟨i1, e2⟩ := ei_vp (as := [.inl (x2)]) h rfl rfl
  rw [e2] at h
  refine ⟨i1, e2, ?_⟩
  replace h : EV F f 36 z36 2 [some (rf 2 (0)), some (rf 8 (i1)), some (.inl (x2)), none, none, none, none] [.inl (x2), rf 8 (i1)] σ (.inl none, σ') := h
  replace h := bk_0 (ei_v (as := [.inl (x2)]) h rfl rfl rfl) rfl z116_at rfl
  obtain ⟨σ4, r5, f, g, h⟩ := h
  clear g
  have p6 := x116 hs r5
  have hsσ4 : HS σ4 := HS_run rfl r5 hs
  refine ⟨σ4, fw_run W116 rfl r5, p6, ?_⟩
  replace h : EV F f 36 z36 5 [some (rf 2 (0)), some (rf 8 (i1)), some (.inl (x2)), none, none, none, none] [] σ4 (.inl none, σ') := h
  replace h := ei_p h rfl rfl rfl rfl
  obtain ⟨f, g, h⟩ := h
  clear g
  replace h : EV F f 36 z36 6 [some (rf 2 (0)), some (rf 8 (i1)), some (.inl (x2)), none, none, none, none] [rf 2 (0)] σ4 (.inl none, σ') := h
  replace h := ei_get h rfl (HS_g2_0 hsσ4)
  obtain ⟨f, g, h⟩ := h
  clear g
  replace h : EV F f 36 z36 9 [some (rf 2 (0)), some (rf 8 (i1)), some (.inl (x2)), none, none, none, none] [rf 16 (0)] σ4 (.inl none, σ') := h
  replace h := ei_p h rfl rfl rfl rfl
  obtain ⟨f, g, h⟩ := h
  clear g
  replace h : EV F f 36 z36 10 [some (rf 2 (0)), some (rf 8 (i1)), some (.inl (x2)), some (rf 16 (0)), none, none, none] [] σ4 (.inl none, σ') := h
  replace h := ei_p h rfl rfl rfl rfl
  obtain ⟨f, g, h⟩ := h
  clear g
  replace h : EV F f 36 z36 11 [some (rf 2 (0)), some (rf 8 (i1)), some (.inl (x2)), some (rf 16 (0)), none, none, none] [rf 16 (0)] σ4 (.inl none, σ') := h
  replace h := ei_len h rfl (HS_l16_0 hsσ4) ⟨Nat.le_of_ble_eq_true rfl, Nat.le_of_ble_eq_true rfl⟩
  obtain ⟨f, g, h⟩ := h
  clear g
  replace h : EV F f 36 z36 12 [some (rf 2 (0)), some (rf 8 (i1)), some (.inl (x2)), some (rf 16 (0)), none, none, none] [.inl (Int32.ofInt 5)] σ4 (.inl none, σ') := h
  replace h := ei_p h rfl rfl rfl rfl
  obtain ⟨f, g, h⟩ := h
  clear g
  replace h : EV F f 36 z36 14 [some (rf 2 (0)), some (rf 8 (i1)), some (.inl (x2)), some (rf 16 (0)), some (.inl (Int32.ofInt 5)), none, none] [] σ4 (.inl none, σ') := h
  replace h := ei_p h rfl rfl rfl rfl
  obtain ⟨f, g, h⟩ := h
  clear g
  replace h : EV F f 36 z36 15 [some (rf 2 (0)), some (rf 8 (i1)), some (.inl (x2)), some (rf 16 (0)), some (.inl (Int32.ofInt 5)), none, none] [.inl (Int32.ofInt 0)] σ4 (.inl none, σ') := h
  replace h := ei_p h rfl rfl rfl rfl
  obtain ⟨f, g, h⟩ := h
  clear g
  replace h : EV F f 36 z36 17 [some (rf 2 (0)), some (rf 8 (i1)), some (.inl (x2)), some (rf 16 (0)), some (.inl (Int32.ofInt 5)), some (.inl (Int32.ofInt 0)), none] [] σ4 (.inl none, σ') := h
  exact ⟨f + 1, q36_17 (f + 1) f (Nat.lt_succ_self f) (Int32.ofInt 0) _ σ4 hsσ4 h⟩
def z38 : mAl := ((yX2_payDividendTo, cX2_payDividendTo, 6, (some .long), { frames := 1, cells := 0, slots := 0, locals := 23 }, []), rw_X2_payDividendTo, false)
theorem z38_at : m_alF[38]? = some z38 := rfl
abbrev L38 : List (Nat × Nat) := [(6, 2)]
abbrev w38 : Nat → Nat → Bool := wl L38
def S38 : List Nat := [38, 90]
theorem W38 : fw_S w38 S38 = true := by decide +kernel
def P38 (σ : mS) (x1 : mR) (x2 : Int32) (x3 : Int32) (w : Int64) (σ' : mS) : Prop := ∃ i1, x1 = some (6, i1) ∧ ∃ v3, P90 σ (i1) (x2) v3 ∧ ∃ σ8, σ8 = m_set σ 6 (i1) (2) (.inr (.inl ((m_l σ 6 (i1) 2) + ((v3) * ((x3).toInt64))))) ∧ w = (lmax (Int64.ofNat 0) ((v3) * ((x3).toInt64))) ∧ σ' = σ8
theorem x38 {σ σ' : mS} {x1 : mR} {x2 : Int32} {x3 : Int32} {w : Int64} (hs : HS σ) (h : ev_run sm_all 38 [rf 2 (0), .inr (.inr (x1)), .inl (x2), .inl (x3)] σ (.inl (some (.inr (.inl w)))) σ') : P38 σ x1 x2 x3 w σ' := by
  unfold P38
  obtain ⟨F, f, h⟩ := ei_go h z38_at
  replace h : EV F f 38 z38 0 [some (rf 2 (0)), some (.inr (.inr (x1))), some (.inl (x2)), some (.inl (x3)), none, none] [] σ (.inl (some (.inr (.inl w))), σ') := h
  replace h := ei_p h rfl rfl rfl rfl
  obtain ⟨f, g, h⟩ := h
  clear g
  replace h : EV F f 38 z38 1 [some (rf 2 (0)), some (.inr (.inr (x1))), some (.inl (x2)), some (.inl (x3)), none, none] [.inr (.inr (x1))] σ (.inl (some (.inr (.inl w))), σ') := h
  replace h := ei_p h rfl rfl rfl rfl
  obtain ⟨f, g, h⟩ := h
  clear g
  replace h : EV F f 38 z38 2 [some (rf 2 (0)), some (.inr (.inr (x1))), some (.inl (x2)), some (.inl (x3)), none, none] [.inl (x2), .inr (.inr (x1))] σ (.inl (some (.inr (.inl w))), σ') := h
  obtain ⟨i1, e2⟩ := ei_vp (as := [.inl (x2)]) h rfl rfl
  rw [e2] at h
  refine ⟨i1, e2, ?_⟩
  replace h : EV F f 38 z38 2 [some (rf 2 (0)), some (rf 6 (i1)), some (.inl (x2)), some (.inl (x3)), none, none] [.inl (x2), rf 6 (i1)] σ (.inl (some (.inr (.inl w))), σ') := h
  replace h := bk_L (ei_v (as := [.inl (x2)]) h rfl rfl rfl) rfl z90_at rfl
  obtain ⟨v3, σ4, r5, f, g, h⟩ := h
  clear g
  have er5 := ro_run rfl r5
  rw [er5] at h r5
  have p6 := x90 hs r5
  refine ⟨v3, p6, ?_⟩
  replace h : EV F f 38 z38 5 [some (rf 2 (0)), some (rf 6 (i1)), some (.inl (x2)), some (.inl (x3)), none, none] [.inr (.inl (v3))] σ (.inl (some (.inr (.inl w))), σ') := h
  replace h := ei_p h rfl rfl rfl rfl
  obtain ⟨f, g, h⟩ := h
  clear g
  replace h : EV F f 38 z38 6 [some (rf 2 (0)), some (rf 6 (i1)), some (.inl (x2)), some (.inl (x3)), none, none] [.inl (x3), .inr (.inl (v3))] σ (.inl (some (.inr (.inl w))), σ') := h
  replace h := ei_p h rfl rfl rfl rfl
  obtain ⟨f, g, h⟩ := h
  clear g
  replace h : EV F f 38 z38 7 [some (rf 2 (0)), some (rf 6 (i1)), some (.inl (x2)), some (.inl (x3)), none, none] [.inr (.inl ((x3).toInt64)), .inr (.inl (v3))] σ (.inl (some (.inr (.inl w))), σ') := h
  replace h := ei_p h rfl rfl rfl rfl
  obtain ⟨f, g, h⟩ := h
  clear g
  replace h : EV F f 38 z38 8 [some (rf 2 (0)), some (rf 6 (i1)), some (.inl (x2)), some (.inl (x3)), none, none] [.inr (.inl ((v3) * ((x3).toInt64)))] σ (.inl (some (.inr (.inl w))), σ') := h
  replace h := ei_p h rfl rfl rfl rfl
  obtain ⟨f, g, h⟩ := h
  clear g
  replace h : EV F f 38 z38 10 [some (rf 2 (0)), some (rf 6 (i1)), some (.inl (x2)), some (.inl (x3)), some (.inr (.inl ((v3) * ((x3).toInt64)))), none] [] σ (.inl (some (.inr (.inl w))), σ') := h
  replace h := ei_p h rfl rfl rfl rfl
  obtain ⟨f, g, h⟩ := h
  clear g
  replace h : EV F f 38 z38 11 [some (rf 2 (0)), some (rf 6 (i1)), some (.inl (x2)), some (.inl (x3)), some (.inr (.inl ((v3) * ((x3).toInt64)))), none] [rf 6 (i1)] σ (.inl (some (.inr (.inl w))), σ') := h
  replace h := ei_p h rfl rfl rfl rfl
  obtain ⟨f, g, h⟩ := h
  clear g
  replace h : EV F f 38 z38 12 [some (rf 2 (0)), some (rf 6 (i1)), some (.inl (x2)), some (.inl (x3)), some (.inr (.inl ((v3) * ((x3).toInt64)))), none] [rf 6 (i1), rf 6 (i1)] σ (.inl (some (.inr (.inl w))), σ') := h
  replace h := ei_get h rfl rfl
  obtain ⟨f, g, h⟩ := h
  clear g
  replace h : EV F f 38 z38 15 [some (rf 2 (0)), some (rf 6 (i1)), some (.inl (x2)), some (.inl (x3)), some (.inr (.inl ((v3) * ((x3).toInt64)))), none] [.inr (.inl (m_l σ 6 (i1) 2)), rf 6 (i1)] σ (.inl (some (.inr (.inl w))), σ') := h
  replace h := ei_p h rfl rfl rfl rfl
  obtain ⟨f, g, h⟩ := h
  clear g
  replace h : EV F f 38 z38 17 [some (rf 2 (0)), some (rf 6 (i1)), some (.inl (x2)), some (.inl (x3)), some (.inr (.inl ((v3) * ((x3).toInt64)))), none] [.inr (.inl ((v3) * ((x3).toInt64))), .inr (.inl (m_l σ 6 (i1) 2)), rf 6 (i1)] σ (.inl (some (.inr (.inl w))), σ') := h
  replace h := ei_p h rfl rfl rfl rfl
  obtain ⟨f, g, h⟩ := h
  clear g
  replace h : EV F f 38 z38 18 [some (rf 2 (0)), some (rf 6 (i1)), some (.inl (x2)), some (.inl (x3)), some (.inr (.inl ((v3) * ((x3).toInt64)))), none] [.inr (.inl ((m_l σ 6 (i1) 2) + ((v3) * ((x3).toInt64)))), rf 6 (i1)] σ (.inl (some (.inr (.inl w))), σ') := h
  replace h := ei_put h rfl
  obtain ⟨ht7, f, g, h⟩ := h
  clear g
  obtain ⟨σ8, e9⟩ : ∃ s, s = m_set σ 6 (i1) (2) (.inr (.inl ((m_l σ 6 (i1) 2) + ((v3) * ((x3).toInt64))))) := ⟨_, rfl⟩
  rw [← e9] at h
  have hsσ8 : HS σ8 := by rw [e9]; exact HS_set hs rfl
  refine ⟨σ8, e9, ?_⟩
  replace h : EV F f 38 z38 21 [some (rf 2 (0)), some (rf 6 (i1)), some (.inl (x2)), some (.inl (x3)), some (.inr (.inl ((v3) * ((x3).toInt64)))), none] [] σ8 (.inl (some (.inr (.inl w))), σ') := h
  replace h := ei_p h rfl rfl rfl rfl
  obtain ⟨f, g, h⟩ := h
  clear g
  replace h : EV F f 38 z38 22 [some (rf 2 (0)), some (rf 6 (i1)), some (.inl (x2)), some (.inl (x3)), some (.inr (.inl ((v3) * ((x3).toInt64)))), none] [.inr (.inl (Int64.ofNat 0))] σ8 (.inl (some (.inr (.inl w))), σ') := h
  replace h := ei_p h rfl rfl rfl rfl
  obtain ⟨f, g, h⟩ := h
  clear g
  replace h : EV F f 38 z38 24 [some (rf 2 (0)), some (rf 6 (i1)), some (.inl (x2)), some (.inl (x3)), some (.inr (.inl ((v3) * ((x3).toInt64)))), none] [.inr (.inl ((v3) * ((x3).toInt64))), .inr (.inl (Int64.ofNat 0))] σ8 (.inl (some (.inr (.inl w))), σ') := h
  replace h := ei_m (st' := [.inr (.inl (lmax (Int64.ofNat 0) ((v3) * ((x3).toInt64))))]) h rfl (Nat.le_of_ble_eq_true rfl) (fun w hw => (Option.some.inj (ev_if_some.mp hw).2).symm)
  obtain ⟨f, g, h⟩ := h
  clear g
  replace h : EV F f 38 z38 27 [some (rf 2 (0)), some (rf 6 (i1)), some (.inl (x2)), some (.inl (x3)), some (.inr (.inl ((v3) * ((x3).toInt64)))), none] [.inr (.inl (lmax (Int64.ofNat 0) ((v3) * ((x3).toInt64))))] σ8 (.inl (some (.inr (.inl w))), σ') := h
  have e := ei_lret h rfl
  cases e
  exact ⟨rfl, rfl⟩
def z37 : mAl := ((yX2_payDividend, cX2_payDividend, 9, (some .long), { frames := 2, cells := 0, slots := 0, locals := 48 }, []), rw_X2_payDividend, false)
theorem z37_at : m_alF[37]? = some z37 := rfl
abbrev L37 : List (Nat × Nat) := [(6, 2)]
abbrev w37 : Nat → Nat → Bool := wl L37
def S37 : List Nat := [37, 38, 90]
theorem W37 : fw_S w37 S37 = true := by decide +kernel
abbrev B37_25 (c1 : Int32) (c2 : Int32) (c3 : Int32) (ih : Int64 → Int32 → mS → Int64 → mS → Prop) (u3 : Int64) (u7 : Int32) (τ : mS) (w : Int64) (σ' : mS) : Prop := (((c3).toInt ≤ (u7).toInt ∧ w = (u3) ∧ σ' = τ) ∨ (¬ ((c3).toInt ≤ (u7).toInt) ∧ (0 ≤ (u7).toInt ∧ (u7).toInt < 5) ∧ ∃ v3 σ4, fw_e w38 τ σ4 ∧ P38 τ (some (6, (u7).toNatClampNeg + 1)) (c1) (c2) v3 σ4 ∧ ih ((u3) + (v3)) ((u7) + Int32.ofInt 1) σ4 w σ'))
def Q37_25 (c1 : Int32) (c2 : Int32) (c3 : Int32) : Nat → Int64 → Int32 → mS → Int64 → mS → Prop
  | 0 => fun _ _ _ _ _ => False
  | n + 1 => B37_25 c1 c2 c3 (Q37_25 c1 c2 c3 n)
theorem q37_25 {F : Nat} {σ' : mS} {c1 : Int32} {c2 : Int32} {c3 : Int32} {w : Int64} : ∀ N f, f < N → ∀ (u3 : Int64) (u7 : Int32) (y8 : Option mV) (τ : mS), HS τ → EV F f 37 z37 25 [some (rf 2 (0)), some (.inl (c1)), some (.inl (c2)), some (.inr (.inl (u3))), none, some (rf 16 (0)), some (.inl (c3)), some (.inl (u7)), y8] [] τ (.inl (some (.inr (.inl w))), σ') → Q37_25 c1 c2 c3 N u3 u7 τ w σ' := by
  intro N
  induction N with
  | zero => intro f hf; omega
  | succ N IH =>
    intro f hf0 u3 u7 y8 τ hsτ h
    have hf : f < N + 1 := hf0
    clear hf0
    show B37_25 c1 c2 c3 (Q37_25 c1 c2 c3 N) u3 u7 τ w σ'
    replace h := ei_p h rfl rfl rfl rfl
    obtain ⟨f, g, h⟩ := h
    replace hf := Nat.lt_of_lt_of_le g (Nat.le_of_lt_succ hf)
    clear g
    replace h : EV F f 37 z37 27 [some (rf 2 (0)), some (.inl (c1)), some (.inl (c2)), some (.inr (.inl (u3))), none, some (rf 16 (0)), some (.inl (c3)), some (.inl (u7)), y8] [.inl (u7)] τ (.inl (some (.inr (.inl w))), σ') := h
    replace h := ei_p h rfl rfl rfl rfl
    obtain ⟨f, g, h⟩ := h
    replace hf := Nat.lt_trans g hf
    clear g
    replace h : EV F f 37 z37 29 [some (rf 2 (0)), some (.inl (c1)), some (.inl (c2)), some (.inr (.inl (u3))), none, some (rf 16 (0)), some (.inl (c3)), some (.inl (u7)), y8] [.inl (c3), .inl (u7)] τ (.inl (some (.inr (.inl w))), σ') := h
    replace h := ei_c h rfl rfl rfl
    rcases h with ⟨hp1, f, g, h⟩ | ⟨hp1, f, g, h⟩
    · skip
      replace hp1 : (c3).toInt ≤ (u7).toInt := ic_ge.mp hp1
      refine Or.inl ⟨hp1, ?_⟩
      replace hf := Nat.lt_trans g hf
      clear g
      replace h : EV F f 37 z37 56 [some (rf 2 (0)), some (.inl (c1)), some (.inl (c2)), some (.inr (.inl (u3))), none, some (rf 16 (0)), some (.inl (c3)), some (.inl (u7)), y8] [] τ (.inl (some (.inr (.inl w))), σ') := h
      replace h := ei_p h rfl rfl rfl rfl
      obtain ⟨f, g, h⟩ := h
      replace hf := Nat.lt_trans g hf
      clear g
      replace h : EV F f 37 z37 57 [some (rf 2 (0)), some (.inl (c1)), some (.inl (c2)), some (.inr (.inl (u3))), none, some (rf 16 (0)), some (.inl (c3)), some (.inl (u7)), y8] [.inr (.inl (u3))] τ (.inl (some (.inr (.inl w))), σ') := h
      have e := ei_lret h rfl
      cases e
      exact ⟨rfl, rfl⟩
    · skip
      replace hp1 : ¬ ((c3).toInt ≤ (u7).toInt) := (not_congr ic_ge).mp hp1
      refine Or.inr ⟨hp1, ?_⟩
      replace hf := Nat.lt_trans g hf
      clear g
      replace h : EV F f 37 z37 32 [some (rf 2 (0)), some (.inl (c1)), some (.inl (c2)), some (.inr (.inl (u3))), none, some (rf 16 (0)), some (.inl (c3)), some (.inl (u7)), y8] [] τ (.inl (some (.inr (.inl w))), σ') := h
      replace h := ei_p h rfl rfl rfl rfl
      obtain ⟨f, g, h⟩ := h
      replace hf := Nat.lt_trans g hf
      clear g
      replace h : EV F f 37 z37 34 [some (rf 2 (0)), some (.inl (c1)), some (.inl (c2)), some (.inr (.inl (u3))), none, some (rf 16 (0)), some (.inl (c3)), some (.inl (u7)), y8] [rf 16 (0)] τ (.inl (some (.inr (.inl w))), σ') := h
      replace h := ei_p h rfl rfl rfl rfl
      obtain ⟨f, g, h⟩ := h
      replace hf := Nat.lt_trans g hf
      clear g
      replace h : EV F f 37 z37 36 [some (rf 2 (0)), some (.inl (c1)), some (.inl (c2)), some (.inr (.inl (u3))), none, some (rf 16 (0)), some (.inl (c3)), some (.inl (u7)), y8] [.inl (u7), rf 16 (0)] τ (.inl (some (.inr (.inl w))), σ') := h
      replace h := ei_ald h rfl (HS_a16 hsτ)
      obtain ⟨vp2, f, g, h⟩ := h
      replace hf := Nat.lt_trans g hf
      clear g
      replace h : EV F f 37 z37 37 [some (rf 2 (0)), some (.inl (c1)), some (.inl (c2)), some (.inr (.inl (u3))), none, some (rf 16 (0)), some (.inl (c3)), some (.inl (u7)), y8] [rf 6 ((u7).toNatClampNeg + 1)] τ (.inl (some (.inr (.inl w))), σ') := h
      refine ⟨HS_v16 hsτ vp2, ?_⟩
      replace h := ei_p h rfl rfl rfl rfl
      obtain ⟨f, g, h⟩ := h
      replace hf := Nat.lt_trans g hf
      clear g
      replace h : EV F f 37 z37 39 [some (rf 2 (0)), some (.inl (c1)), some (.inl (c2)), some (.inr (.inl (u3))), none, some (rf 16 (0)), some (.inl (c3)), some (.inl (u7)), some (rf 6 ((u7).toNatClampNeg + 1))] [] τ (.inl (some (.inr (.inl w))), σ') := h
      replace h := ei_p h rfl rfl rfl rfl
      obtain ⟨f, g, h⟩ := h
      replace hf := Nat.lt_trans g hf
      clear g
      replace h : EV F f 37 z37 40 [some (rf 2 (0)), some (.inl (c1)), some (.inl (c2)), some (.inr (.inl (u3))), none, some (rf 16 (0)), some (.inl (c3)), some (.inl (u7)), some (rf 6 ((u7).toNatClampNeg + 1))] [.inr (.inl (u3))] τ (.inl (some (.inr (.inl w))), σ') := h
      replace h := ei_p h rfl rfl rfl rfl
      obtain ⟨f, g, h⟩ := h
      replace hf := Nat.lt_trans g hf
      clear g
      replace h : EV F f 37 z37 41 [some (rf 2 (0)), some (.inl (c1)), some (.inl (c2)), some (.inr (.inl (u3))), none, some (rf 16 (0)), some (.inl (c3)), some (.inl (u7)), some (rf 6 ((u7).toNatClampNeg + 1))] [rf 2 (0), .inr (.inl (u3))] τ (.inl (some (.inr (.inl w))), σ') := h
      replace h := ei_p h rfl rfl rfl rfl
      obtain ⟨f, g, h⟩ := h
      replace hf := Nat.lt_trans g hf
      clear g
      replace h : EV F f 37 z37 43 [some (rf 2 (0)), some (.inl (c1)), some (.inl (c2)), some (.inr (.inl (u3))), none, some (rf 16 (0)), some (.inl (c3)), some (.inl (u7)), some (rf 6 ((u7).toNatClampNeg + 1))] [rf 6 ((u7).toNatClampNeg + 1), rf 2 (0), .inr (.inl (u3))] τ (.inl (some (.inr (.inl w))), σ') := h
      replace h := ei_p h rfl rfl rfl rfl
      obtain ⟨f, g, h⟩ := h
      replace hf := Nat.lt_trans g hf
      clear g
      replace h : EV F f 37 z37 44 [some (rf 2 (0)), some (.inl (c1)), some (.inl (c2)), some (.inr (.inl (u3))), none, some (rf 16 (0)), some (.inl (c3)), some (.inl (u7)), some (rf 6 ((u7).toNatClampNeg + 1))] [.inl (c1), rf 6 ((u7).toNatClampNeg + 1), rf 2 (0), .inr (.inl (u3))] τ (.inl (some (.inr (.inl w))), σ') := h
      replace h := ei_p h rfl rfl rfl rfl
      obtain ⟨f, g, h⟩ := h
      replace hf := Nat.lt_trans g hf
      clear g
      replace h : EV F f 37 z37 45 [some (rf 2 (0)), some (.inl (c1)), some (.inl (c2)), some (.inr (.inl (u3))), none, some (rf 16 (0)), some (.inl (c3)), some (.inl (u7)), some (rf 6 ((u7).toNatClampNeg + 1))] [.inl (c2), .inl (c1), rf 6 ((u7).toNatClampNeg + 1), rf 2 (0), .inr (.inl (u3))] τ (.inl (some (.inr (.inl w))), σ') := h
      replace h := bk_L (ei_v (as := [.inl (c2), .inl (c1), rf 6 ((u7).toNatClampNeg + 1)]) h rfl rfl rfl) rfl z38_at rfl
      obtain ⟨v3, σ4, r5, f, g, h⟩ := h
      replace hf := Nat.lt_trans g hf
      clear g
      have p6 := x38 hsτ r5
      have hsσ4 : HS σ4 := HS_run rfl r5 hsτ
      refine ⟨v3, σ4, fw_run W38 rfl r5, p6, ?_⟩
      replace h : EV F f 37 z37 48 [some (rf 2 (0)), some (.inl (c1)), some (.inl (c2)), some (.inr (.inl (u3))), none, some (rf 16 (0)), some (.inl (c3)), some (.inl (u7)), some (rf 6 ((u7).toNatClampNeg + 1))] [.inr (.inl (v3)), .inr (.inl (u3))] σ4 (.inl (some (.inr (.inl w))), σ') := h
      replace h := ei_p h rfl rfl rfl rfl
      obtain ⟨f, g, h⟩ := h
      replace hf := Nat.lt_trans g hf
      clear g
      replace h : EV F f 37 z37 49 [some (rf 2 (0)), some (.inl (c1)), some (.inl (c2)), some (.inr (.inl (u3))), none, some (rf 16 (0)), some (.inl (c3)), some (.inl (u7)), some (rf 6 ((u7).toNatClampNeg + 1))] [.inr (.inl ((u3) + (v3)))] σ4 (.inl (some (.inr (.inl w))), σ') := h
      replace h := ei_p h rfl rfl rfl rfl
      obtain ⟨f, g, h⟩ := h
      replace hf := Nat.lt_trans g hf
      clear g
      replace h : EV F f 37 z37 50 [some (rf 2 (0)), some (.inl (c1)), some (.inl (c2)), some (.inr (.inl ((u3) + (v3)))), none, some (rf 16 (0)), some (.inl (c3)), some (.inl (u7)), some (rf 6 ((u7).toNatClampNeg + 1))] [] σ4 (.inl (some (.inr (.inl w))), σ') := h
      replace h := ei_p h rfl rfl rfl rfl
      obtain ⟨f, g, h⟩ := h
      replace hf := Nat.lt_trans g hf
      clear g
      replace h : EV F f 37 z37 53 [some (rf 2 (0)), some (.inl (c1)), some (.inl (c2)), some (.inr (.inl ((u3) + (v3)))), none, some (rf 16 (0)), some (.inl (c3)), some (.inl ((u7) + Int32.ofInt 1)), some (rf 6 ((u7).toNatClampNeg + 1))] [] σ4 (.inl (some (.inr (.inl w))), σ') := h
      replace h := ei_p h rfl rfl rfl rfl
      obtain ⟨f, g, h⟩ := h
      replace hf := Nat.lt_trans g hf
      clear g
      replace h : EV F f 37 z37 25 [some (rf 2 (0)), some (.inl (c1)), some (.inl (c2)), some (.inr (.inl ((u3) + (v3)))), none, some (rf 16 (0)), some (.inl (c3)), some (.inl ((u7) + Int32.ofInt 1)), some (rf 6 ((u7).toNatClampNeg + 1))] [] σ4 (.inl (some (.inr (.inl w))), σ') := h
      exact IH f hf ((u3) + (v3)) ((u7) + Int32.ofInt 1) (some (rf 6 ((u7).toNatClampNeg + 1))) σ4 hsσ4 h
def P37 (σ : mS) (x1 : Int32) (x2 : Int32) (w : Int64) (σ' : mS) : Prop := ∃ v1 σ2, fw_e w38 σ σ2 ∧ P38 σ (some (6, 0)) (x1) (x2) v1 σ2 ∧ ∃ n, Q37_25 (x1) (x2) (Int32.ofInt 5) n (v1) (Int32.ofInt 0) σ2 w σ'
theorem x37 {σ σ' : mS} {x1 : Int32} {x2 : Int32} {w : Int64} (hs : HS σ) (h : ev_run sm_all 37 [rf 2 (0), .inl (x1), .inl (x2)] σ (.inl (some (.inr (.inl w)))) σ') : P37 σ x1 x2 w σ' := by
  unfold P37
  obtain ⟨F, f, h⟩ := ei_go h z37_at
  replace h : EV F f 37 z37 0 [some (rf 2 (0)), some (.inl (x1)), some (.inl (x2)), none, none, none, none, none, none] [] σ (.inl (some (.inr (.inl w))), σ') := h
  replace h := ei_p h rfl rfl rfl rfl
  obtain ⟨f, g, h⟩ := h
  clear g
  replace h : EV F f 37 z37 1 [some (rf 2 (0)), some (.inl (x1)), some (.inl (x2)), none, none, none, none, none, none] [rf 2 (0)] σ (.inl (some (.inr (.inl w))), σ') := h
  replace h := ei_p h rfl rfl rfl rfl
  obtain ⟨f, g, h⟩ := h
  clear g
  replace h : EV F f 37 z37 2 [some (rf 2 (0)), some (.inl (x1)), some (.inl (x2)), none, none, none, none, none, none] [rf 2 (0), rf 2 (0)] σ (.inl (some (.inr (.inl w))), σ') := h
  replace h := ei_get h rfl (HS_g2_1 hs)
  obtain ⟨f, g, h⟩ := h
  clear g
  replace h : EV F f 37 z37 5 [some (rf 2 (0)), some (.inl (x1)), some (.inl (x2)), none, none, none, none, none, none] [rf 6 (0), rf 2 (0)] σ (.inl (some (.inr (.inl w))), σ') := h
  replace h := ei_p h rfl rfl rfl rfl
  obtain ⟨f, g, h⟩ := h
  clear g
  replace h : EV F f 37 z37 6 [some (rf 2 (0)), some (.inl (x1)), some (.inl (x2)), none, none, none, none, none, none] [.inl (x1), rf 6 (0), rf 2 (0)] σ (.inl (some (.inr (.inl w))), σ') := h
  replace h := ei_p h rfl rfl rfl rfl
  obtain ⟨f, g, h⟩ := h
  clear g
  replace h : EV F f 37 z37 7 [some (rf 2 (0)), some (.inl (x1)), some (.inl (x2)), none, none, none, none, none, none] [.inl (x2), .inl (x1), rf 6 (0), rf 2 (0)] σ (.inl (some (.inr (.inl w))), σ') := h
  replace h := bk_L (ei_v (as := [.inl (x2), .inl (x1), rf 6 (0)]) h rfl rfl rfl) rfl z38_at rfl
  obtain ⟨v1, σ2, r3, f, g, h⟩ := h
  clear g
  have p4 := x38 hs r3
  have hsσ2 : HS σ2 := HS_run rfl r3 hs
  refine ⟨v1, σ2, fw_run W38 rfl r3, p4, ?_⟩
  replace h : EV F f 37 z37 10 [some (rf 2 (0)), some (.inl (x1)), some (.inl (x2)), none, none, none, none, none, none] [.inr (.inl (v1))] σ2 (.inl (some (.inr (.inl w))), σ') := h
  replace h := ei_p h rfl rfl rfl rfl
  obtain ⟨f, g, h⟩ := h
  clear g
  replace h : EV F f 37 z37 11 [some (rf 2 (0)), some (.inl (x1)), some (.inl (x2)), some (.inr (.inl (v1))), none, none, none, none, none] [] σ2 (.inl (some (.inr (.inl w))), σ') := h
  replace h := ei_p h rfl rfl rfl rfl
  obtain ⟨f, g, h⟩ := h
  clear g
  replace h : EV F f 37 z37 12 [some (rf 2 (0)), some (.inl (x1)), some (.inl (x2)), some (.inr (.inl (v1))), none, none, none, none, none] [rf 2 (0)] σ2 (.inl (some (.inr (.inl w))), σ') := h
  replace h := ei_get h rfl (HS_g2_0 hsσ2)
  obtain ⟨f, g, h⟩ := h
  clear g
  replace h : EV F f 37 z37 15 [some (rf 2 (0)), some (.inl (x1)), some (.inl (x2)), some (.inr (.inl (v1))), none, none, none, none, none] [rf 16 (0)] σ2 (.inl (some (.inr (.inl w))), σ') := h
  replace h := ei_p h rfl rfl rfl rfl
  obtain ⟨f, g, h⟩ := h
  clear g
  replace h : EV F f 37 z37 17 [some (rf 2 (0)), some (.inl (x1)), some (.inl (x2)), some (.inr (.inl (v1))), none, some (rf 16 (0)), none, none, none] [] σ2 (.inl (some (.inr (.inl w))), σ') := h
  replace h := ei_p h rfl rfl rfl rfl
  obtain ⟨f, g, h⟩ := h
  clear g
  replace h : EV F f 37 z37 19 [some (rf 2 (0)), some (.inl (x1)), some (.inl (x2)), some (.inr (.inl (v1))), none, some (rf 16 (0)), none, none, none] [rf 16 (0)] σ2 (.inl (some (.inr (.inl w))), σ') := h
  replace h := ei_len h rfl (HS_l16_0 hsσ2) ⟨Nat.le_of_ble_eq_true rfl, Nat.le_of_ble_eq_true rfl⟩
  obtain ⟨f, g, h⟩ := h
  clear g
  replace h : EV F f 37 z37 20 [some (rf 2 (0)), some (.inl (x1)), some (.inl (x2)), some (.inr (.inl (v1))), none, some (rf 16 (0)), none, none, none] [.inl (Int32.ofInt 5)] σ2 (.inl (some (.inr (.inl w))), σ') := h
  replace h := ei_p h rfl rfl rfl rfl
  obtain ⟨f, g, h⟩ := h
  clear g
  replace h : EV F f 37 z37 22 [some (rf 2 (0)), some (.inl (x1)), some (.inl (x2)), some (.inr (.inl (v1))), none, some (rf 16 (0)), some (.inl (Int32.ofInt 5)), none, none] [] σ2 (.inl (some (.inr (.inl w))), σ') := h
  replace h := ei_p h rfl rfl rfl rfl
  obtain ⟨f, g, h⟩ := h
  clear g
  replace h : EV F f 37 z37 23 [some (rf 2 (0)), some (.inl (x1)), some (.inl (x2)), some (.inr (.inl (v1))), none, some (rf 16 (0)), some (.inl (Int32.ofInt 5)), none, none] [.inl (Int32.ofInt 0)] σ2 (.inl (some (.inr (.inl w))), σ') := h
  replace h := ei_p h rfl rfl rfl rfl
  obtain ⟨f, g, h⟩ := h
  clear g
  replace h : EV F f 37 z37 25 [some (rf 2 (0)), some (.inl (x1)), some (.inl (x2)), some (.inr (.inl (v1))), none, some (rf 16 (0)), some (.inl (Int32.ofInt 5)), some (.inl (Int32.ofInt 0)), none] [] σ2 (.inl (some (.inr (.inl w))), σ') := h
  exact ⟨f + 1, q37_25 (f + 1) f (Nat.lt_succ_self f) (v1) (Int32.ofInt 0) _ σ2 hsσ2 h⟩
def z39 : mAl := ((yX2_worthOf, cX2_worthOf, 8, (some .long), { frames := 1, cells := 0, slots := 0, locals := 21 }, []), rw_X2_worthOf, false)
theorem z39_at : m_alF[39]? = some z39 := rfl
abbrev B39_24 (σ : mS) (c1 : Nat) (c2 : Int32) (ih : Int64 → Int32 → Int64 → Prop) (u2 : Int64) (u6 : Int32) (w : Int64) : Prop := (((c2).toInt ≤ (u6).toInt ∧ w = (u2)) ∨ (¬ ((c2).toInt ≤ (u6).toInt) ∧ (0 ≤ (u6).toInt ∧ (u6).toInt < 3) ∧ ∃ v3, P90 σ (c1) (m_i σ 8 ((u6).toNatClampNeg) 0) v3 ∧ ∃ n7, n7 = (u2) + ((v3) * ((m_i σ 8 ((u6).toNatClampNeg) 2).toInt64)) ∧ ih (n7) ((u6) + Int32.ofInt 1) w))
def Q39_24 (σ : mS) (c1 : Nat) (c2 : Int32) : Nat → Int64 → Int32 → Int64 → Prop
  | 0 => fun _ _ _ => False
  | n + 1 => B39_24 σ c1 c2 (Q39_24 σ c1 c2 n)
theorem q39_24 {F : Nat} {σ σ' : mS} {c1 : Nat} {c2 : Int32} {w : Int64} (hs : HS σ) : ∀ N f, f < N → ∀ (u2 : Int64) (u6 : Int32) (y0 : Option mV) (y7 : Option mV), EV F f 39 z39 24 [y0, some (rf 6 (c1)), some (.inr (.inl (u2))), none, some (rf 18 (0)), some (.inl (c2)), some (.inl (u6)), y7] [] σ (.inl (some (.inr (.inl w))), σ') → Q39_24 σ c1 c2 N u2 u6 w := by
  intro N
  induction N with
  | zero => intro f hf; omega
  | succ N IH =>
    intro f hf0 u2 u6 y0 y7 h
    have hf : f < N + 1 := hf0
    clear hf0
    show B39_24 σ c1 c2 (Q39_24 σ c1 c2 N) u2 u6 w
    replace h := ei_p h rfl rfl rfl rfl
    obtain ⟨f, g, h⟩ := h
    replace hf := Nat.lt_of_lt_of_le g (Nat.le_of_lt_succ hf)
    clear g
    replace h : EV F f 39 z39 26 [y0, some (rf 6 (c1)), some (.inr (.inl (u2))), none, some (rf 18 (0)), some (.inl (c2)), some (.inl (u6)), y7] [.inl (u6)] σ (.inl (some (.inr (.inl w))), σ') := h
    replace h := ei_p h rfl rfl rfl rfl
    obtain ⟨f, g, h⟩ := h
    replace hf := Nat.lt_trans g hf
    clear g
    replace h : EV F f 39 z39 28 [y0, some (rf 6 (c1)), some (.inr (.inl (u2))), none, some (rf 18 (0)), some (.inl (c2)), some (.inl (u6)), y7] [.inl (c2), .inl (u6)] σ (.inl (some (.inr (.inl w))), σ') := h
    replace h := ei_c h rfl rfl rfl
    rcases h with ⟨hp1, f, g, h⟩ | ⟨hp1, f, g, h⟩
    · skip
      replace hp1 : (c2).toInt ≤ (u6).toInt := ic_ge.mp hp1
      refine Or.inl ⟨hp1, ?_⟩
      replace hf := Nat.lt_trans g hf
      clear g
      replace h : EV F f 39 z39 63 [y0, some (rf 6 (c1)), some (.inr (.inl (u2))), none, some (rf 18 (0)), some (.inl (c2)), some (.inl (u6)), y7] [] σ (.inl (some (.inr (.inl w))), σ') := h
      replace h := ei_p h rfl rfl rfl rfl
      obtain ⟨f, g, h⟩ := h
      replace hf := Nat.lt_trans g hf
      clear g
      replace h : EV F f 39 z39 64 [y0, some (rf 6 (c1)), some (.inr (.inl (u2))), none, some (rf 18 (0)), some (.inl (c2)), some (.inl (u6)), y7] [.inr (.inl (u2))] σ (.inl (some (.inr (.inl w))), σ') := h
      have e := ei_lret h rfl
      cases e
      exact rfl
    · skip
      replace hp1 : ¬ ((c2).toInt ≤ (u6).toInt) := (not_congr ic_ge).mp hp1
      refine Or.inr ⟨hp1, ?_⟩
      replace hf := Nat.lt_trans g hf
      clear g
      replace h : EV F f 39 z39 31 [y0, some (rf 6 (c1)), some (.inr (.inl (u2))), none, some (rf 18 (0)), some (.inl (c2)), some (.inl (u6)), y7] [] σ (.inl (some (.inr (.inl w))), σ') := h
      replace h := ei_p h rfl rfl rfl rfl
      obtain ⟨f, g, h⟩ := h
      replace hf := Nat.lt_trans g hf
      clear g
      replace h : EV F f 39 z39 33 [y0, some (rf 6 (c1)), some (.inr (.inl (u2))), none, some (rf 18 (0)), some (.inl (c2)), some (.inl (u6)), y7] [rf 18 (0)] σ (.inl (some (.inr (.inl w))), σ') := h
      replace h := ei_p h rfl rfl rfl rfl
      obtain ⟨f, g, h⟩ := h
      replace hf := Nat.lt_trans g hf
      clear g
      replace h : EV F f 39 z39 35 [y0, some (rf 6 (c1)), some (.inr (.inl (u2))), none, some (rf 18 (0)), some (.inl (c2)), some (.inl (u6)), y7] [.inl (u6), rf 18 (0)] σ (.inl (some (.inr (.inl w))), σ') := h
      replace h := ei_ald h rfl (HS_a18 hs)
      obtain ⟨vp2, f, g, h⟩ := h
      replace hf := Nat.lt_trans g hf
      clear g
      replace h : EV F f 39 z39 36 [y0, some (rf 6 (c1)), some (.inr (.inl (u2))), none, some (rf 18 (0)), some (.inl (c2)), some (.inl (u6)), y7] [rf 8 ((u6).toNatClampNeg)] σ (.inl (some (.inr (.inl w))), σ') := h
      refine ⟨HS_v18 hs vp2, ?_⟩
      replace h := ei_p h rfl rfl rfl rfl
      obtain ⟨f, g, h⟩ := h
      replace hf := Nat.lt_trans g hf
      clear g
      replace h : EV F f 39 z39 38 [y0, some (rf 6 (c1)), some (.inr (.inl (u2))), none, some (rf 18 (0)), some (.inl (c2)), some (.inl (u6)), some (rf 8 ((u6).toNatClampNeg))] [] σ (.inl (some (.inr (.inl w))), σ') := h
      replace h := ei_p h rfl rfl rfl rfl
      obtain ⟨f, g, h⟩ := h
      replace hf := Nat.lt_trans g hf
      clear g
      replace h : EV F f 39 z39 39 [y0, some (rf 6 (c1)), some (.inr (.inl (u2))), none, some (rf 18 (0)), some (.inl (c2)), some (.inl (u6)), some (rf 8 ((u6).toNatClampNeg))] [.inr (.inl (u2))] σ (.inl (some (.inr (.inl w))), σ') := h
      replace h := ei_p h rfl rfl rfl rfl
      obtain ⟨f, g, h⟩ := h
      replace hf := Nat.lt_trans g hf
      clear g
      replace h : EV F f 39 z39 40 [y0, some (rf 6 (c1)), some (.inr (.inl (u2))), none, some (rf 18 (0)), some (.inl (c2)), some (.inl (u6)), some (rf 8 ((u6).toNatClampNeg))] [rf 6 (c1), .inr (.inl (u2))] σ (.inl (some (.inr (.inl w))), σ') := h
      replace h := ei_p h rfl rfl rfl rfl
      obtain ⟨f, g, h⟩ := h
      replace hf := Nat.lt_trans g hf
      clear g
      replace h : EV F f 39 z39 42 [y0, some (rf 6 (c1)), some (.inr (.inl (u2))), none, some (rf 18 (0)), some (.inl (c2)), some (.inl (u6)), some (rf 8 ((u6).toNatClampNeg))] [rf 8 ((u6).toNatClampNeg), rf 6 (c1), .inr (.inl (u2))] σ (.inl (some (.inr (.inl w))), σ') := h
      replace h := ei_get h rfl rfl
      obtain ⟨f, g, h⟩ := h
      replace hf := Nat.lt_trans g hf
      clear g
      replace h : EV F f 39 z39 45 [y0, some (rf 6 (c1)), some (.inr (.inl (u2))), none, some (rf 18 (0)), some (.inl (c2)), some (.inl (u6)), some (rf 8 ((u6).toNatClampNeg))] [.inl (m_i σ 8 ((u6).toNatClampNeg) 0), rf 6 (c1), .inr (.inl (u2))] σ (.inl (some (.inr (.inl w))), σ') := h
      replace h := bk_L (ei_v (as := [.inl (m_i σ 8 ((u6).toNatClampNeg) 0)]) h rfl rfl rfl) rfl z90_at rfl
      obtain ⟨v3, σ4, r5, f, g, h⟩ := h
      replace hf := Nat.lt_trans g hf
      clear g
      have er5 := ro_run rfl r5
      rw [er5] at h r5
      have p6 := x90 hs r5
      refine ⟨v3, p6, ?_⟩
      replace h : EV F f 39 z39 48 [y0, some (rf 6 (c1)), some (.inr (.inl (u2))), none, some (rf 18 (0)), some (.inl (c2)), some (.inl (u6)), some (rf 8 ((u6).toNatClampNeg))] [.inr (.inl (v3)), .inr (.inl (u2))] σ (.inl (some (.inr (.inl w))), σ') := h
      replace h := ei_p h rfl rfl rfl rfl
      obtain ⟨f, g, h⟩ := h
      replace hf := Nat.lt_trans g hf
      clear g
      replace h : EV F f 39 z39 50 [y0, some (rf 6 (c1)), some (.inr (.inl (u2))), none, some (rf 18 (0)), some (.inl (c2)), some (.inl (u6)), some (rf 8 ((u6).toNatClampNeg))] [rf 8 ((u6).toNatClampNeg), .inr (.inl (v3)), .inr (.inl (u2))] σ (.inl (some (.inr (.inl w))), σ') := h
      replace h := ei_get h rfl rfl
      obtain ⟨f, g, h⟩ := h
      replace hf := Nat.lt_trans g hf
      clear g
      replace h : EV F f 39 z39 53 [y0, some (rf 6 (c1)), some (.inr (.inl (u2))), none, some (rf 18 (0)), some (.inl (c2)), some (.inl (u6)), some (rf 8 ((u6).toNatClampNeg))] [.inl (m_i σ 8 ((u6).toNatClampNeg) 2), .inr (.inl (v3)), .inr (.inl (u2))] σ (.inl (some (.inr (.inl w))), σ') := h
      replace h := ei_p h rfl rfl rfl rfl
      obtain ⟨f, g, h⟩ := h
      replace hf := Nat.lt_trans g hf
      clear g
      replace h : EV F f 39 z39 54 [y0, some (rf 6 (c1)), some (.inr (.inl (u2))), none, some (rf 18 (0)), some (.inl (c2)), some (.inl (u6)), some (rf 8 ((u6).toNatClampNeg))] [.inr (.inl ((m_i σ 8 ((u6).toNatClampNeg) 2).toInt64)), .inr (.inl (v3)), .inr (.inl (u2))] σ (.inl (some (.inr (.inl w))), σ') := h
      replace h := ei_p h rfl rfl rfl rfl
      obtain ⟨f, g, h⟩ := h
      replace hf := Nat.lt_trans g hf
      clear g
      replace h : EV F f 39 z39 55 [y0, some (rf 6 (c1)), some (.inr (.inl (u2))), none, some (rf 18 (0)), some (.inl (c2)), some (.inl (u6)), some (rf 8 ((u6).toNatClampNeg))] [.inr (.inl ((v3) * ((m_i σ 8 ((u6).toNatClampNeg) 2).toInt64))), .inr (.inl (u2))] σ (.inl (some (.inr (.inl w))), σ') := h
      replace h := ei_p h rfl rfl rfl rfl
      obtain ⟨f, g, h⟩ := h
      replace hf := Nat.lt_trans g hf
      clear g
      replace h : EV F f 39 z39 56 [y0, some (rf 6 (c1)), some (.inr (.inl (u2))), none, some (rf 18 (0)), some (.inl (c2)), some (.inl (u6)), some (rf 8 ((u6).toNatClampNeg))] [.inr (.inl ((u2) + ((v3) * ((m_i σ 8 ((u6).toNatClampNeg) 2).toInt64))))] σ (.inl (some (.inr (.inl w))), σ') := h
      replace h := ei_p h rfl rfl rfl rfl
      obtain ⟨f, g, h⟩ := h
      replace hf := Nat.lt_trans g hf
      clear g
      replace h : EV F f 39 z39 57 [y0, some (rf 6 (c1)), some (.inr (.inl ((u2) + ((v3) * ((m_i σ 8 ((u6).toNatClampNeg) 2).toInt64))))), none, some (rf 18 (0)), some (.inl (c2)), some (.inl (u6)), some (rf 8 ((u6).toNatClampNeg))] [] σ (.inl (some (.inr (.inl w))), σ') := h
      obtain ⟨n7, e8⟩ : ∃ s, s = (u2) + ((v3) * ((m_i σ 8 ((u6).toNatClampNeg) 2).toInt64)) := ⟨_, rfl⟩
      rw [← e8] at h
      refine ⟨n7, e8, ?_⟩
      replace h : EV F f 39 z39 57 [y0, some (rf 6 (c1)), some (.inr (.inl (n7))), none, some (rf 18 (0)), some (.inl (c2)), some (.inl (u6)), some (rf 8 ((u6).toNatClampNeg))] [] σ (.inl (some (.inr (.inl w))), σ') := h
      replace h := ei_p h rfl rfl rfl rfl
      obtain ⟨f, g, h⟩ := h
      replace hf := Nat.lt_trans g hf
      clear g
      replace h : EV F f 39 z39 60 [y0, some (rf 6 (c1)), some (.inr (.inl (n7))), none, some (rf 18 (0)), some (.inl (c2)), some (.inl ((u6) + Int32.ofInt 1)), some (rf 8 ((u6).toNatClampNeg))] [] σ (.inl (some (.inr (.inl w))), σ') := h
      replace h := ei_p h rfl rfl rfl rfl
      obtain ⟨f, g, h⟩ := h
      replace hf := Nat.lt_trans g hf
      clear g
      replace h : EV F f 39 z39 24 [y0, some (rf 6 (c1)), some (.inr (.inl (n7))), none, some (rf 18 (0)), some (.inl (c2)), some (.inl ((u6) + Int32.ofInt 1)), some (rf 8 ((u6).toNatClampNeg))] [] σ (.inl (some (.inr (.inl w))), σ') := h
      exact IH f hf (n7) ((u6) + Int32.ofInt 1) y0 (some (rf 8 ((u6).toNatClampNeg))) h
def P39 (σ : mS) (x1 : mR) (w : Int64) : Prop := ∃ i1, x1 = some (6, i1) ∧ ∃ n3, n3 = (m_l σ 6 (i1) 2) + (m_l σ 6 (i1) 3) ∧ ∃ n, Q39_24 σ (i1) (Int32.ofInt 3) n (n3) (Int32.ofInt 0) w
theorem x39 {σ σ' : mS} {x1 : mR} {w : Int64} (hs : HS σ) (h : ev_run sm_all 39 [rf 2 (0), .inr (.inr (x1))] σ (.inl (some (.inr (.inl w)))) σ') : P39 σ x1 w := by
  unfold P39
  obtain ⟨F, f, h⟩ := ei_go h z39_at
  replace h : EV F f 39 z39 0 [some (rf 2 (0)), some (.inr (.inr (x1))), none, none, none, none, none, none] [] σ (.inl (some (.inr (.inl w))), σ') := h
  replace h := ei_p h rfl rfl rfl rfl
  obtain ⟨f, g, h⟩ := h
  clear g
  replace h : EV F f 39 z39 1 [some (rf 2 (0)), some (.inr (.inr (x1))), none, none, none, none, none, none] [.inr (.inr (x1))] σ (.inl (some (.inr (.inl w))), σ') := h
  obtain ⟨i1, e2⟩ := ei_gp h rfl
  rw [e2] at h
  refine ⟨i1, e2, ?_⟩
  replace h : EV F f 39 z39 1 [some (rf 2 (0)), some (rf 6 (i1)), none, none, none, none, none, none] [rf 6 (i1)] σ (.inl (some (.inr (.inl w))), σ') := h
  replace h := ei_get h rfl rfl
  obtain ⟨f, g, h⟩ := h
  clear g
  replace h : EV F f 39 z39 4 [some (rf 2 (0)), some (rf 6 (i1)), none, none, none, none, none, none] [.inr (.inl (m_l σ 6 (i1) 2))] σ (.inl (some (.inr (.inl w))), σ') := h
  replace h := ei_p h rfl rfl rfl rfl
  obtain ⟨f, g, h⟩ := h
  clear g
  replace h : EV F f 39 z39 5 [some (rf 2 (0)), some (rf 6 (i1)), none, none, none, none, none, none] [rf 6 (i1), .inr (.inl (m_l σ 6 (i1) 2))] σ (.inl (some (.inr (.inl w))), σ') := h
  replace h := ei_get h rfl rfl
  obtain ⟨f, g, h⟩ := h
  clear g
  replace h : EV F f 39 z39 8 [some (rf 2 (0)), some (rf 6 (i1)), none, none, none, none, none, none] [.inr (.inl (m_l σ 6 (i1) 3)), .inr (.inl (m_l σ 6 (i1) 2))] σ (.inl (some (.inr (.inl w))), σ') := h
  replace h := ei_p h rfl rfl rfl rfl
  obtain ⟨f, g, h⟩ := h
  clear g
  replace h : EV F f 39 z39 9 [some (rf 2 (0)), some (rf 6 (i1)), none, none, none, none, none, none] [.inr (.inl ((m_l σ 6 (i1) 2) + (m_l σ 6 (i1) 3)))] σ (.inl (some (.inr (.inl w))), σ') := h
  replace h := ei_p h rfl rfl rfl rfl
  obtain ⟨f, g, h⟩ := h
  clear g
  replace h : EV F f 39 z39 10 [some (rf 2 (0)), some (rf 6 (i1)), some (.inr (.inl ((m_l σ 6 (i1) 2) + (m_l σ 6 (i1) 3)))), none, none, none, none, none] [] σ (.inl (some (.inr (.inl w))), σ') := h
  obtain ⟨n3, e4⟩ : ∃ s, s = (m_l σ 6 (i1) 2) + (m_l σ 6 (i1) 3) := ⟨_, rfl⟩
  rw [← e4] at h
  refine ⟨n3, e4, ?_⟩
  replace h : EV F f 39 z39 10 [some (rf 2 (0)), some (rf 6 (i1)), some (.inr (.inl (n3))), none, none, none, none, none] [] σ (.inl (some (.inr (.inl w))), σ') := h
  replace h := ei_p h rfl rfl rfl rfl
  obtain ⟨f, g, h⟩ := h
  clear g
  replace h : EV F f 39 z39 11 [some (rf 2 (0)), some (rf 6 (i1)), some (.inr (.inl (n3))), none, none, none, none, none] [rf 2 (0)] σ (.inl (some (.inr (.inl w))), σ') := h
  replace h := ei_get h rfl (HS_g2_2 hs)
  obtain ⟨f, g, h⟩ := h
  clear g
  replace h : EV F f 39 z39 14 [some (rf 2 (0)), some (rf 6 (i1)), some (.inr (.inl (n3))), none, none, none, none, none] [rf 18 (0)] σ (.inl (some (.inr (.inl w))), σ') := h
  replace h := ei_p h rfl rfl rfl rfl
  obtain ⟨f, g, h⟩ := h
  clear g
  replace h : EV F f 39 z39 16 [some (rf 2 (0)), some (rf 6 (i1)), some (.inr (.inl (n3))), none, some (rf 18 (0)), none, none, none] [] σ (.inl (some (.inr (.inl w))), σ') := h
  replace h := ei_p h rfl rfl rfl rfl
  obtain ⟨f, g, h⟩ := h
  clear g
  replace h : EV F f 39 z39 18 [some (rf 2 (0)), some (rf 6 (i1)), some (.inr (.inl (n3))), none, some (rf 18 (0)), none, none, none] [rf 18 (0)] σ (.inl (some (.inr (.inl w))), σ') := h
  replace h := ei_len h rfl (HS_l18_0 hs) ⟨Nat.le_of_ble_eq_true rfl, Nat.le_of_ble_eq_true rfl⟩
  obtain ⟨f, g, h⟩ := h
  clear g
  replace h : EV F f 39 z39 19 [some (rf 2 (0)), some (rf 6 (i1)), some (.inr (.inl (n3))), none, some (rf 18 (0)), none, none, none] [.inl (Int32.ofInt 3)] σ (.inl (some (.inr (.inl w))), σ') := h
  replace h := ei_p h rfl rfl rfl rfl
  obtain ⟨f, g, h⟩ := h
  clear g
  replace h : EV F f 39 z39 21 [some (rf 2 (0)), some (rf 6 (i1)), some (.inr (.inl (n3))), none, some (rf 18 (0)), some (.inl (Int32.ofInt 3)), none, none] [] σ (.inl (some (.inr (.inl w))), σ') := h
  replace h := ei_p h rfl rfl rfl rfl
  obtain ⟨f, g, h⟩ := h
  clear g
  replace h : EV F f 39 z39 22 [some (rf 2 (0)), some (rf 6 (i1)), some (.inr (.inl (n3))), none, some (rf 18 (0)), some (.inl (Int32.ofInt 3)), none, none] [.inl (Int32.ofInt 0)] σ (.inl (some (.inr (.inl w))), σ') := h
  replace h := ei_p h rfl rfl rfl rfl
  obtain ⟨f, g, h⟩ := h
  clear g
  replace h : EV F f 39 z39 24 [some (rf 2 (0)), some (rf 6 (i1)), some (.inr (.inl (n3))), none, some (rf 18 (0)), some (.inl (Int32.ofInt 3)), some (.inl (Int32.ofInt 0)), none] [] σ (.inl (some (.inr (.inl w))), σ') := h
  exact ⟨f + 1, q39_24 hs (f + 1) f (Nat.lt_succ_self f) (n3) (Int32.ofInt 0) _ _ h⟩
def z41 : mAl := ((yX2_lossBy, cX2_lossBy, 6, (some .long), { frames := 1, cells := 0, slots := 0, locals := 21 }, []), rw_X2_lossBy, false)
theorem z41_at : m_alF[41]? = some z41 := rfl
abbrev B41_5 (σ : mS) (c1 : mR) (c2 : Nat) (ih : Int64 → Int32 → Int64 → Prop) (u3 : Int64) (u5 : Int32) (w : Int64) : Prop := (((3 : Int) ≤ (u5).toInt ∧ w = (-(u3))) ∨ (¬ ((3 : Int) ≤ (u5).toInt) ∧ (((Int32.ofNat (σ.2.1 13 (c2))).toInt ≤ (u5).toInt ∧ w = (-(u3))) ∨ (¬ ((Int32.ofNat (σ.2.1 13 (c2))).toInt ≤ (u5).toInt) ∧ ∃ i3, c1 = some (6, i3) ∧ ∃ v5, P90 σ (i3) (u5) v5 ∧ (0 ≤ (u5).toInt ∧ (u5).toInt < 3) ∧ (0 ≤ (u5).toInt ∧ (u5).toInt < (σ.2.1 13 (c2) : Int)) ∧ ∃ n12, n12 = (u3) + ((((v5) * ((m_i σ 8 ((u5).toNatClampNeg) 2).toInt64)) * ((m_i σ 13 (c2) (u5).toNatClampNeg).toInt64)) / (Int64.ofInt 100)) ∧ ih (n12) ((u5) + Int32.ofInt 1) w))))
def Q41_5 (σ : mS) (c1 : mR) (c2 : Nat) : Nat → Int64 → Int32 → Int64 → Prop
  | 0 => fun _ _ _ => False
  | n + 1 => B41_5 σ c1 c2 (Q41_5 σ c1 c2 n)
theorem q41_5 {F : Nat} {σ σ' : mS} {c1 : mR} {c2 : Nat} {w : Int64} (hs : HS σ) : ∀ N f, f < N → ∀ (u3 : Int64) (u5 : Int32), EV F f 41 z41 5 [some (rf 2 (0)), some (.inr (.inr (c1))), some (rf 13 (c2)), some (.inr (.inl (u3))), none, some (.inl (u5))] [] σ (.inl (some (.inr (.inl w))), σ') → Q41_5 σ c1 c2 N u3 u5 w := by
  intro N
  induction N with
  | zero => intro f hf; omega
  | succ N IH =>
    intro f hf0 u3 u5 h
    have hf : f < N + 1 := hf0
    clear hf0
    show B41_5 σ c1 c2 (Q41_5 σ c1 c2 N) u3 u5 w
    replace h := ei_p h rfl rfl rfl rfl
    obtain ⟨f, g, h⟩ := h
    replace hf := Nat.lt_of_lt_of_le g (Nat.le_of_lt_succ hf)
    clear g
    replace h : EV F f 41 z41 7 [some (rf 2 (0)), some (.inr (.inr (c1))), some (rf 13 (c2)), some (.inr (.inl (u3))), none, some (.inl (u5))] [.inl (u5)] σ (.inl (some (.inr (.inl w))), σ') := h
    replace h := ei_p h rfl rfl rfl rfl
    obtain ⟨f, g, h⟩ := h
    replace hf := Nat.lt_trans g hf
    clear g
    replace h : EV F f 41 z41 8 [some (rf 2 (0)), some (.inr (.inr (c1))), some (rf 13 (c2)), some (.inr (.inl (u3))), none, some (.inl (u5))] [rf 2 (0), .inl (u5)] σ (.inl (some (.inr (.inl w))), σ') := h
    replace h := ei_get h rfl (HS_g2_2 hs)
    obtain ⟨f, g, h⟩ := h
    replace hf := Nat.lt_trans g hf
    clear g
    replace h : EV F f 41 z41 11 [some (rf 2 (0)), some (.inr (.inr (c1))), some (rf 13 (c2)), some (.inr (.inl (u3))), none, some (.inl (u5))] [rf 18 (0), .inl (u5)] σ (.inl (some (.inr (.inl w))), σ') := h
    replace h := ei_len h rfl (HS_l18_0 hs) ⟨Nat.le_of_ble_eq_true rfl, Nat.le_of_ble_eq_true rfl⟩
    obtain ⟨f, g, h⟩ := h
    replace hf := Nat.lt_trans g hf
    clear g
    replace h : EV F f 41 z41 12 [some (rf 2 (0)), some (.inr (.inr (c1))), some (rf 13 (c2)), some (.inr (.inl (u3))), none, some (.inl (u5))] [.inl (Int32.ofInt 3), .inl (u5)] σ (.inl (some (.inr (.inl w))), σ') := h
    replace h := ei_c h rfl rfl rfl
    rcases h with ⟨hp1, f, g, h⟩ | ⟨hp1, f, g, h⟩
    · skip
      replace hp1 : (3 : Int) ≤ (u5).toInt := ic_ge.mp hp1
      refine Or.inl ⟨hp1, ?_⟩
      replace hf := Nat.lt_trans g hf
      clear g
      replace h : EV F f 41 z41 59 [some (rf 2 (0)), some (.inr (.inr (c1))), some (rf 13 (c2)), some (.inr (.inl (u3))), none, some (.inl (u5))] [] σ (.inl (some (.inr (.inl w))), σ') := h
      replace h := ei_p h rfl rfl rfl rfl
      obtain ⟨f, g, h⟩ := h
      replace hf := Nat.lt_trans g hf
      clear g
      replace h : EV F f 41 z41 60 [some (rf 2 (0)), some (.inr (.inr (c1))), some (rf 13 (c2)), some (.inr (.inl (u3))), none, some (.inl (u5))] [.inr (.inl (u3))] σ (.inl (some (.inr (.inl w))), σ') := h
      replace h := ei_p h rfl rfl rfl rfl
      obtain ⟨f, g, h⟩ := h
      replace hf := Nat.lt_trans g hf
      clear g
      replace h : EV F f 41 z41 61 [some (rf 2 (0)), some (.inr (.inr (c1))), some (rf 13 (c2)), some (.inr (.inl (u3))), none, some (.inl (u5))] [.inr (.inl (-(u3)))] σ (.inl (some (.inr (.inl w))), σ') := h
      have e := ei_lret h rfl
      cases e
      exact rfl
    · skip
      replace hp1 : ¬ ((3 : Int) ≤ (u5).toInt) := (not_congr ic_ge).mp hp1
      refine Or.inr ⟨hp1, ?_⟩
      replace hf := Nat.lt_trans g hf
      clear g
      replace h : EV F f 41 z41 15 [some (rf 2 (0)), some (.inr (.inr (c1))), some (rf 13 (c2)), some (.inr (.inl (u3))), none, some (.inl (u5))] [] σ (.inl (some (.inr (.inl w))), σ') := h
      replace h := ei_p h rfl rfl rfl rfl
      obtain ⟨f, g, h⟩ := h
      replace hf := Nat.lt_trans g hf
      clear g
      replace h : EV F f 41 z41 17 [some (rf 2 (0)), some (.inr (.inr (c1))), some (rf 13 (c2)), some (.inr (.inl (u3))), none, some (.inl (u5))] [.inl (u5)] σ (.inl (some (.inr (.inl w))), σ') := h
      replace h := ei_p h rfl rfl rfl rfl
      obtain ⟨f, g, h⟩ := h
      replace hf := Nat.lt_trans g hf
      clear g
      replace h : EV F f 41 z41 18 [some (rf 2 (0)), some (.inr (.inr (c1))), some (rf 13 (c2)), some (.inr (.inl (u3))), none, some (.inl (u5))] [rf 13 (c2), .inl (u5)] σ (.inl (some (.inr (.inl w))), σ') := h
      replace h := ei_len h rfl rfl ⟨Nat.le_of_ble_eq_true rfl, Nat.le_of_ble_eq_true rfl⟩
      obtain ⟨f, g, h⟩ := h
      replace hf := Nat.lt_trans g hf
      clear g
      replace h : EV F f 41 z41 19 [some (rf 2 (0)), some (.inr (.inr (c1))), some (rf 13 (c2)), some (.inr (.inl (u3))), none, some (.inl (u5))] [.inl (Int32.ofNat (σ.2.1 13 (c2))), .inl (u5)] σ (.inl (some (.inr (.inl w))), σ') := h
      replace h := ei_c h rfl rfl rfl
      rcases h with ⟨hp2, f, g, h⟩ | ⟨hp2, f, g, h⟩
      · skip
        replace hp2 : (Int32.ofNat (σ.2.1 13 (c2))).toInt ≤ (u5).toInt := ic_ge.mp hp2
        refine Or.inl ⟨hp2, ?_⟩
        replace hf := Nat.lt_trans g hf
        clear g
        replace h : EV F f 41 z41 59 [some (rf 2 (0)), some (.inr (.inr (c1))), some (rf 13 (c2)), some (.inr (.inl (u3))), none, some (.inl (u5))] [] σ (.inl (some (.inr (.inl w))), σ') := h
        replace h := ei_p h rfl rfl rfl rfl
        obtain ⟨f, g, h⟩ := h
        replace hf := Nat.lt_trans g hf
        clear g
        replace h : EV F f 41 z41 60 [some (rf 2 (0)), some (.inr (.inr (c1))), some (rf 13 (c2)), some (.inr (.inl (u3))), none, some (.inl (u5))] [.inr (.inl (u3))] σ (.inl (some (.inr (.inl w))), σ') := h
        replace h := ei_p h rfl rfl rfl rfl
        obtain ⟨f, g, h⟩ := h
        replace hf := Nat.lt_trans g hf
        clear g
        replace h : EV F f 41 z41 61 [some (rf 2 (0)), some (.inr (.inr (c1))), some (rf 13 (c2)), some (.inr (.inl (u3))), none, some (.inl (u5))] [.inr (.inl (-(u3)))] σ (.inl (some (.inr (.inl w))), σ') := h
        have e := ei_lret h rfl
        cases e
        exact rfl
      · skip
        replace hp2 : ¬ ((Int32.ofNat (σ.2.1 13 (c2))).toInt ≤ (u5).toInt) := (not_congr ic_ge).mp hp2
        refine Or.inr ⟨hp2, ?_⟩
        replace hf := Nat.lt_trans g hf
        clear g
        replace h : EV F f 41 z41 22 [some (rf 2 (0)), some (.inr (.inr (c1))), some (rf 13 (c2)), some (.inr (.inl (u3))), none, some (.inl (u5))] [] σ (.inl (some (.inr (.inl w))), σ') := h
        replace h := ei_p h rfl rfl rfl rfl
        obtain ⟨f, g, h⟩ := h
        replace hf := Nat.lt_trans g hf
        clear g
        replace h : EV F f 41 z41 23 [some (rf 2 (0)), some (.inr (.inr (c1))), some (rf 13 (c2)), some (.inr (.inl (u3))), none, some (.inl (u5))] [.inr (.inl (u3))] σ (.inl (some (.inr (.inl w))), σ') := h
        replace h := ei_p h rfl rfl rfl rfl
        obtain ⟨f, g, h⟩ := h
        replace hf := Nat.lt_trans g hf
        clear g
        replace h : EV F f 41 z41 24 [some (rf 2 (0)), some (.inr (.inr (c1))), some (rf 13 (c2)), some (.inr (.inl (u3))), none, some (.inl (u5))] [.inr (.inr (c1)), .inr (.inl (u3))] σ (.inl (some (.inr (.inl w))), σ') := h
        replace h := ei_p h rfl rfl rfl rfl
        obtain ⟨f, g, h⟩ := h
        replace hf := Nat.lt_trans g hf
        clear g
        replace h : EV F f 41 z41 26 [some (rf 2 (0)), some (.inr (.inr (c1))), some (rf 13 (c2)), some (.inr (.inl (u3))), none, some (.inl (u5))] [.inl (u5), .inr (.inr (c1)), .inr (.inl (u3))] σ (.inl (some (.inr (.inl w))), σ') := h
        obtain ⟨i3, e4⟩ := ei_vp (as := [.inl (u5)]) h rfl rfl
        rw [e4] at h
        refine ⟨i3, e4, ?_⟩
        replace h : EV F f 41 z41 26 [some (rf 2 (0)), some (rf 6 (i3)), some (rf 13 (c2)), some (.inr (.inl (u3))), none, some (.inl (u5))] [.inl (u5), rf 6 (i3), .inr (.inl (u3))] σ (.inl (some (.inr (.inl w))), σ') := h
        replace h := bk_L (ei_v (as := [.inl (u5)]) h rfl rfl rfl) rfl z90_at rfl
        obtain ⟨v5, σ6, r7, f, g, h⟩ := h
        replace hf := Nat.lt_trans g hf
        clear g
        have er7 := ro_run rfl r7
        rw [er7] at h r7
        have p8 := x90 hs r7
        refine ⟨v5, p8, ?_⟩
        replace h : EV F f 41 z41 29 [some (rf 2 (0)), some (rf 6 (i3)), some (rf 13 (c2)), some (.inr (.inl (u3))), none, some (.inl (u5))] [.inr (.inl (v5)), .inr (.inl (u3))] σ (.inl (some (.inr (.inl w))), σ') := h
        replace h := ei_p h rfl rfl rfl rfl
        obtain ⟨f, g, h⟩ := h
        replace hf := Nat.lt_trans g hf
        clear g
        replace h : EV F f 41 z41 30 [some (rf 2 (0)), some (rf 6 (i3)), some (rf 13 (c2)), some (.inr (.inl (u3))), none, some (.inl (u5))] [rf 2 (0), .inr (.inl (v5)), .inr (.inl (u3))] σ (.inl (some (.inr (.inl w))), σ') := h
        replace h := ei_get h rfl (HS_g2_2 hs)
        obtain ⟨f, g, h⟩ := h
        replace hf := Nat.lt_trans g hf
        clear g
        replace h : EV F f 41 z41 33 [some (rf 2 (0)), some (rf 6 (i3)), some (rf 13 (c2)), some (.inr (.inl (u3))), none, some (.inl (u5))] [rf 18 (0), .inr (.inl (v5)), .inr (.inl (u3))] σ (.inl (some (.inr (.inl w))), σ') := h
        replace h := ei_p h rfl rfl rfl rfl
        obtain ⟨f, g, h⟩ := h
        replace hf := Nat.lt_trans g hf
        clear g
        replace h : EV F f 41 z41 35 [some (rf 2 (0)), some (rf 6 (i3)), some (rf 13 (c2)), some (.inr (.inl (u3))), none, some (.inl (u5))] [.inl (u5), rf 18 (0), .inr (.inl (v5)), .inr (.inl (u3))] σ (.inl (some (.inr (.inl w))), σ') := h
        replace h := ei_ald h rfl (HS_a18 hs)
        obtain ⟨vp9, f, g, h⟩ := h
        replace hf := Nat.lt_trans g hf
        clear g
        replace h : EV F f 41 z41 36 [some (rf 2 (0)), some (rf 6 (i3)), some (rf 13 (c2)), some (.inr (.inl (u3))), none, some (.inl (u5))] [rf 8 ((u5).toNatClampNeg), .inr (.inl (v5)), .inr (.inl (u3))] σ (.inl (some (.inr (.inl w))), σ') := h
        refine ⟨HS_v18 hs vp9, ?_⟩
        replace h := ei_get h rfl rfl
        obtain ⟨f, g, h⟩ := h
        replace hf := Nat.lt_trans g hf
        clear g
        replace h : EV F f 41 z41 39 [some (rf 2 (0)), some (rf 6 (i3)), some (rf 13 (c2)), some (.inr (.inl (u3))), none, some (.inl (u5))] [.inl (m_i σ 8 ((u5).toNatClampNeg) 2), .inr (.inl (v5)), .inr (.inl (u3))] σ (.inl (some (.inr (.inl w))), σ') := h
        replace h := ei_p h rfl rfl rfl rfl
        obtain ⟨f, g, h⟩ := h
        replace hf := Nat.lt_trans g hf
        clear g
        replace h : EV F f 41 z41 40 [some (rf 2 (0)), some (rf 6 (i3)), some (rf 13 (c2)), some (.inr (.inl (u3))), none, some (.inl (u5))] [.inr (.inl ((m_i σ 8 ((u5).toNatClampNeg) 2).toInt64)), .inr (.inl (v5)), .inr (.inl (u3))] σ (.inl (some (.inr (.inl w))), σ') := h
        replace h := ei_p h rfl rfl rfl rfl
        obtain ⟨f, g, h⟩ := h
        replace hf := Nat.lt_trans g hf
        clear g
        replace h : EV F f 41 z41 41 [some (rf 2 (0)), some (rf 6 (i3)), some (rf 13 (c2)), some (.inr (.inl (u3))), none, some (.inl (u5))] [.inr (.inl ((v5) * ((m_i σ 8 ((u5).toNatClampNeg) 2).toInt64))), .inr (.inl (u3))] σ (.inl (some (.inr (.inl w))), σ') := h
        replace h := ei_p h rfl rfl rfl rfl
        obtain ⟨f, g, h⟩ := h
        replace hf := Nat.lt_trans g hf
        clear g
        replace h : EV F f 41 z41 42 [some (rf 2 (0)), some (rf 6 (i3)), some (rf 13 (c2)), some (.inr (.inl (u3))), none, some (.inl (u5))] [rf 13 (c2), .inr (.inl ((v5) * ((m_i σ 8 ((u5).toNatClampNeg) 2).toInt64))), .inr (.inl (u3))] σ (.inl (some (.inr (.inl w))), σ') := h
        replace h := ei_p h rfl rfl rfl rfl
        obtain ⟨f, g, h⟩ := h
        replace hf := Nat.lt_trans g hf
        clear g
        replace h : EV F f 41 z41 44 [some (rf 2 (0)), some (rf 6 (i3)), some (rf 13 (c2)), some (.inr (.inl (u3))), none, some (.inl (u5))] [.inl (u5), rf 13 (c2), .inr (.inl ((v5) * ((m_i σ 8 ((u5).toNatClampNeg) 2).toInt64))), .inr (.inl (u3))] σ (.inl (some (.inr (.inl w))), σ') := h
        replace h := ei_iald h rfl (fun _ => rfl)
        obtain ⟨vp10, f, g, h⟩ := h
        replace hf := Nat.lt_trans g hf
        clear g
        replace h : EV F f 41 z41 45 [some (rf 2 (0)), some (rf 6 (i3)), some (rf 13 (c2)), some (.inr (.inl (u3))), none, some (.inl (u5))] [.inl (m_i σ 13 (c2) (u5).toNatClampNeg), .inr (.inl ((v5) * ((m_i σ 8 ((u5).toNatClampNeg) 2).toInt64))), .inr (.inl (u3))] σ (.inl (some (.inr (.inl w))), σ') := h
        refine ⟨vp_2 vp10, ?_⟩
        replace h := ei_p h rfl rfl rfl rfl
        obtain ⟨f, g, h⟩ := h
        replace hf := Nat.lt_trans g hf
        clear g
        replace h : EV F f 41 z41 46 [some (rf 2 (0)), some (rf 6 (i3)), some (rf 13 (c2)), some (.inr (.inl (u3))), none, some (.inl (u5))] [.inr (.inl ((m_i σ 13 (c2) (u5).toNatClampNeg).toInt64)), .inr (.inl ((v5) * ((m_i σ 8 ((u5).toNatClampNeg) 2).toInt64))), .inr (.inl (u3))] σ (.inl (some (.inr (.inl w))), σ') := h
        replace h := ei_p h rfl rfl rfl rfl
        obtain ⟨f, g, h⟩ := h
        replace hf := Nat.lt_trans g hf
        clear g
        replace h : EV F f 41 z41 47 [some (rf 2 (0)), some (rf 6 (i3)), some (rf 13 (c2)), some (.inr (.inl (u3))), none, some (.inl (u5))] [.inr (.inl (((v5) * ((m_i σ 8 ((u5).toNatClampNeg) 2).toInt64)) * ((m_i σ 13 (c2) (u5).toNatClampNeg).toInt64))), .inr (.inl (u3))] σ (.inl (some (.inr (.inl w))), σ') := h
        replace h := ei_p h rfl rfl rfl rfl
        obtain ⟨f, g, h⟩ := h
        replace hf := Nat.lt_trans g hf
        clear g
        replace h : EV F f 41 z41 50 [some (rf 2 (0)), some (rf 6 (i3)), some (rf 13 (c2)), some (.inr (.inl (u3))), none, some (.inl (u5))] [.inr (.inl (Int64.ofInt 100)), .inr (.inl (((v5) * ((m_i σ 8 ((u5).toNatClampNeg) 2).toInt64)) * ((m_i σ 13 (c2) (u5).toNatClampNeg).toInt64))), .inr (.inl (u3))] σ (.inl (some (.inr (.inl w))), σ') := h
        replace h := ei_ldiv h rfl
        obtain ⟨hd11, f, g, h⟩ := h
        replace hf := Nat.lt_trans g hf
        clear g
        replace h : EV F f 41 z41 51 [some (rf 2 (0)), some (rf 6 (i3)), some (rf 13 (c2)), some (.inr (.inl (u3))), none, some (.inl (u5))] [.inr (.inl ((((v5) * ((m_i σ 8 ((u5).toNatClampNeg) 2).toInt64)) * ((m_i σ 13 (c2) (u5).toNatClampNeg).toInt64)) / (Int64.ofInt 100))), .inr (.inl (u3))] σ (.inl (some (.inr (.inl w))), σ') := h
        replace h := ei_p h rfl rfl rfl rfl
        obtain ⟨f, g, h⟩ := h
        replace hf := Nat.lt_trans g hf
        clear g
        replace h : EV F f 41 z41 52 [some (rf 2 (0)), some (rf 6 (i3)), some (rf 13 (c2)), some (.inr (.inl (u3))), none, some (.inl (u5))] [.inr (.inl ((u3) + ((((v5) * ((m_i σ 8 ((u5).toNatClampNeg) 2).toInt64)) * ((m_i σ 13 (c2) (u5).toNatClampNeg).toInt64)) / (Int64.ofInt 100))))] σ (.inl (some (.inr (.inl w))), σ') := h
        replace h := ei_p h rfl rfl rfl rfl
        obtain ⟨f, g, h⟩ := h
        replace hf := Nat.lt_trans g hf
        clear g
        replace h : EV F f 41 z41 53 [some (rf 2 (0)), some (rf 6 (i3)), some (rf 13 (c2)), some (.inr (.inl ((u3) + ((((v5) * ((m_i σ 8 ((u5).toNatClampNeg) 2).toInt64)) * ((m_i σ 13 (c2) (u5).toNatClampNeg).toInt64)) / (Int64.ofInt 100))))), none, some (.inl (u5))] [] σ (.inl (some (.inr (.inl w))), σ') := h
        obtain ⟨n12, e13⟩ : ∃ s, s = (u3) + ((((v5) * ((m_i σ 8 ((u5).toNatClampNeg) 2).toInt64)) * ((m_i σ 13 (c2) (u5).toNatClampNeg).toInt64)) / (Int64.ofInt 100)) := ⟨_, rfl⟩
        rw [← e13] at h
        refine ⟨n12, e13, ?_⟩
        replace h : EV F f 41 z41 53 [some (rf 2 (0)), some (rf 6 (i3)), some (rf 13 (c2)), some (.inr (.inl (n12))), none, some (.inl (u5))] [] σ (.inl (some (.inr (.inl w))), σ') := h
        replace h := ei_p h rfl rfl rfl rfl
        obtain ⟨f, g, h⟩ := h
        replace hf := Nat.lt_trans g hf
        clear g
        replace h : EV F f 41 z41 56 [some (rf 2 (0)), some (rf 6 (i3)), some (rf 13 (c2)), some (.inr (.inl (n12))), none, some (.inl ((u5) + Int32.ofInt 1))] [] σ (.inl (some (.inr (.inl w))), σ') := h
        replace h := ei_p h rfl rfl rfl rfl
        obtain ⟨f, g, h⟩ := h
        replace hf := Nat.lt_trans g hf
        clear g
        replace h : EV F f 41 z41 5 [some (rf 2 (0)), some (rf 6 (i3)), some (rf 13 (c2)), some (.inr (.inl (n12))), none, some (.inl ((u5) + Int32.ofInt 1))] [] σ (.inl (some (.inr (.inl w))), σ') := h
        exact IH f hf (n12) ((u5) + Int32.ofInt 1) (by rw [e4]; exact h)
def P41 (σ : mS) (x1 : mR) (x2 : Nat) (w : Int64) : Prop := ∃ n, Q41_5 σ (x1) (x2) n (Int64.ofNat 0) (Int32.ofInt 0) w
theorem x41 {σ σ' : mS} {x1 : mR} {x2 : Nat} {w : Int64} (hs : HS σ) (h : ev_run sm_all 41 [rf 2 (0), .inr (.inr (x1)), rf 13 (x2)] σ (.inl (some (.inr (.inl w)))) σ') : P41 σ x1 x2 w := by
  unfold P41
  obtain ⟨F, f, h⟩ := ei_go h z41_at
  replace h : EV F f 41 z41 0 [some (rf 2 (0)), some (.inr (.inr (x1))), some (rf 13 (x2)), none, none, none] [] σ (.inl (some (.inr (.inl w))), σ') := h
  replace h := ei_p h rfl rfl rfl rfl
  obtain ⟨f, g, h⟩ := h
  clear g
  replace h : EV F f 41 z41 1 [some (rf 2 (0)), some (.inr (.inr (x1))), some (rf 13 (x2)), none, none, none] [.inr (.inl (Int64.ofNat 0))] σ (.inl (some (.inr (.inl w))), σ') := h
  replace h := ei_p h rfl rfl rfl rfl
  obtain ⟨f, g, h⟩ := h
  clear g
  replace h : EV F f 41 z41 2 [some (rf 2 (0)), some (.inr (.inr (x1))), some (rf 13 (x2)), some (.inr (.inl (Int64.ofNat 0))), none, none] [] σ (.inl (some (.inr (.inl w))), σ') := h
  replace h := ei_p h rfl rfl rfl rfl
  obtain ⟨f, g, h⟩ := h
  clear g
  replace h : EV F f 41 z41 3 [some (rf 2 (0)), some (.inr (.inr (x1))), some (rf 13 (x2)), some (.inr (.inl (Int64.ofNat 0))), none, none] [.inl (Int32.ofInt 0)] σ (.inl (some (.inr (.inl w))), σ') := h
  replace h := ei_p h rfl rfl rfl rfl
  obtain ⟨f, g, h⟩ := h
  clear g
  replace h : EV F f 41 z41 5 [some (rf 2 (0)), some (.inr (.inr (x1))), some (rf 13 (x2)), some (.inr (.inl (Int64.ofNat 0))), none, some (.inl (Int32.ofInt 0))] [] σ (.inl (some (.inr (.inl w))), σ') := h
  exact ⟨f + 1, q41_5 hs (f + 1) f (Nat.lt_succ_self f) (Int64.ofNat 0) (Int32.ofInt 0) h⟩
def z40 : mAl := ((yX2_marginOf, cX2_marginOf, 5, (some .long), { frames := 2, cells := 0, slots := 0, locals := 46 }, []), rw_X2_marginOf, false)
theorem z40_at : m_alF[40]? = some z40 := rfl
abbrev B40_5 (σ : mS) (c1 : mR) (ih : Int64 → Int32 → Int64 → Prop) (u2 : Int64) (u4 : Int32) (w : Int64) : Prop := (((m_i σ 2 (0) 6).toInt ≤ (u4).toInt ∧ w = (u2)) ∨ (¬ ((m_i σ 2 (0) 6).toInt ≤ (u4).toInt) ∧ (((4 : Int) ≤ (u4).toInt ∧ w = (u2)) ∨ (¬ ((4 : Int) ≤ (u4).toInt) ∧ (0 ≤ (u4).toInt ∧ (u4).toInt < 4) ∧ ∃ v4, P41 σ (c1) ((u4).toNatClampNeg) v4 ∧ ih (lmax (u2) (v4)) ((u4) + Int32.ofInt 1) w))))
def Q40_5 (σ : mS) (c1 : mR) : Nat → Int64 → Int32 → Int64 → Prop
  | 0 => fun _ _ _ => False
  | n + 1 => B40_5 σ c1 (Q40_5 σ c1 n)
theorem q40_5 {F : Nat} {σ σ' : mS} {c1 : mR} {w : Int64} (hs : HS σ) : ∀ N f, f < N → ∀ (u2 : Int64) (u4 : Int32), EV F f 40 z40 5 [some (rf 2 (0)), some (.inr (.inr (c1))), some (.inr (.inl (u2))), none, some (.inl (u4))] [] σ (.inl (some (.inr (.inl w))), σ') → Q40_5 σ c1 N u2 u4 w := by
  intro N
  induction N with
  | zero => intro f hf; omega
  | succ N IH =>
    intro f hf0 u2 u4 h
    have hf : f < N + 1 := hf0
    clear hf0
    show B40_5 σ c1 (Q40_5 σ c1 N) u2 u4 w
    replace h := ei_p h rfl rfl rfl rfl
    obtain ⟨f, g, h⟩ := h
    replace hf := Nat.lt_of_lt_of_le g (Nat.le_of_lt_succ hf)
    clear g
    replace h : EV F f 40 z40 7 [some (rf 2 (0)), some (.inr (.inr (c1))), some (.inr (.inl (u2))), none, some (.inl (u4))] [.inl (u4)] σ (.inl (some (.inr (.inl w))), σ') := h
    replace h := ei_p h rfl rfl rfl rfl
    obtain ⟨f, g, h⟩ := h
    replace hf := Nat.lt_trans g hf
    clear g
    replace h : EV F f 40 z40 8 [some (rf 2 (0)), some (.inr (.inr (c1))), some (.inr (.inl (u2))), none, some (.inl (u4))] [rf 2 (0), .inl (u4)] σ (.inl (some (.inr (.inl w))), σ') := h
    replace h := ei_get h rfl rfl
    obtain ⟨f, g, h⟩ := h
    replace hf := Nat.lt_trans g hf
    clear g
    replace h : EV F f 40 z40 11 [some (rf 2 (0)), some (.inr (.inr (c1))), some (.inr (.inl (u2))), none, some (.inl (u4))] [.inl (m_i σ 2 (0) 6), .inl (u4)] σ (.inl (some (.inr (.inl w))), σ') := h
    replace h := ei_c h rfl rfl rfl
    rcases h with ⟨hp1, f, g, h⟩ | ⟨hp1, f, g, h⟩
    · skip
      replace hp1 : (m_i σ 2 (0) 6).toInt ≤ (u4).toInt := ic_ge.mp hp1
      refine Or.inl ⟨hp1, ?_⟩
      replace hf := Nat.lt_trans g hf
      clear g
      replace h : EV F f 40 z40 43 [some (rf 2 (0)), some (.inr (.inr (c1))), some (.inr (.inl (u2))), none, some (.inl (u4))] [] σ (.inl (some (.inr (.inl w))), σ') := h
      replace h := ei_p h rfl rfl rfl rfl
      obtain ⟨f, g, h⟩ := h
      replace hf := Nat.lt_trans g hf
      clear g
      replace h : EV F f 40 z40 44 [some (rf 2 (0)), some (.inr (.inr (c1))), some (.inr (.inl (u2))), none, some (.inl (u4))] [.inr (.inl (u2))] σ (.inl (some (.inr (.inl w))), σ') := h
      have e := ei_lret h rfl
      cases e
      exact rfl
    · skip
      replace hp1 : ¬ ((m_i σ 2 (0) 6).toInt ≤ (u4).toInt) := (not_congr ic_ge).mp hp1
      refine Or.inr ⟨hp1, ?_⟩
      replace hf := Nat.lt_trans g hf
      clear g
      replace h : EV F f 40 z40 14 [some (rf 2 (0)), some (.inr (.inr (c1))), some (.inr (.inl (u2))), none, some (.inl (u4))] [] σ (.inl (some (.inr (.inl w))), σ') := h
      replace h := ei_p h rfl rfl rfl rfl
      obtain ⟨f, g, h⟩ := h
      replace hf := Nat.lt_trans g hf
      clear g
      replace h : EV F f 40 z40 16 [some (rf 2 (0)), some (.inr (.inr (c1))), some (.inr (.inl (u2))), none, some (.inl (u4))] [.inl (u4)] σ (.inl (some (.inr (.inl w))), σ') := h
      replace h := ei_p h rfl rfl rfl rfl
      obtain ⟨f, g, h⟩ := h
      replace hf := Nat.lt_trans g hf
      clear g
      replace h : EV F f 40 z40 17 [some (rf 2 (0)), some (.inr (.inr (c1))), some (.inr (.inl (u2))), none, some (.inl (u4))] [.inl (Int32.ofInt 4), .inl (u4)] σ (.inl (some (.inr (.inl w))), σ') := h
      replace h := ei_c h rfl rfl rfl
      rcases h with ⟨hp2, f, g, h⟩ | ⟨hp2, f, g, h⟩
      · skip
        replace hp2 : (4 : Int) ≤ (u4).toInt := ic_ge.mp hp2
        refine Or.inl ⟨hp2, ?_⟩
        replace hf := Nat.lt_trans g hf
        clear g
        replace h : EV F f 40 z40 43 [some (rf 2 (0)), some (.inr (.inr (c1))), some (.inr (.inl (u2))), none, some (.inl (u4))] [] σ (.inl (some (.inr (.inl w))), σ') := h
        replace h := ei_p h rfl rfl rfl rfl
        obtain ⟨f, g, h⟩ := h
        replace hf := Nat.lt_trans g hf
        clear g
        replace h : EV F f 40 z40 44 [some (rf 2 (0)), some (.inr (.inr (c1))), some (.inr (.inl (u2))), none, some (.inl (u4))] [.inr (.inl (u2))] σ (.inl (some (.inr (.inl w))), σ') := h
        have e := ei_lret h rfl
        cases e
        exact rfl
      · skip
        replace hp2 : ¬ ((4 : Int) ≤ (u4).toInt) := (not_congr ic_ge).mp hp2
        refine Or.inr ⟨hp2, ?_⟩
        replace hf := Nat.lt_trans g hf
        clear g
        replace h : EV F f 40 z40 20 [some (rf 2 (0)), some (.inr (.inr (c1))), some (.inr (.inl (u2))), none, some (.inl (u4))] [] σ (.inl (some (.inr (.inl w))), σ') := h
        replace h := ei_p h rfl rfl rfl rfl
        obtain ⟨f, g, h⟩ := h
        replace hf := Nat.lt_trans g hf
        clear g
        replace h : EV F f 40 z40 21 [some (rf 2 (0)), some (.inr (.inr (c1))), some (.inr (.inl (u2))), none, some (.inl (u4))] [.inr (.inl (u2))] σ (.inl (some (.inr (.inl w))), σ') := h
        replace h := ei_p h rfl rfl rfl rfl
        obtain ⟨f, g, h⟩ := h
        replace hf := Nat.lt_trans g hf
        clear g
        replace h : EV F f 40 z40 22 [some (rf 2 (0)), some (.inr (.inr (c1))), some (.inr (.inl (u2))), none, some (.inl (u4))] [rf 2 (0), .inr (.inl (u2))] σ (.inl (some (.inr (.inl w))), σ') := h
        replace h := ei_p h rfl rfl rfl rfl
        obtain ⟨f, g, h⟩ := h
        replace hf := Nat.lt_trans g hf
        clear g
        replace h : EV F f 40 z40 23 [some (rf 2 (0)), some (.inr (.inr (c1))), some (.inr (.inl (u2))), none, some (.inl (u4))] [.inr (.inr (c1)), rf 2 (0), .inr (.inl (u2))] σ (.inl (some (.inr (.inl w))), σ') := h
        replace h := ei_p h rfl rfl rfl rfl
        obtain ⟨f, g, h⟩ := h
        replace hf := Nat.lt_trans g hf
        clear g
        replace h : EV F f 40 z40 24 [some (rf 2 (0)), some (.inr (.inr (c1))), some (.inr (.inl (u2))), none, some (.inl (u4))] [rf 2 (0), .inr (.inr (c1)), rf 2 (0), .inr (.inl (u2))] σ (.inl (some (.inr (.inl w))), σ') := h
        replace h := ei_get h rfl (HS_g2_4 hs)
        obtain ⟨f, g, h⟩ := h
        replace hf := Nat.lt_trans g hf
        clear g
        replace h : EV F f 40 z40 27 [some (rf 2 (0)), some (.inr (.inr (c1))), some (.inr (.inl (u2))), none, some (.inl (u4))] [rf 21 (0), .inr (.inr (c1)), rf 2 (0), .inr (.inl (u2))] σ (.inl (some (.inr (.inl w))), σ') := h
        replace h := ei_p h rfl rfl rfl rfl
        obtain ⟨f, g, h⟩ := h
        replace hf := Nat.lt_trans g hf
        clear g
        replace h : EV F f 40 z40 29 [some (rf 2 (0)), some (.inr (.inr (c1))), some (.inr (.inl (u2))), none, some (.inl (u4))] [.inl (u4), rf 21 (0), .inr (.inr (c1)), rf 2 (0), .inr (.inl (u2))] σ (.inl (some (.inr (.inl w))), σ') := h
        replace h := ei_ald h rfl (HS_a21 hs)
        obtain ⟨vp3, f, g, h⟩ := h
        replace hf := Nat.lt_trans g hf
        clear g
        replace h : EV F f 40 z40 30 [some (rf 2 (0)), some (.inr (.inr (c1))), some (.inr (.inl (u2))), none, some (.inl (u4))] [rf 13 ((u4).toNatClampNeg), .inr (.inr (c1)), rf 2 (0), .inr (.inl (u2))] σ (.inl (some (.inr (.inl w))), σ') := h
        refine ⟨HS_v21 hs vp3, ?_⟩
        replace h := bk_L (ei_v (as := [rf 13 ((u4).toNatClampNeg), .inr (.inr (c1))]) h rfl rfl rfl) rfl z41_at rfl
        obtain ⟨v4, σ5, r6, f, g, h⟩ := h
        replace hf := Nat.lt_trans g hf
        clear g
        have er6 := ro_run rfl r6
        rw [er6] at h r6
        have p7 := x41 hs r6
        refine ⟨v4, p7, ?_⟩
        replace h : EV F f 40 z40 33 [some (rf 2 (0)), some (.inr (.inr (c1))), some (.inr (.inl (u2))), none, some (.inl (u4))] [.inr (.inl (v4)), .inr (.inl (u2))] σ (.inl (some (.inr (.inl w))), σ') := h
        replace h := ei_m (st' := [.inr (.inl (lmax (u2) (v4)))]) h rfl (Nat.le_of_ble_eq_true rfl) (fun w hw => (Option.some.inj (ev_if_some.mp hw).2).symm)
        obtain ⟨f, g, h⟩ := h
        replace hf := Nat.lt_trans g hf
        clear g
        replace h : EV F f 40 z40 36 [some (rf 2 (0)), some (.inr (.inr (c1))), some (.inr (.inl (u2))), none, some (.inl (u4))] [.inr (.inl (lmax (u2) (v4)))] σ (.inl (some (.inr (.inl w))), σ') := h
        replace h := ei_p h rfl rfl rfl rfl
        obtain ⟨f, g, h⟩ := h
        replace hf := Nat.lt_trans g hf
        clear g
        replace h : EV F f 40 z40 37 [some (rf 2 (0)), some (.inr (.inr (c1))), some (.inr (.inl (lmax (u2) (v4)))), none, some (.inl (u4))] [] σ (.inl (some (.inr (.inl w))), σ') := h
        replace h := ei_p h rfl rfl rfl rfl
        obtain ⟨f, g, h⟩ := h
        replace hf := Nat.lt_trans g hf
        clear g
        replace h : EV F f 40 z40 40 [some (rf 2 (0)), some (.inr (.inr (c1))), some (.inr (.inl (lmax (u2) (v4)))), none, some (.inl ((u4) + Int32.ofInt 1))] [] σ (.inl (some (.inr (.inl w))), σ') := h
        replace h := ei_p h rfl rfl rfl rfl
        obtain ⟨f, g, h⟩ := h
        replace hf := Nat.lt_trans g hf
        clear g
        replace h : EV F f 40 z40 5 [some (rf 2 (0)), some (.inr (.inr (c1))), some (.inr (.inl (lmax (u2) (v4)))), none, some (.inl ((u4) + Int32.ofInt 1))] [] σ (.inl (some (.inr (.inl w))), σ') := h
        exact IH f hf (lmax (u2) (v4)) ((u4) + Int32.ofInt 1) h
def P40 (σ : mS) (x1 : mR) (w : Int64) : Prop := ∃ n, Q40_5 σ (x1) n (Int64.ofNat 0) (Int32.ofInt 0) w
theorem x40 {σ σ' : mS} {x1 : mR} {w : Int64} (hs : HS σ) (h : ev_run sm_all 40 [rf 2 (0), .inr (.inr (x1))] σ (.inl (some (.inr (.inl w)))) σ') : P40 σ x1 w := by
  unfold P40
  obtain ⟨F, f, h⟩ := ei_go h z40_at
  replace h : EV F f 40 z40 0 [some (rf 2 (0)), some (.inr (.inr (x1))), none, none, none] [] σ (.inl (some (.inr (.inl w))), σ') := h
  replace h := ei_p h rfl rfl rfl rfl
  obtain ⟨f, g, h⟩ := h
  clear g
  replace h : EV F f 40 z40 1 [some (rf 2 (0)), some (.inr (.inr (x1))), none, none, none] [.inr (.inl (Int64.ofNat 0))] σ (.inl (some (.inr (.inl w))), σ') := h
  replace h := ei_p h rfl rfl rfl rfl
  obtain ⟨f, g, h⟩ := h
  clear g
  replace h : EV F f 40 z40 2 [some (rf 2 (0)), some (.inr (.inr (x1))), some (.inr (.inl (Int64.ofNat 0))), none, none] [] σ (.inl (some (.inr (.inl w))), σ') := h
  replace h := ei_p h rfl rfl rfl rfl
  obtain ⟨f, g, h⟩ := h
  clear g
  replace h : EV F f 40 z40 3 [some (rf 2 (0)), some (.inr (.inr (x1))), some (.inr (.inl (Int64.ofNat 0))), none, none] [.inl (Int32.ofInt 0)] σ (.inl (some (.inr (.inl w))), σ') := h
  replace h := ei_p h rfl rfl rfl rfl
  obtain ⟨f, g, h⟩ := h
  clear g
  replace h : EV F f 40 z40 5 [some (rf 2 (0)), some (.inr (.inr (x1))), some (.inr (.inl (Int64.ofNat 0))), none, some (.inl (Int32.ofInt 0))] [] σ (.inl (some (.inr (.inl w))), σ') := h
  exact ⟨f + 1, q40_5 hs (f + 1) f (Nat.lt_succ_self f) (Int64.ofNat 0) (Int32.ofInt 0) h⟩
