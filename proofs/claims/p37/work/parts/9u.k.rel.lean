/-! the class's methods as relations: 131 standing, 132 best, 133 shown, 134 band, 135 halt, 136 indicated, 137 open, 138 split, 139 dividend, 140 instrument, 141 trades, 142 trade, 143 breakTrade, 144 position, 145 money, 169 isPercent -/
def z131 : mAl := ((yX11_standing, cX11_standing, 3, (some .int), { frames := 6, cells := 1, slots := 6, locals := 90 }, []), rw_X11_standing, false)
theorem z131_at : m_alF[131]? = some z131 := rfl
abbrev L131 : List (Nat × Nat) := []
abbrev w131 : Nat → Nat → Bool := wl L131
def S131 : List Nat := [3, 98, 131]
theorem W131 : fw_S w131 S131 = true := by decide +kernel
def P131 (σ : mS) (x1 : Int32) (w : mX) (σ' : mS) : Prop := ∃ v1, P3 σ (x1) v1 ∧ ((v1 = none ∧ (w = .inr 0 ∧ σ' = σ)) ∨ (∃ q6, v1 = some q6 ∧ ∃ i9, (some q6 : mR) = some (7, i9) ∧ ∃ v11, P98 σ (i9) v11 ∧ (((v11).toInt = (0 : Int) ∧ w = .inl (some (.inl (((Int32.ofInt 10) * (m_i σ 7 (i9) 6)) + (m_i σ 7 (i9) 9)))) ∧ σ' = σ) ∨ (¬ ((v11).toInt = (0 : Int)) ∧ w = .inl (some (.inl (Int32.ofInt 0))) ∧ σ' = σ))))
theorem x131 {σ σ' : mS} {x1 : Int32} {w : mX} (hs : HS σ) (h : ev_run sm_all 131 [rf 11 (0), .inl (x1)] σ (w) σ') : P131 σ x1 w σ' := by
  unfold P131
  obtain ⟨F, f, h⟩ := ei_go h z131_at
  replace h : EV F f 131 z131 0 [some (rf 11 (0)), some (.inl (x1)), none] [] σ (w, σ') := h
  replace h := ei_p h rfl rfl rfl rfl
  obtain ⟨f, g, h⟩ := h
  clear g
  replace h : EV F f 131 z131 1 [some (rf 11 (0)), some (.inl (x1)), none] [rf 11 (0)] σ (w, σ') := h
  replace h := ei_get h rfl (HS_g11_0 hs)
  obtain ⟨f, g, h⟩ := h
  clear g
  replace h : EV F f 131 z131 4 [some (rf 11 (0)), some (.inl (x1)), none] [rf 4 (0)] σ (w, σ') := h
  replace h := ei_get h rfl (HS_g4_0 hs)
  obtain ⟨f, g, h⟩ := h
  clear g
  replace h : EV F f 131 z131 7 [some (rf 11 (0)), some (.inl (x1)), none] [rf 0 (0)] σ (w, σ') := h
  replace h := ei_p h rfl rfl rfl rfl
  obtain ⟨f, g, h⟩ := h
  clear g
  replace h : EV F f 131 z131 8 [some (rf 11 (0)), some (.inl (x1)), none] [.inl (x1), rf 0 (0)] σ (w, σ') := h
  replace h := bk_R (ei_v (as := [.inl (x1)]) h rfl rfl rfl) rfl z3_at rfl
  obtain ⟨v1, σ2, r3, f, g, h⟩ := h
  clear g
  have er3 := ro_run rfl r3
  rw [er3] at h r3
  have p4 := x3 hs r3
  refine ⟨v1, p4, ?_⟩
  replace h : EV F f 131 z131 11 [some (rf 11 (0)), some (.inl (x1)), none] [.inr (.inr (v1))] σ (w, σ') := h
  replace h := ei_p h rfl rfl rfl rfl
  obtain ⟨f, g, h⟩ := h
  clear g
  replace h : EV F f 131 z131 12 [some (rf 11 (0)), some (.inl (x1)), some (.inr (.inr (v1)))] [] σ (w, σ') := h
  replace h := ei_p h rfl rfl rfl rfl
  obtain ⟨f, g, h⟩ := h
  clear g
  replace h : EV F f 131 z131 13 [some (rf 11 (0)), some (.inl (x1)), some (.inr (.inr (v1)))] [.inr (.inr (v1))] σ (w, σ') := h
  rcases r_cs (v1) with e5 | ⟨q6, e5⟩
  · skip
    rw [e5] at h
    refine Or.inl ⟨e5, ?_⟩
    replace h : EV F f 131 z131 13 [some (rf 11 (0)), some (.inl (x1)), some (.inr (.inr none))] [.inr (.inr none)] σ (w, σ') := h
    replace h := ei_c h rfl rfl rfl
    rcases h with ⟨hp7, f, g, h⟩ | ⟨hp7, f, g, h⟩
    · exact absurd rfl hp7
    · skip
      clear g
      replace h : EV F f 131 z131 16 [some (rf 11 (0)), some (.inl (x1)), some (.inr (.inr none))] [] σ (w, σ') := h
      have e := ei_thr h rfl (by decide)
      cases e
      exact ⟨rfl, rfl⟩
  · skip
    rw [e5] at h
    refine Or.inr ⟨q6, e5, ?_⟩
    replace h : EV F f 131 z131 13 [some (rf 11 (0)), some (.inl (x1)), some (.inr (.inr (some q6)))] [.inr (.inr (some q6))] σ (w, σ') := h
    replace h := ei_c h rfl rfl rfl
    rcases h with ⟨hp8, f, g, h⟩ | ⟨hp8, f, g, h⟩
    · skip
      clear g
      replace h : EV F f 131 z131 26 [some (rf 11 (0)), some (.inl (x1)), some (.inr (.inr (some q6)))] [] σ (w, σ') := h
      replace h := ei_p h rfl rfl rfl rfl
      obtain ⟨f, g, h⟩ := h
      clear g
      replace h : EV F f 131 z131 27 [some (rf 11 (0)), some (.inl (x1)), some (.inr (.inr (some q6)))] [.inr (.inr (some q6))] σ (w, σ') := h
      obtain ⟨i9, e10⟩ := ei_vp (as := []) h rfl rfl
      rw [Option.some.inj e10] at h
      refine ⟨i9, e10, ?_⟩
      replace h : EV F f 131 z131 27 [some (rf 11 (0)), some (.inl (x1)), some (rf 7 (i9))] [rf 7 (i9)] σ (w, σ') := h
      replace h := bk_I (ei_v (as := []) h rfl rfl rfl) rfl z98_at (Or.inr rfl)
      obtain ⟨v11, σ12, r13, f, g, h⟩ := h
      clear g
      have er13 := ro_run rfl r13
      rw [er13] at h r13
      have p14 := x98 hs r13
      refine ⟨v11, p14, ?_⟩
      replace h : EV F f 131 z131 30 [some (rf 11 (0)), some (.inl (x1)), some (rf 7 (i9))] [.inl (v11)] σ (w, σ') := h
      replace h := ei_c h rfl rfl rfl
      rcases h with ⟨hp15, f, g, h⟩ | ⟨hp15, f, g, h⟩
      · skip
        replace hp15 : (v11).toInt = (0 : Int) := ic_eq.mp hp15
        refine Or.inl ⟨hp15, ?_⟩
        clear g
        replace h : EV F f 131 z131 37 [some (rf 11 (0)), some (.inl (x1)), some (rf 7 (i9))] [] σ (w, σ') := h
        replace h := ei_p h rfl rfl rfl rfl
        obtain ⟨f, g, h⟩ := h
        clear g
        replace h : EV F f 131 z131 39 [some (rf 11 (0)), some (.inl (x1)), some (rf 7 (i9))] [.inl (Int32.ofInt 10)] σ (w, σ') := h
        replace h := ei_p h rfl rfl rfl rfl
        obtain ⟨f, g, h⟩ := h
        clear g
        replace h : EV F f 131 z131 40 [some (rf 11 (0)), some (.inl (x1)), some (rf 7 (i9))] [rf 7 (i9), .inl (Int32.ofInt 10)] σ (w, σ') := h
        replace h := ei_get h rfl rfl
        obtain ⟨f, g, h⟩ := h
        clear g
        replace h : EV F f 131 z131 43 [some (rf 11 (0)), some (.inl (x1)), some (rf 7 (i9))] [.inl (m_i σ 7 (i9) 6), .inl (Int32.ofInt 10)] σ (w, σ') := h
        replace h := ei_p h rfl rfl rfl rfl
        obtain ⟨f, g, h⟩ := h
        clear g
        replace h : EV F f 131 z131 44 [some (rf 11 (0)), some (.inl (x1)), some (rf 7 (i9))] [.inl ((Int32.ofInt 10) * (m_i σ 7 (i9) 6))] σ (w, σ') := h
        replace h := ei_p h rfl rfl rfl rfl
        obtain ⟨f, g, h⟩ := h
        clear g
        replace h : EV F f 131 z131 45 [some (rf 11 (0)), some (.inl (x1)), some (rf 7 (i9))] [rf 7 (i9), .inl ((Int32.ofInt 10) * (m_i σ 7 (i9) 6))] σ (w, σ') := h
        replace h := ei_get h rfl rfl
        obtain ⟨f, g, h⟩ := h
        clear g
        replace h : EV F f 131 z131 48 [some (rf 11 (0)), some (.inl (x1)), some (rf 7 (i9))] [.inl (m_i σ 7 (i9) 9), .inl ((Int32.ofInt 10) * (m_i σ 7 (i9) 6))] σ (w, σ') := h
        replace h := ei_p h rfl rfl rfl rfl
        obtain ⟨f, g, h⟩ := h
        clear g
        replace h : EV F f 131 z131 49 [some (rf 11 (0)), some (.inl (x1)), some (rf 7 (i9))] [.inl (((Int32.ofInt 10) * (m_i σ 7 (i9) 6)) + (m_i σ 7 (i9) 9))] σ (w, σ') := h
        have e := ei_iret h rfl
        cases e
        exact ⟨rfl, rfl⟩
      · skip
        replace hp15 : ¬ ((v11).toInt = (0 : Int)) := (not_congr ic_eq).mp hp15
        refine Or.inr ⟨hp15, ?_⟩
        clear g
        replace h : EV F f 131 z131 33 [some (rf 11 (0)), some (.inl (x1)), some (rf 7 (i9))] [] σ (w, σ') := h
        replace h := ei_p h rfl rfl rfl rfl
        obtain ⟨f, g, h⟩ := h
        clear g
        replace h : EV F f 131 z131 34 [some (rf 11 (0)), some (.inl (x1)), some (rf 7 (i9))] [.inl (Int32.ofInt 0)] σ (w, σ') := h
        replace h := ei_p h rfl rfl rfl rfl
        obtain ⟨f, g, h⟩ := h
        clear g
        replace h : EV F f 131 z131 49 [some (rf 11 (0)), some (.inl (x1)), some (rf 7 (i9))] [.inl (Int32.ofInt 0)] σ (w, σ') := h
        have e := ei_iret h rfl
        cases e
        exact ⟨rfl, rfl⟩
    · exact absurd (fun z => by cases z) hp8
def z132 : mAl := ((yX11_best, cX11_best, 4, (some .int), { frames := 7, cells := 2, slots := 12, locals := 110 }, []), rw_X11_best, false)
theorem z132_at : m_alF[132]? = some z132 := rfl
abbrev L132 : List (Nat × Nat) := []
abbrev w132 : Nat → Nat → Bool := wl L132
def S132 : List Nat := [6, 100, 102, 132, 160, 161, 163, 166, 167]
theorem W132 : fw_S w132 S132 = true := by decide +kernel
def P132 (σ : mS) (x1 : Int32) (x2 : Int32) (w : mX) (σ' : mS) : Prop := ∃ v1, P166 σ (x1) v1 ∧ ((∃ σ6, fw_e w160 σ σ6 ∧ P160 σ (v1) (.inl none) σ6 ∧ ∃ v9, P167 σ6 (x2) v9 ∧ ((∃ σ14, fw_e w161 σ6 σ14 ∧ P161 σ6 (v9) (.inl none) σ14 ∧ ∃ v17, P6 σ14 (x1) (x2) v17 ∧ ((v17 = none ∧ w = .inl (some (.inl (Int32.ofInt (-1)))) ∧ σ' = σ14) ∨ (∃ q22, v17 = some q22 ∧ ∃ i25, (some q22 : mR) = some (7, i25) ∧ w = .inl (some (.inl (m_i σ14 7 (i25) 4))) ∧ σ' = σ14))) ∨ (∃ b, P161 σ6 (v9) (.inr b) σ' ∧ w = .inr b))) ∨ (∃ b, P160 σ (v1) (.inr b) σ' ∧ w = .inr b))
theorem x132 {σ σ' : mS} {x1 : Int32} {x2 : Int32} {w : mX} (hs : HS σ) (h : ev_run sm_all 132 [rf 11 (0), .inl (x1), .inl (x2)] σ (w) σ') : P132 σ x1 x2 w σ' := by
  unfold P132
  obtain ⟨F, f, h⟩ := ei_go h z132_at
  replace h : EV F f 132 z132 0 [some (rf 11 (0)), some (.inl (x1)), some (.inl (x2)), none] [] σ (w, σ') := h
  replace h := ei_p h rfl rfl rfl rfl
  obtain ⟨f, g, h⟩ := h
  clear g
  replace h : EV F f 132 z132 1 [some (rf 11 (0)), some (.inl (x1)), some (.inl (x2)), none] [.inl (x1)] σ (w, σ') := h
  replace h := bk_I (ei_s (as := [.inl (x1)]) h rfl (Nat.le_of_ble_eq_true rfl) rfl rfl) rfl z166_at (Or.inr rfl)
  obtain ⟨v1, σ2, r3, f, g, h⟩ := h
  clear g
  have er3 := ro_run rfl r3
  rw [er3] at h r3
  have p4 := x166 hs r3
  refine ⟨v1, p4, ?_⟩
  replace h : EV F f 132 z132 4 [some (rf 11 (0)), some (.inl (x1)), some (.inl (x2)), none] [.inl (v1)] σ (w, σ') := h
  replace h := bx_0 (ei_s (as := [.inl (v1)]) h rfl (Nat.le_of_ble_eq_true rfl) rfl rfl) z160_at rfl
  rcases h with ⟨σ6, r7, f, g, h⟩ | ⟨b, σ6, r7, e⟩
  · skip
    clear g
    have p8 := x160 hs r7
    have hsσ6 : HS σ6 := HS_run rfl r7 hs
    refine Or.inl ⟨σ6, fw_run W160 rfl r7, p8, ?_⟩
    replace h : EV F f 132 z132 7 [some (rf 11 (0)), some (.inl (x1)), some (.inl (x2)), none] [] σ6 (w, σ') := h
    replace h := ei_p h rfl rfl rfl rfl
    obtain ⟨f, g, h⟩ := h
    clear g
    replace h : EV F f 132 z132 8 [some (rf 11 (0)), some (.inl (x1)), some (.inl (x2)), none] [.inl (x2)] σ6 (w, σ') := h
    replace h := bk_I (ei_s (as := [.inl (x2)]) h rfl (Nat.le_of_ble_eq_true rfl) rfl rfl) rfl z167_at (Or.inr rfl)
    obtain ⟨v9, σ10, r11, f, g, h⟩ := h
    clear g
    have er11 := ro_run rfl r11
    rw [er11] at h r11
    have p12 := x167 hsσ6 r11
    refine ⟨v9, p12, ?_⟩
    replace h : EV F f 132 z132 11 [some (rf 11 (0)), some (.inl (x1)), some (.inl (x2)), none] [.inl (v9)] σ6 (w, σ') := h
    replace h := bx_0 (ei_s (as := [.inl (v9)]) h rfl (Nat.le_of_ble_eq_true rfl) rfl rfl) z161_at rfl
    rcases h with ⟨σ14, r15, f, g, h⟩ | ⟨b, σ14, r15, e⟩
    · skip
      clear g
      have p16 := x161 hsσ6 r15
      have hsσ14 : HS σ14 := HS_run rfl r15 hsσ6
      refine Or.inl ⟨σ14, fw_run W161 rfl r15, p16, ?_⟩
      replace h : EV F f 132 z132 14 [some (rf 11 (0)), some (.inl (x1)), some (.inl (x2)), none] [] σ14 (w, σ') := h
      replace h := ei_p h rfl rfl rfl rfl
      obtain ⟨f, g, h⟩ := h
      clear g
      replace h : EV F f 132 z132 15 [some (rf 11 (0)), some (.inl (x1)), some (.inl (x2)), none] [rf 11 (0)] σ14 (w, σ') := h
      replace h := ei_get h rfl (HS_g11_0 hsσ14)
      obtain ⟨f, g, h⟩ := h
      clear g
      replace h : EV F f 132 z132 18 [some (rf 11 (0)), some (.inl (x1)), some (.inl (x2)), none] [rf 4 (0)] σ14 (w, σ') := h
      replace h := ei_get h rfl (HS_g4_0 hsσ14)
      obtain ⟨f, g, h⟩ := h
      clear g
      replace h : EV F f 132 z132 21 [some (rf 11 (0)), some (.inl (x1)), some (.inl (x2)), none] [rf 0 (0)] σ14 (w, σ') := h
      replace h := ei_p h rfl rfl rfl rfl
      obtain ⟨f, g, h⟩ := h
      clear g
      replace h : EV F f 132 z132 22 [some (rf 11 (0)), some (.inl (x1)), some (.inl (x2)), none] [.inl (x1), rf 0 (0)] σ14 (w, σ') := h
      replace h := ei_p h rfl rfl rfl rfl
      obtain ⟨f, g, h⟩ := h
      clear g
      replace h : EV F f 132 z132 23 [some (rf 11 (0)), some (.inl (x1)), some (.inl (x2)), none] [.inl (x2), .inl (x1), rf 0 (0)] σ14 (w, σ') := h
      replace h := bk_R (ei_v (as := [.inl (x2), .inl (x1)]) h rfl rfl rfl) rfl z6_at rfl
      obtain ⟨v17, σ18, r19, f, g, h⟩ := h
      clear g
      have er19 := ro_run rfl r19
      rw [er19] at h r19
      have p20 := x6 hsσ14 r19
      refine ⟨v17, p20, ?_⟩
      replace h : EV F f 132 z132 26 [some (rf 11 (0)), some (.inl (x1)), some (.inl (x2)), none] [.inr (.inr (v17))] σ14 (w, σ') := h
      replace h := ei_p h rfl rfl rfl rfl
      obtain ⟨f, g, h⟩ := h
      clear g
      replace h : EV F f 132 z132 27 [some (rf 11 (0)), some (.inl (x1)), some (.inl (x2)), some (.inr (.inr (v17)))] [] σ14 (w, σ') := h
      replace h := ei_p h rfl rfl rfl rfl
      obtain ⟨f, g, h⟩ := h
      clear g
      replace h : EV F f 132 z132 28 [some (rf 11 (0)), some (.inl (x1)), some (.inl (x2)), some (.inr (.inr (v17)))] [.inr (.inr (v17))] σ14 (w, σ') := h
      rcases r_cs (v17) with e21 | ⟨q22, e21⟩
      · skip
        rw [e21] at h
        refine Or.inl ⟨e21, ?_⟩
        replace h : EV F f 132 z132 28 [some (rf 11 (0)), some (.inl (x1)), some (.inl (x2)), some (.inr (.inr none))] [.inr (.inr none)] σ14 (w, σ') := h
        replace h := ei_c h rfl rfl rfl
        rcases h with ⟨hp23, f, g, h⟩ | ⟨hp23, f, g, h⟩
        · exact absurd rfl hp23
        · skip
          clear g
          replace h : EV F f 132 z132 31 [some (rf 11 (0)), some (.inl (x1)), some (.inl (x2)), some (.inr (.inr none))] [] σ14 (w, σ') := h
          replace h := ei_p h rfl rfl rfl rfl
          obtain ⟨f, g, h⟩ := h
          clear g
          replace h : EV F f 132 z132 32 [some (rf 11 (0)), some (.inl (x1)), some (.inl (x2)), some (.inr (.inr none))] [.inl (Int32.ofInt (-1))] σ14 (w, σ') := h
          replace h := ei_p h rfl rfl rfl rfl
          obtain ⟨f, g, h⟩ := h
          clear g
          replace h : EV F f 132 z132 39 [some (rf 11 (0)), some (.inl (x1)), some (.inl (x2)), some (.inr (.inr none))] [.inl (Int32.ofInt (-1))] σ14 (w, σ') := h
          have e := ei_iret h rfl
          cases e
          exact ⟨rfl, rfl⟩
      · skip
        rw [e21] at h
        refine Or.inr ⟨q22, e21, ?_⟩
        replace h : EV F f 132 z132 28 [some (rf 11 (0)), some (.inl (x1)), some (.inl (x2)), some (.inr (.inr (some q22)))] [.inr (.inr (some q22))] σ14 (w, σ') := h
        replace h := ei_c h rfl rfl rfl
        rcases h with ⟨hp24, f, g, h⟩ | ⟨hp24, f, g, h⟩
        · skip
          clear g
          replace h : EV F f 132 z132 35 [some (rf 11 (0)), some (.inl (x1)), some (.inl (x2)), some (.inr (.inr (some q22)))] [] σ14 (w, σ') := h
          replace h := ei_p h rfl rfl rfl rfl
          obtain ⟨f, g, h⟩ := h
          clear g
          replace h : EV F f 132 z132 36 [some (rf 11 (0)), some (.inl (x1)), some (.inl (x2)), some (.inr (.inr (some q22)))] [.inr (.inr (some q22))] σ14 (w, σ') := h
          obtain ⟨i25, e26⟩ := ei_gp h rfl
          rw [Option.some.inj e26] at h
          refine ⟨i25, e26, ?_⟩
          replace h : EV F f 132 z132 36 [some (rf 11 (0)), some (.inl (x1)), some (.inl (x2)), some (rf 7 (i25))] [rf 7 (i25)] σ14 (w, σ') := h
          replace h := ei_get h rfl rfl
          obtain ⟨f, g, h⟩ := h
          clear g
          replace h : EV F f 132 z132 39 [some (rf 11 (0)), some (.inl (x1)), some (.inl (x2)), some (rf 7 (i25))] [.inl (m_i σ14 7 (i25) 4)] σ14 (w, σ') := h
          have e := ei_iret h rfl
          cases e
          exact ⟨rfl, rfl⟩
        · exact absurd (fun z => by cases z) hp24
    · skip
      have p16 := x161 hsσ6 r15
      cases e
      exact Or.inr ⟨b, p16, rfl⟩
  · skip
    have p8 := x160 hs r7
    cases e
    exact Or.inr ⟨b, p8, rfl⟩
def z133 : mAl := ((yX11_shown, cX11_shown, 4, (some .int), { frames := 7, cells := 2, slots := 12, locals := 110 }, []), rw_X11_shown, false)
theorem z133_at : m_alF[133]? = some z133 := rfl
abbrev L133 : List (Nat × Nat) := []
abbrev w133 : Nat → Nat → Bool := wl L133
def S133 : List Nat := [7, 100, 133, 160, 161, 163, 166, 167, 168]
theorem W133 : fw_S w133 S133 = true := by decide +kernel
def J133_26 (u1 : Int32) (u2 : Int32) (u3 : Int32) (t0 : Int32) (τ : mS) (w : mX) (σ' : mS) : Prop := ((∃ σ2, fw_e w161 τ σ2 ∧ P161 τ (t0) (.inl none) σ2 ∧ ∃ v5, P7 σ2 (u1) (u2) (u3) v5 ∧ w = .inl (some (.inl (v5))) ∧ σ' = σ2) ∨ (∃ b, P161 τ (t0) (.inr b) σ' ∧ w = .inr b))
theorem j133_26 {F f : Nat} {σ' τ : mS} {u1 : Int32} {u2 : Int32} {u3 : Int32} {t0 : Int32} {w : mX} (hsτ : HS τ) (h : EV F f 133 z133 26 [some (rf 11 (0)), some (.inl (u1)), some (.inl (u2)), some (.inl (u3))] [.inl (t0)] τ (w, σ')) : J133_26 u1 u2 u3 t0 τ w σ' := by
  unfold J133_26
  replace h := bx_0 (ei_s (as := [.inl (t0)]) h rfl (Nat.le_of_ble_eq_true rfl) rfl rfl) z161_at rfl
  rcases h with ⟨σ2, r3, f, g, h⟩ | ⟨b, σ2, r3, e⟩
  · skip
    clear g
    have p4 := x161 hsτ r3
    have hsσ2 : HS σ2 := HS_run rfl r3 hsτ
    refine Or.inl ⟨σ2, fw_run W161 rfl r3, p4, ?_⟩
    replace h : EV F f 133 z133 29 [some (rf 11 (0)), some (.inl (u1)), some (.inl (u2)), some (.inl (u3))] [] σ2 (w, σ') := h
    replace h := ei_p h rfl rfl rfl rfl
    obtain ⟨f, g, h⟩ := h
    clear g
    replace h : EV F f 133 z133 30 [some (rf 11 (0)), some (.inl (u1)), some (.inl (u2)), some (.inl (u3))] [rf 11 (0)] σ2 (w, σ') := h
    replace h := ei_get h rfl (HS_g11_0 hsσ2)
    obtain ⟨f, g, h⟩ := h
    clear g
    replace h : EV F f 133 z133 33 [some (rf 11 (0)), some (.inl (u1)), some (.inl (u2)), some (.inl (u3))] [rf 4 (0)] σ2 (w, σ') := h
    replace h := ei_get h rfl (HS_g4_0 hsσ2)
    obtain ⟨f, g, h⟩ := h
    clear g
    replace h : EV F f 133 z133 36 [some (rf 11 (0)), some (.inl (u1)), some (.inl (u2)), some (.inl (u3))] [rf 0 (0)] σ2 (w, σ') := h
    replace h := ei_p h rfl rfl rfl rfl
    obtain ⟨f, g, h⟩ := h
    clear g
    replace h : EV F f 133 z133 37 [some (rf 11 (0)), some (.inl (u1)), some (.inl (u2)), some (.inl (u3))] [.inl (u1), rf 0 (0)] σ2 (w, σ') := h
    replace h := ei_p h rfl rfl rfl rfl
    obtain ⟨f, g, h⟩ := h
    clear g
    replace h : EV F f 133 z133 38 [some (rf 11 (0)), some (.inl (u1)), some (.inl (u2)), some (.inl (u3))] [.inl (u2), .inl (u1), rf 0 (0)] σ2 (w, σ') := h
    replace h := ei_p h rfl rfl rfl rfl
    obtain ⟨f, g, h⟩ := h
    clear g
    replace h : EV F f 133 z133 39 [some (rf 11 (0)), some (.inl (u1)), some (.inl (u2)), some (.inl (u3))] [.inl (u3), .inl (u2), .inl (u1), rf 0 (0)] σ2 (w, σ') := h
    replace h := bk_I (ei_v (as := [.inl (u3), .inl (u2), .inl (u1)]) h rfl rfl rfl) rfl z7_at (Or.inl rfl)
    obtain ⟨v5, σ6, r7, f, g, h⟩ := h
    clear g
    have er7 := ro_run rfl r7
    rw [er7] at h r7
    have p8 := x7 hsσ2 r7
    refine ⟨v5, p8, ?_⟩
    replace h : EV F f 133 z133 42 [some (rf 11 (0)), some (.inl (u1)), some (.inl (u2)), some (.inl (u3))] [.inl (v5)] σ2 (w, σ') := h
    have e := ei_iret h rfl
    cases e
    exact ⟨rfl, rfl⟩
  · skip
    have p4 := x161 hsτ r3
    cases e
    exact Or.inr ⟨b, p4, rfl⟩
def J133_25 (u1 : Int32) (u2 : Int32) (u3 : Int32) (τ : mS) (w : mX) (σ' : mS) : Prop := J133_26 (u1) (u2) (u3) (Int32.ofInt 0) τ w σ'
theorem j133_25 {F f : Nat} {σ' τ : mS} {u1 : Int32} {u2 : Int32} {u3 : Int32} {w : mX} (hsτ : HS τ) (h : EV F f 133 z133 25 [some (rf 11 (0)), some (.inl (u1)), some (.inl (u2)), some (.inl (u3))] [] τ (w, σ')) : J133_25 u1 u2 u3 τ w σ' := by
  unfold J133_25
  replace h := ei_p h rfl rfl rfl rfl
  obtain ⟨f, g, h⟩ := h
  clear g
  replace h : EV F f 133 z133 26 [some (rf 11 (0)), some (.inl (u1)), some (.inl (u2)), some (.inl (u3))] [.inl (Int32.ofInt 0)] τ (w, σ') := h
  exact j133_26 hsτ h
def P133 (σ : mS) (x1 : Int32) (x2 : Int32) (x3 : Int32) (w : mX) (σ' : mS) : Prop := ∃ v1, P166 σ (x1) v1 ∧ ((∃ σ6, fw_e w160 σ σ6 ∧ P160 σ (v1) (.inl none) σ6 ∧ ∃ v9, P167 σ6 (x2) v9 ∧ (((v9).toInt = (0 : Int) ∧ J133_25 (x1) (x2) (x3) σ6 w σ') ∨ (¬ ((v9).toInt = (0 : Int)) ∧ ∃ v14, P168 σ6 (x3) v14 ∧ (((v14).toInt = (0 : Int) ∧ J133_25 (x1) (x2) (x3) σ6 w σ') ∨ (¬ ((v14).toInt = (0 : Int)) ∧ J133_26 (x1) (x2) (x3) (Int32.ofInt 1) σ6 w σ'))))) ∨ (∃ b, P160 σ (v1) (.inr b) σ' ∧ w = .inr b))
theorem x133 {σ σ' : mS} {x1 : Int32} {x2 : Int32} {x3 : Int32} {w : mX} (hs : HS σ) (h : ev_run sm_all 133 [rf 11 (0), .inl (x1), .inl (x2), .inl (x3)] σ (w) σ') : P133 σ x1 x2 x3 w σ' := by
  unfold P133
  obtain ⟨F, f, h⟩ := ei_go h z133_at
  replace h : EV F f 133 z133 0 [some (rf 11 (0)), some (.inl (x1)), some (.inl (x2)), some (.inl (x3))] [] σ (w, σ') := h
  replace h := ei_p h rfl rfl rfl rfl
  obtain ⟨f, g, h⟩ := h
  clear g
  replace h : EV F f 133 z133 1 [some (rf 11 (0)), some (.inl (x1)), some (.inl (x2)), some (.inl (x3))] [.inl (x1)] σ (w, σ') := h
  replace h := bk_I (ei_s (as := [.inl (x1)]) h rfl (Nat.le_of_ble_eq_true rfl) rfl rfl) rfl z166_at (Or.inr rfl)
  obtain ⟨v1, σ2, r3, f, g, h⟩ := h
  clear g
  have er3 := ro_run rfl r3
  rw [er3] at h r3
  have p4 := x166 hs r3
  refine ⟨v1, p4, ?_⟩
  replace h : EV F f 133 z133 4 [some (rf 11 (0)), some (.inl (x1)), some (.inl (x2)), some (.inl (x3))] [.inl (v1)] σ (w, σ') := h
  replace h := bx_0 (ei_s (as := [.inl (v1)]) h rfl (Nat.le_of_ble_eq_true rfl) rfl rfl) z160_at rfl
  rcases h with ⟨σ6, r7, f, g, h⟩ | ⟨b, σ6, r7, e⟩
  · skip
    clear g
    have p8 := x160 hs r7
    have hsσ6 : HS σ6 := HS_run rfl r7 hs
    refine Or.inl ⟨σ6, fw_run W160 rfl r7, p8, ?_⟩
    replace h : EV F f 133 z133 7 [some (rf 11 (0)), some (.inl (x1)), some (.inl (x2)), some (.inl (x3))] [] σ6 (w, σ') := h
    replace h := ei_p h rfl rfl rfl rfl
    obtain ⟨f, g, h⟩ := h
    clear g
    replace h : EV F f 133 z133 8 [some (rf 11 (0)), some (.inl (x1)), some (.inl (x2)), some (.inl (x3))] [.inl (x2)] σ6 (w, σ') := h
    replace h := bk_I (ei_s (as := [.inl (x2)]) h rfl (Nat.le_of_ble_eq_true rfl) rfl rfl) rfl z167_at (Or.inr rfl)
    obtain ⟨v9, σ10, r11, f, g, h⟩ := h
    clear g
    have er11 := ro_run rfl r11
    rw [er11] at h r11
    have p12 := x167 hsσ6 r11
    refine ⟨v9, p12, ?_⟩
    replace h : EV F f 133 z133 11 [some (rf 11 (0)), some (.inl (x1)), some (.inl (x2)), some (.inl (x3))] [.inl (v9)] σ6 (w, σ') := h
    replace h := ei_c h rfl rfl rfl
    rcases h with ⟨hp13, f, g, h⟩ | ⟨hp13, f, g, h⟩
    · skip
      replace hp13 : (v9).toInt = (0 : Int) := ic_eq.mp hp13
      refine Or.inl ⟨hp13, ?_⟩
      clear g
      replace h : EV F f 133 z133 25 [some (rf 11 (0)), some (.inl (x1)), some (.inl (x2)), some (.inl (x3))] [] σ6 (w, σ') := h
      exact j133_25 hsσ6 h
    · skip
      replace hp13 : ¬ ((v9).toInt = (0 : Int)) := (not_congr ic_eq).mp hp13
      refine Or.inr ⟨hp13, ?_⟩
      clear g
      replace h : EV F f 133 z133 14 [some (rf 11 (0)), some (.inl (x1)), some (.inl (x2)), some (.inl (x3))] [] σ6 (w, σ') := h
      replace h := ei_p h rfl rfl rfl rfl
      obtain ⟨f, g, h⟩ := h
      clear g
      replace h : EV F f 133 z133 15 [some (rf 11 (0)), some (.inl (x1)), some (.inl (x2)), some (.inl (x3))] [.inl (x3)] σ6 (w, σ') := h
      replace h := bk_I (ei_s (as := [.inl (x3)]) h rfl (Nat.le_of_ble_eq_true rfl) rfl rfl) rfl z168_at (Or.inr rfl)
      obtain ⟨v14, σ15, r16, f, g, h⟩ := h
      clear g
      have er16 := ro_run rfl r16
      rw [er16] at h r16
      have p17 := x168 hsσ6 r16
      refine ⟨v14, p17, ?_⟩
      replace h : EV F f 133 z133 18 [some (rf 11 (0)), some (.inl (x1)), some (.inl (x2)), some (.inl (x3))] [.inl (v14)] σ6 (w, σ') := h
      replace h := ei_c h rfl rfl rfl
      rcases h with ⟨hp18, f, g, h⟩ | ⟨hp18, f, g, h⟩
      · skip
        replace hp18 : (v14).toInt = (0 : Int) := ic_eq.mp hp18
        refine Or.inl ⟨hp18, ?_⟩
        clear g
        replace h : EV F f 133 z133 25 [some (rf 11 (0)), some (.inl (x1)), some (.inl (x2)), some (.inl (x3))] [] σ6 (w, σ') := h
        exact j133_25 hsσ6 h
      · skip
        replace hp18 : ¬ ((v14).toInt = (0 : Int)) := (not_congr ic_eq).mp hp18
        refine Or.inr ⟨hp18, ?_⟩
        clear g
        replace h : EV F f 133 z133 21 [some (rf 11 (0)), some (.inl (x1)), some (.inl (x2)), some (.inl (x3))] [] σ6 (w, σ') := h
        replace h := ei_p h rfl rfl rfl rfl
        obtain ⟨f, g, h⟩ := h
        clear g
        replace h : EV F f 133 z133 22 [some (rf 11 (0)), some (.inl (x1)), some (.inl (x2)), some (.inl (x3))] [.inl (Int32.ofInt 1)] σ6 (w, σ') := h
        replace h := ei_p h rfl rfl rfl rfl
        obtain ⟨f, g, h⟩ := h
        clear g
        replace h : EV F f 133 z133 26 [some (rf 11 (0)), some (.inl (x1)), some (.inl (x2)), some (.inl (x3))] [.inl (Int32.ofInt 1)] σ6 (w, σ') := h
        exact j133_26 hsσ6 h
  · skip
    have p8 := x160 hs r7
    cases e
    exact Or.inr ⟨b, p8, rfl⟩
def z134 : mAl := ((yX11_band, cX11_band, 4, (some .int), { frames := 7, cells := 3, slots := 21, locals := 190 }, []), rw_X11_band, false)
theorem z134_at : m_alF[134]? = some z134 := rfl
abbrev L134 : List (Nat × Nat) := [(0, 1), (0, 2), (1, 0), (1, 1), (1, 2), (1, 3), (1, 4), (1, 5), (1, 6), (1, 7), (1, 8), (1, 9), (1, 10), (1, 11), (1, 12), (1, 13), (1, 14), (1, 15), (2, 5), (2, 6), (2, 7), (2, 8), (2, 9), (2, 10), (3, 3), (3, 4), (3, 5), (5, 2), (6, 2), (6, 3), (6, 4), (6, 5), (6, 6), (6, 7), (6, 8), (6, 9), (6, 10), (7, 1), (7, 2), (7, 3), (7, 4), (7, 5), (7, 6), (7, 7), (7, 8), (7, 9), (7, 10), (7, 11), (7, 12), (8, 1), (8, 2), (8, 3), (8, 4), (8, 5), (8, 6), (8, 7), (8, 8), (10, 0), (10, 1), (10, 2), (10, 3), (10, 4), (10, 5), (10, 6), (10, 7), (10, 8), (10, 9), (11, 3), (11, 4), (11, 5), (13, 0), (14, 0)]
abbrev w134 : Nat → Nat → Bool := wl L134
def S134 : List Nat := [3, 4, 5, 6, 8, 9, 10, 11, 12, 13, 14, 15, 16, 18, 22, 23, 24, 25, 27, 28, 29, 30, 31, 32, 34, 35, 36, 37, 38, 39, 40, 41, 42, 43, 44, 45, 46, 47, 48, 51, 53, 54, 61, 62, 63, 64, 65, 66, 67, 68, 69, 70, 71, 72, 73, 74, 75, 76, 78, 79, 80, 81, 82, 83, 85, 86, 90, 91, 92, 95, 99, 100, 102, 103, 104, 105, 106, 107, 112, 113, 114, 115, 116, 117, 134, 158, 159, 160, 161, 163, 166, 190]
theorem W134 : fw_S w134 S134 = true := by decide +kernel
def P134 (σ : mS) (x1 : Int32) (x2 : Int32) (w : mX) (σ' : mS) : Prop := ∃ v1, P166 σ (x1) v1 ∧ ((∃ σ6, fw_e w160 σ σ6 ∧ P160 σ (v1) (.inl none) σ6 ∧ ∃ v9, P163 σ6 (x2) (Int32.ofInt 0) (Int32.ofInt 50) v9 ∧ ((∃ σ14, fw_e w161 σ6 σ14 ∧ P161 σ6 (v9) (.inl none) σ14 ∧ ∃ σ17, σ17 = m_nu σ14 1 0 ∧ ∃ σ20, fw_e w18 σ17 σ20 ∧ P18 σ17 (σ14.1 1) (Int32.ofInt 7) (x1) (x2) (Int32.ofInt 0) σ20 ∧ ∃ v23 σ24, fw_e w61 σ20 σ24 ∧ P61 σ20 (some (1, σ14.1 1)) v23 σ24 ∧ ∃ v27 σ28, fw_e w158 σ24 σ28 ∧ P158 σ24 (some (1, σ14.1 1)) (v23) v27 σ28 ∧ w = .inl (some (.inl ((v27).toInt32))) ∧ σ' = σ28) ∨ (∃ b, P161 σ6 (v9) (.inr b) σ' ∧ w = .inr b))) ∨ (∃ b, P160 σ (v1) (.inr b) σ' ∧ w = .inr b))
theorem x134 {σ σ' : mS} {x1 : Int32} {x2 : Int32} {w : mX} (hs : HS σ) (h : ev_run sm_all 134 [rf 11 (0), .inl (x1), .inl (x2)] σ (w) σ') : P134 σ x1 x2 w σ' := by
  unfold P134
  obtain ⟨F, f, h⟩ := ei_go h z134_at
  replace h : EV F f 134 z134 0 [some (rf 11 (0)), some (.inl (x1)), some (.inl (x2)), none] [] σ (w, σ') := h
  replace h := ei_p h rfl rfl rfl rfl
  obtain ⟨f, g, h⟩ := h
  clear g
  replace h : EV F f 134 z134 1 [some (rf 11 (0)), some (.inl (x1)), some (.inl (x2)), none] [.inl (x1)] σ (w, σ') := h
  replace h := bk_I (ei_s (as := [.inl (x1)]) h rfl (Nat.le_of_ble_eq_true rfl) rfl rfl) rfl z166_at (Or.inr rfl)
  obtain ⟨v1, σ2, r3, f, g, h⟩ := h
  clear g
  have er3 := ro_run rfl r3
  rw [er3] at h r3
  have p4 := x166 hs r3
  refine ⟨v1, p4, ?_⟩
  replace h : EV F f 134 z134 4 [some (rf 11 (0)), some (.inl (x1)), some (.inl (x2)), none] [.inl (v1)] σ (w, σ') := h
  replace h := bx_0 (ei_s (as := [.inl (v1)]) h rfl (Nat.le_of_ble_eq_true rfl) rfl rfl) z160_at rfl
  rcases h with ⟨σ6, r7, f, g, h⟩ | ⟨b, σ6, r7, e⟩
  · skip
    clear g
    have p8 := x160 hs r7
    have hsσ6 : HS σ6 := HS_run rfl r7 hs
    refine Or.inl ⟨σ6, fw_run W160 rfl r7, p8, ?_⟩
    replace h : EV F f 134 z134 7 [some (rf 11 (0)), some (.inl (x1)), some (.inl (x2)), none] [] σ6 (w, σ') := h
    replace h := ei_p h rfl rfl rfl rfl
    obtain ⟨f, g, h⟩ := h
    clear g
    replace h : EV F f 134 z134 8 [some (rf 11 (0)), some (.inl (x1)), some (.inl (x2)), none] [.inl (x2)] σ6 (w, σ') := h
    replace h := ei_p h rfl rfl rfl rfl
    obtain ⟨f, g, h⟩ := h
    clear g
    replace h : EV F f 134 z134 9 [some (rf 11 (0)), some (.inl (x1)), some (.inl (x2)), none] [.inl (Int32.ofInt 0), .inl (x2)] σ6 (w, σ') := h
    replace h := ei_p h rfl rfl rfl rfl
    obtain ⟨f, g, h⟩ := h
    clear g
    replace h : EV F f 134 z134 11 [some (rf 11 (0)), some (.inl (x1)), some (.inl (x2)), none] [.inl (Int32.ofInt 50), .inl (Int32.ofInt 0), .inl (x2)] σ6 (w, σ') := h
    replace h := bk_I (ei_s (as := [.inl (Int32.ofInt 50), .inl (Int32.ofInt 0), .inl (x2)]) h rfl (Nat.le_of_ble_eq_true rfl) rfl rfl) rfl z163_at (Or.inr rfl)
    obtain ⟨v9, σ10, r11, f, g, h⟩ := h
    clear g
    have er11 := ro_run rfl r11
    rw [er11] at h r11
    have p12 := x163 hsσ6 r11
    refine ⟨v9, p12, ?_⟩
    replace h : EV F f 134 z134 14 [some (rf 11 (0)), some (.inl (x1)), some (.inl (x2)), none] [.inl (v9)] σ6 (w, σ') := h
    replace h := bx_0 (ei_s (as := [.inl (v9)]) h rfl (Nat.le_of_ble_eq_true rfl) rfl rfl) z161_at rfl
    rcases h with ⟨σ14, r15, f, g, h⟩ | ⟨b, σ14, r15, e⟩
    · skip
      clear g
      have p16 := x161 hsσ6 r15
      have hsσ14 : HS σ14 := HS_run rfl r15 hsσ6
      refine Or.inl ⟨σ14, fw_run W161 rfl r15, p16, ?_⟩
      replace h : EV F f 134 z134 17 [some (rf 11 (0)), some (.inl (x1)), some (.inl (x2)), none] [] σ14 (w, σ') := h
      replace h := ei_new h rfl (by decide)
      obtain ⟨f, g, h⟩ := h
      clear g
      obtain ⟨σ17, e18⟩ : ∃ s, s = m_nu σ14 1 0 := ⟨_, rfl⟩
      rw [← e18] at h
      have hsσ17 : HS σ17 := by rw [e18]; exact HS_nu hsσ14 (by decide)
      refine ⟨σ17, e18, ?_⟩
      replace h : EV F f 134 z134 20 [some (rf 11 (0)), some (.inl (x1)), some (.inl (x2)), none] [rf 1 (σ14.1 1)] σ17 (w, σ') := h
      replace h := ei_p h rfl rfl rfl rfl
      obtain ⟨f, g, h⟩ := h
      clear g
      replace h : EV F f 134 z134 21 [some (rf 11 (0)), some (.inl (x1)), some (.inl (x2)), none] [rf 1 (σ14.1 1), rf 1 (σ14.1 1)] σ17 (w, σ') := h
      replace h := ei_p h rfl rfl rfl rfl
      obtain ⟨f, g, h⟩ := h
      clear g
      replace h : EV F f 134 z134 23 [some (rf 11 (0)), some (.inl (x1)), some (.inl (x2)), none] [.inl (Int32.ofInt 7), rf 1 (σ14.1 1), rf 1 (σ14.1 1)] σ17 (w, σ') := h
      replace h := ei_p h rfl rfl rfl rfl
      obtain ⟨f, g, h⟩ := h
      clear g
      replace h : EV F f 134 z134 24 [some (rf 11 (0)), some (.inl (x1)), some (.inl (x2)), none] [.inl (x1), .inl (Int32.ofInt 7), rf 1 (σ14.1 1), rf 1 (σ14.1 1)] σ17 (w, σ') := h
      replace h := ei_p h rfl rfl rfl rfl
      obtain ⟨f, g, h⟩ := h
      clear g
      replace h : EV F f 134 z134 25 [some (rf 11 (0)), some (.inl (x1)), some (.inl (x2)), none] [.inl (x2), .inl (x1), .inl (Int32.ofInt 7), rf 1 (σ14.1 1), rf 1 (σ14.1 1)] σ17 (w, σ') := h
      replace h := ei_p h rfl rfl rfl rfl
      obtain ⟨f, g, h⟩ := h
      clear g
      replace h : EV F f 134 z134 26 [some (rf 11 (0)), some (.inl (x1)), some (.inl (x2)), none] [.inl (Int32.ofInt 0), .inl (x2), .inl (x1), .inl (Int32.ofInt 7), rf 1 (σ14.1 1), rf 1 (σ14.1 1)] σ17 (w, σ') := h
      replace h := bk_0 (ei_x (as := [.inl (Int32.ofInt 0), .inl (x2), .inl (x1), .inl (Int32.ofInt 7)]) h rfl rfl rfl) rfl z18_at rfl
      obtain ⟨σ20, r21, f, g, h⟩ := h
      clear g
      have p22 := x18 hsσ17 r21
      have hsσ20 : HS σ20 := HS_run rfl r21 hsσ17
      refine ⟨σ20, fw_run W18 rfl r21, p22, ?_⟩
      replace h : EV F f 134 z134 29 [some (rf 11 (0)), some (.inl (x1)), some (.inl (x2)), none] [rf 1 (σ14.1 1)] σ20 (w, σ') := h
      replace h := ei_p h rfl rfl rfl rfl
      obtain ⟨f, g, h⟩ := h
      clear g
      replace h : EV F f 134 z134 30 [some (rf 11 (0)), some (.inl (x1)), some (.inl (x2)), some (rf 1 (σ14.1 1))] [] σ20 (w, σ') := h
      replace h := ei_p h rfl rfl rfl rfl
      obtain ⟨f, g, h⟩ := h
      clear g
      replace h : EV F f 134 z134 31 [some (rf 11 (0)), some (.inl (x1)), some (.inl (x2)), some (rf 1 (σ14.1 1))] [rf 11 (0)] σ20 (w, σ') := h
      replace h := ei_p h rfl rfl rfl rfl
      obtain ⟨f, g, h⟩ := h
      clear g
      replace h : EV F f 134 z134 32 [some (rf 11 (0)), some (.inl (x1)), some (.inl (x2)), some (rf 1 (σ14.1 1))] [rf 1 (σ14.1 1), rf 11 (0)] σ20 (w, σ') := h
      replace h := ei_p h rfl rfl rfl rfl
      obtain ⟨f, g, h⟩ := h
      clear g
      replace h : EV F f 134 z134 33 [some (rf 11 (0)), some (.inl (x1)), some (.inl (x2)), some (rf 1 (σ14.1 1))] [rf 11 (0), rf 1 (σ14.1 1), rf 11 (0)] σ20 (w, σ') := h
      replace h := ei_get h rfl (HS_g11_0 hsσ20)
      obtain ⟨f, g, h⟩ := h
      clear g
      replace h : EV F f 134 z134 36 [some (rf 11 (0)), some (.inl (x1)), some (.inl (x2)), some (rf 1 (σ14.1 1))] [rf 4 (0), rf 1 (σ14.1 1), rf 11 (0)] σ20 (w, σ') := h
      replace h := ei_p h rfl rfl rfl rfl
      obtain ⟨f, g, h⟩ := h
      clear g
      replace h : EV F f 134 z134 37 [some (rf 11 (0)), some (.inl (x1)), some (.inl (x2)), some (rf 1 (σ14.1 1))] [rf 1 (σ14.1 1), rf 4 (0), rf 1 (σ14.1 1), rf 11 (0)] σ20 (w, σ') := h
      replace h := bk_L (ei_v (as := [rf 1 (σ14.1 1)]) h rfl rfl rfl) rfl z61_at rfl
      obtain ⟨v23, σ24, r25, f, g, h⟩ := h
      clear g
      have p26 := x61 hsσ20 r25
      have hsσ24 : HS σ24 := HS_run rfl r25 hsσ20
      refine ⟨v23, σ24, fw_run W61 rfl r25, p26, ?_⟩
      replace h : EV F f 134 z134 40 [some (rf 11 (0)), some (.inl (x1)), some (.inl (x2)), some (rf 1 (σ14.1 1))] [.inr (.inl (v23)), rf 1 (σ14.1 1), rf 11 (0)] σ24 (w, σ') := h
      replace h := bk_L (ei_v (as := [.inr (.inl (v23)), rf 1 (σ14.1 1)]) h rfl rfl rfl) rfl z158_at rfl
      obtain ⟨v27, σ28, r29, f, g, h⟩ := h
      clear g
      have p30 := x158 hsσ24 r29
      have hsσ28 : HS σ28 := HS_run rfl r29 hsσ24
      refine ⟨v27, σ28, fw_run W158 rfl r29, p30, ?_⟩
      replace h : EV F f 134 z134 43 [some (rf 11 (0)), some (.inl (x1)), some (.inl (x2)), some (rf 1 (σ14.1 1))] [.inr (.inl (v27))] σ28 (w, σ') := h
      replace h := ei_p h rfl rfl rfl rfl
      obtain ⟨f, g, h⟩ := h
      clear g
      replace h : EV F f 134 z134 44 [some (rf 11 (0)), some (.inl (x1)), some (.inl (x2)), some (rf 1 (σ14.1 1))] [.inl ((v27).toInt32)] σ28 (w, σ') := h
      have e := ei_iret h rfl
      cases e
      exact ⟨rfl, rfl⟩
    · skip
      have p16 := x161 hsσ6 r15
      cases e
      exact Or.inr ⟨b, p16, rfl⟩
  · skip
    have p8 := x160 hs r7
    cases e
    exact Or.inr ⟨b, p8, rfl⟩
def z135 : mAl := ((yX11_halt, cX11_halt, 3, none, { frames := 7, cells := 3, slots := 21, locals := 190 }, []), rw_X11_halt, false)
theorem z135_at : m_alF[135]? = some z135 := rfl
abbrev L135 : List (Nat × Nat) := [(0, 1), (0, 2), (1, 0), (1, 1), (1, 2), (1, 3), (1, 4), (1, 5), (1, 6), (1, 7), (1, 8), (1, 9), (1, 10), (1, 11), (1, 12), (1, 13), (1, 14), (1, 15), (2, 5), (2, 6), (2, 7), (2, 8), (2, 9), (2, 10), (3, 3), (3, 4), (3, 5), (5, 2), (6, 2), (6, 3), (6, 4), (6, 5), (6, 6), (6, 7), (6, 8), (6, 9), (6, 10), (7, 1), (7, 2), (7, 3), (7, 4), (7, 5), (7, 6), (7, 7), (7, 8), (7, 9), (7, 10), (7, 11), (7, 12), (8, 1), (8, 2), (8, 3), (8, 4), (8, 5), (8, 6), (8, 7), (8, 8), (10, 0), (10, 1), (10, 2), (10, 3), (10, 4), (10, 5), (10, 6), (10, 7), (10, 8), (10, 9), (11, 3), (11, 4), (11, 5), (13, 0), (14, 0)]
abbrev w135 : Nat → Nat → Bool := wl L135
def S135 : List Nat := [3, 4, 5, 6, 8, 9, 10, 11, 12, 13, 14, 15, 16, 18, 22, 23, 24, 25, 27, 28, 29, 30, 31, 32, 34, 35, 36, 37, 38, 39, 40, 41, 42, 43, 44, 45, 46, 47, 48, 51, 53, 54, 61, 62, 63, 64, 65, 66, 67, 68, 69, 70, 71, 72, 73, 74, 75, 76, 78, 79, 80, 81, 82, 83, 85, 86, 90, 91, 92, 95, 99, 100, 102, 103, 104, 105, 106, 107, 112, 113, 114, 115, 116, 117, 135, 158, 159, 160, 162, 163, 166, 190]
theorem W135 : fw_S w135 S135 = true := by decide +kernel
def P135 (σ : mS) (x1 : Int32) (w : mX) (σ' : mS) : Prop := ∃ v1, P166 σ (x1) v1 ∧ ((∃ σ6, fw_e w160 σ σ6 ∧ P160 σ (v1) (.inl none) σ6 ∧ ∃ v9, P27 σ6 (x1) v9 ∧ ((∃ σ14, fw_e w162 σ6 σ14 ∧ P162 σ6 (v9) (.inl none) σ14 ∧ ∃ σ17, σ17 = m_nu σ14 1 0 ∧ ∃ σ20, fw_e w18 σ17 σ20 ∧ P18 σ17 (σ14.1 1) (Int32.ofInt 8) (x1) (Int32.ofInt 0) (Int32.ofInt 0) σ20 ∧ ∃ v23 σ24, fw_e w61 σ20 σ24 ∧ P61 σ20 (some (1, σ14.1 1)) v23 σ24 ∧ ∃ v27 σ28, fw_e w158 σ24 σ28 ∧ P158 σ24 (some (1, σ14.1 1)) (v23) v27 σ28 ∧ w = .inl none ∧ σ' = σ28) ∨ (∃ b, P162 σ6 (v9) (.inr b) σ' ∧ w = .inr b))) ∨ (∃ b, P160 σ (v1) (.inr b) σ' ∧ w = .inr b))
theorem x135 {σ σ' : mS} {x1 : Int32} {w : mX} (hs : HS σ) (h : ev_run sm_all 135 [rf 11 (0), .inl (x1)] σ (w) σ') : P135 σ x1 w σ' := by
  unfold P135
  obtain ⟨F, f, h⟩ := ei_go h z135_at
  replace h : EV F f 135 z135 0 [some (rf 11 (0)), some (.inl (x1)), none] [] σ (w, σ') := h
  replace h := ei_p h rfl rfl rfl rfl
  obtain ⟨f, g, h⟩ := h
  clear g
  replace h : EV F f 135 z135 1 [some (rf 11 (0)), some (.inl (x1)), none] [.inl (x1)] σ (w, σ') := h
  replace h := bk_I (ei_s (as := [.inl (x1)]) h rfl (Nat.le_of_ble_eq_true rfl) rfl rfl) rfl z166_at (Or.inr rfl)
  obtain ⟨v1, σ2, r3, f, g, h⟩ := h
  clear g
  have er3 := ro_run rfl r3
  rw [er3] at h r3
  have p4 := x166 hs r3
  refine ⟨v1, p4, ?_⟩
  replace h : EV F f 135 z135 4 [some (rf 11 (0)), some (.inl (x1)), none] [.inl (v1)] σ (w, σ') := h
  replace h := bx_0 (ei_s (as := [.inl (v1)]) h rfl (Nat.le_of_ble_eq_true rfl) rfl rfl) z160_at rfl
  rcases h with ⟨σ6, r7, f, g, h⟩ | ⟨b, σ6, r7, e⟩
  · skip
    clear g
    have p8 := x160 hs r7
    have hsσ6 : HS σ6 := HS_run rfl r7 hs
    refine Or.inl ⟨σ6, fw_run W160 rfl r7, p8, ?_⟩
    replace h : EV F f 135 z135 7 [some (rf 11 (0)), some (.inl (x1)), none] [] σ6 (w, σ') := h
    replace h := ei_p h rfl rfl rfl rfl
    obtain ⟨f, g, h⟩ := h
    clear g
    replace h : EV F f 135 z135 8 [some (rf 11 (0)), some (.inl (x1)), none] [rf 11 (0)] σ6 (w, σ') := h
    replace h := ei_get h rfl (HS_g11_0 hsσ6)
    obtain ⟨f, g, h⟩ := h
    clear g
    replace h : EV F f 135 z135 11 [some (rf 11 (0)), some (.inl (x1)), none] [rf 4 (0)] σ6 (w, σ') := h
    replace h := ei_get h rfl (HS_g4_1 hsσ6)
    obtain ⟨f, g, h⟩ := h
    clear g
    replace h : EV F f 135 z135 14 [some (rf 11 (0)), some (.inl (x1)), none] [rf 2 (0)] σ6 (w, σ') := h
    replace h := ei_p h rfl rfl rfl rfl
    obtain ⟨f, g, h⟩ := h
    clear g
    replace h : EV F f 135 z135 15 [some (rf 11 (0)), some (.inl (x1)), none] [.inl (x1), rf 2 (0)] σ6 (w, σ') := h
    replace h := bk_I (ei_v (as := [.inl (x1)]) h rfl rfl rfl) rfl z27_at (Or.inr rfl)
    obtain ⟨v9, σ10, r11, f, g, h⟩ := h
    clear g
    have er11 := ro_run rfl r11
    rw [er11] at h r11
    have p12 := x27 hsσ6 r11
    refine ⟨v9, p12, ?_⟩
    replace h : EV F f 135 z135 18 [some (rf 11 (0)), some (.inl (x1)), none] [.inl (v9)] σ6 (w, σ') := h
    replace h := bx_0 (ei_s (as := [.inl (v9)]) h rfl (Nat.le_of_ble_eq_true rfl) rfl rfl) z162_at rfl
    rcases h with ⟨σ14, r15, f, g, h⟩ | ⟨b, σ14, r15, e⟩
    · skip
      clear g
      have p16 := x162 hsσ6 r15
      have hsσ14 : HS σ14 := HS_run rfl r15 hsσ6
      refine Or.inl ⟨σ14, fw_run W162 rfl r15, p16, ?_⟩
      replace h : EV F f 135 z135 21 [some (rf 11 (0)), some (.inl (x1)), none] [] σ14 (w, σ') := h
      replace h := ei_new h rfl (by decide)
      obtain ⟨f, g, h⟩ := h
      clear g
      obtain ⟨σ17, e18⟩ : ∃ s, s = m_nu σ14 1 0 := ⟨_, rfl⟩
      rw [← e18] at h
      have hsσ17 : HS σ17 := by rw [e18]; exact HS_nu hsσ14 (by decide)
      refine ⟨σ17, e18, ?_⟩
      replace h : EV F f 135 z135 24 [some (rf 11 (0)), some (.inl (x1)), none] [rf 1 (σ14.1 1)] σ17 (w, σ') := h
      replace h := ei_p h rfl rfl rfl rfl
      obtain ⟨f, g, h⟩ := h
      clear g
      replace h : EV F f 135 z135 25 [some (rf 11 (0)), some (.inl (x1)), none] [rf 1 (σ14.1 1), rf 1 (σ14.1 1)] σ17 (w, σ') := h
      replace h := ei_p h rfl rfl rfl rfl
      obtain ⟨f, g, h⟩ := h
      clear g
      replace h : EV F f 135 z135 27 [some (rf 11 (0)), some (.inl (x1)), none] [.inl (Int32.ofInt 8), rf 1 (σ14.1 1), rf 1 (σ14.1 1)] σ17 (w, σ') := h
      replace h := ei_p h rfl rfl rfl rfl
      obtain ⟨f, g, h⟩ := h
      clear g
      replace h : EV F f 135 z135 28 [some (rf 11 (0)), some (.inl (x1)), none] [.inl (x1), .inl (Int32.ofInt 8), rf 1 (σ14.1 1), rf 1 (σ14.1 1)] σ17 (w, σ') := h
      replace h := ei_p h rfl rfl rfl rfl
      obtain ⟨f, g, h⟩ := h
      clear g
      replace h : EV F f 135 z135 29 [some (rf 11 (0)), some (.inl (x1)), none] [.inl (Int32.ofInt 0), .inl (x1), .inl (Int32.ofInt 8), rf 1 (σ14.1 1), rf 1 (σ14.1 1)] σ17 (w, σ') := h
      replace h := ei_p h rfl rfl rfl rfl
      obtain ⟨f, g, h⟩ := h
      clear g
      replace h : EV F f 135 z135 30 [some (rf 11 (0)), some (.inl (x1)), none] [.inl (Int32.ofInt 0), .inl (Int32.ofInt 0), .inl (x1), .inl (Int32.ofInt 8), rf 1 (σ14.1 1), rf 1 (σ14.1 1)] σ17 (w, σ') := h
      replace h := bk_0 (ei_x (as := [.inl (Int32.ofInt 0), .inl (Int32.ofInt 0), .inl (x1), .inl (Int32.ofInt 8)]) h rfl rfl rfl) rfl z18_at rfl
      obtain ⟨σ20, r21, f, g, h⟩ := h
      clear g
      have p22 := x18 hsσ17 r21
      have hsσ20 : HS σ20 := HS_run rfl r21 hsσ17
      refine ⟨σ20, fw_run W18 rfl r21, p22, ?_⟩
      replace h : EV F f 135 z135 33 [some (rf 11 (0)), some (.inl (x1)), none] [rf 1 (σ14.1 1)] σ20 (w, σ') := h
      replace h := ei_p h rfl rfl rfl rfl
      obtain ⟨f, g, h⟩ := h
      clear g
      replace h : EV F f 135 z135 34 [some (rf 11 (0)), some (.inl (x1)), some (rf 1 (σ14.1 1))] [] σ20 (w, σ') := h
      replace h := ei_p h rfl rfl rfl rfl
      obtain ⟨f, g, h⟩ := h
      clear g
      replace h : EV F f 135 z135 35 [some (rf 11 (0)), some (.inl (x1)), some (rf 1 (σ14.1 1))] [rf 11 (0)] σ20 (w, σ') := h
      replace h := ei_p h rfl rfl rfl rfl
      obtain ⟨f, g, h⟩ := h
      clear g
      replace h : EV F f 135 z135 36 [some (rf 11 (0)), some (.inl (x1)), some (rf 1 (σ14.1 1))] [rf 1 (σ14.1 1), rf 11 (0)] σ20 (w, σ') := h
      replace h := ei_p h rfl rfl rfl rfl
      obtain ⟨f, g, h⟩ := h
      clear g
      replace h : EV F f 135 z135 37 [some (rf 11 (0)), some (.inl (x1)), some (rf 1 (σ14.1 1))] [rf 11 (0), rf 1 (σ14.1 1), rf 11 (0)] σ20 (w, σ') := h
      replace h := ei_get h rfl (HS_g11_0 hsσ20)
      obtain ⟨f, g, h⟩ := h
      clear g
      replace h : EV F f 135 z135 40 [some (rf 11 (0)), some (.inl (x1)), some (rf 1 (σ14.1 1))] [rf 4 (0), rf 1 (σ14.1 1), rf 11 (0)] σ20 (w, σ') := h
      replace h := ei_p h rfl rfl rfl rfl
      obtain ⟨f, g, h⟩ := h
      clear g
      replace h : EV F f 135 z135 41 [some (rf 11 (0)), some (.inl (x1)), some (rf 1 (σ14.1 1))] [rf 1 (σ14.1 1), rf 4 (0), rf 1 (σ14.1 1), rf 11 (0)] σ20 (w, σ') := h
      replace h := bk_L (ei_v (as := [rf 1 (σ14.1 1)]) h rfl rfl rfl) rfl z61_at rfl
      obtain ⟨v23, σ24, r25, f, g, h⟩ := h
      clear g
      have p26 := x61 hsσ20 r25
      have hsσ24 : HS σ24 := HS_run rfl r25 hsσ20
      refine ⟨v23, σ24, fw_run W61 rfl r25, p26, ?_⟩
      replace h : EV F f 135 z135 44 [some (rf 11 (0)), some (.inl (x1)), some (rf 1 (σ14.1 1))] [.inr (.inl (v23)), rf 1 (σ14.1 1), rf 11 (0)] σ24 (w, σ') := h
      replace h := bk_L (ei_v (as := [.inr (.inl (v23)), rf 1 (σ14.1 1)]) h rfl rfl rfl) rfl z158_at rfl
      obtain ⟨v27, σ28, r29, f, g, h⟩ := h
      clear g
      have p30 := x158 hsσ24 r29
      have hsσ28 : HS σ28 := HS_run rfl r29 hsσ24
      refine ⟨v27, σ28, fw_run W158 rfl r29, p30, ?_⟩
      replace h : EV F f 135 z135 47 [some (rf 11 (0)), some (.inl (x1)), some (rf 1 (σ14.1 1))] [.inr (.inl (v27))] σ28 (w, σ') := h
      replace h := ei_p h rfl rfl rfl rfl
      obtain ⟨f, g, h⟩ := h
      clear g
      replace h : EV F f 135 z135 48 [some (rf 11 (0)), some (.inl (x1)), some (rf 1 (σ14.1 1))] [] σ28 (w, σ') := h
      have e := ei_ret h rfl
      cases e
      exact ⟨rfl, rfl⟩
    · skip
      have p16 := x162 hsσ6 r15
      cases e
      exact Or.inr ⟨b, p16, rfl⟩
  · skip
    have p8 := x160 hs r7
    cases e
    exact Or.inr ⟨b, p8, rfl⟩
def z136 : mAl := ((yX11_indicated, cX11_indicated, 5, (some .long), { frames := 6, cells := 1, slots := 6, locals := 105 }, []), rw_X11_indicated, false)
theorem z136_at : m_alF[136]? = some z136 := rfl
abbrev L136 : List (Nat × Nat) := []
abbrev w136 : Nat → Nat → Bool := wl L136
def S136 : List Nat := [8, 9, 10, 11, 24, 99, 100, 103, 136]
theorem W136 : fw_S w136 S136 = true := by decide +kernel
def P136 (σ : mS) (x1 : Int32) (w : mX) (σ' : mS) : Prop := ∃ v1, P24 σ (x1) v1 ∧ ((v1 = none ∧ (w = .inr 0 ∧ σ' = σ)) ∨ (∃ q6, v1 = some q6 ∧ ∃ i9, (some q6 : mR) = some (8, i9) ∧ ∃ v11, P10 σ (x1) (m_i σ 8 (i9) 3) v11 ∧ ∃ v15, P9 σ (x1) (v11) v15 ∧ (((v15).toInt ≠ (0 : Int) ∧ w = .inl (some (.inr (.inl (((Int64.ofInt 1000000) * ((v11).toInt64)) + ((v15).toInt64))))) ∧ σ' = σ) ∨ (¬ ((v15).toInt ≠ (0 : Int)) ∧ w = .inl (some (.inr (.inl (Int64.ofNat 0)))) ∧ σ' = σ))))
theorem x136 {σ σ' : mS} {x1 : Int32} {w : mX} (hs : HS σ) (h : ev_run sm_all 136 [rf 11 (0), .inl (x1)] σ (w) σ') : P136 σ x1 w σ' := by
  unfold P136
  obtain ⟨F, f, h⟩ := ei_go h z136_at
  replace h : EV F f 136 z136 0 [some (rf 11 (0)), some (.inl (x1)), none, none, none] [] σ (w, σ') := h
  replace h := ei_p h rfl rfl rfl rfl
  obtain ⟨f, g, h⟩ := h
  clear g
  replace h : EV F f 136 z136 1 [some (rf 11 (0)), some (.inl (x1)), none, none, none] [rf 11 (0)] σ (w, σ') := h
  replace h := ei_get h rfl (HS_g11_0 hs)
  obtain ⟨f, g, h⟩ := h
  clear g
  replace h : EV F f 136 z136 4 [some (rf 11 (0)), some (.inl (x1)), none, none, none] [rf 4 (0)] σ (w, σ') := h
  replace h := ei_get h rfl (HS_g4_1 hs)
  obtain ⟨f, g, h⟩ := h
  clear g
  replace h : EV F f 136 z136 7 [some (rf 11 (0)), some (.inl (x1)), none, none, none] [rf 2 (0)] σ (w, σ') := h
  replace h := ei_p h rfl rfl rfl rfl
  obtain ⟨f, g, h⟩ := h
  clear g
  replace h : EV F f 136 z136 8 [some (rf 11 (0)), some (.inl (x1)), none, none, none] [.inl (x1), rf 2 (0)] σ (w, σ') := h
  replace h := bk_R (ei_v (as := [.inl (x1)]) h rfl rfl rfl) rfl z24_at rfl
  obtain ⟨v1, σ2, r3, f, g, h⟩ := h
  clear g
  have er3 := ro_run rfl r3
  rw [er3] at h r3
  have p4 := x24 hs r3
  refine ⟨v1, p4, ?_⟩
  replace h : EV F f 136 z136 11 [some (rf 11 (0)), some (.inl (x1)), none, none, none] [.inr (.inr (v1))] σ (w, σ') := h
  replace h := ei_p h rfl rfl rfl rfl
  obtain ⟨f, g, h⟩ := h
  clear g
  replace h : EV F f 136 z136 12 [some (rf 11 (0)), some (.inl (x1)), some (.inr (.inr (v1))), none, none] [] σ (w, σ') := h
  replace h := ei_p h rfl rfl rfl rfl
  obtain ⟨f, g, h⟩ := h
  clear g
  replace h : EV F f 136 z136 13 [some (rf 11 (0)), some (.inl (x1)), some (.inr (.inr (v1))), none, none] [.inr (.inr (v1))] σ (w, σ') := h
  rcases r_cs (v1) with e5 | ⟨q6, e5⟩
  · skip
    rw [e5] at h
    refine Or.inl ⟨e5, ?_⟩
    replace h : EV F f 136 z136 13 [some (rf 11 (0)), some (.inl (x1)), some (.inr (.inr none)), none, none] [.inr (.inr none)] σ (w, σ') := h
    replace h := ei_c h rfl rfl rfl
    rcases h with ⟨hp7, f, g, h⟩ | ⟨hp7, f, g, h⟩
    · exact absurd rfl hp7
    · skip
      clear g
      replace h : EV F f 136 z136 16 [some (rf 11 (0)), some (.inl (x1)), some (.inr (.inr none)), none, none] [] σ (w, σ') := h
      have e := ei_thr h rfl (by decide)
      cases e
      exact ⟨rfl, rfl⟩
  · skip
    rw [e5] at h
    refine Or.inr ⟨q6, e5, ?_⟩
    replace h : EV F f 136 z136 13 [some (rf 11 (0)), some (.inl (x1)), some (.inr (.inr (some q6))), none, none] [.inr (.inr (some q6))] σ (w, σ') := h
    replace h := ei_c h rfl rfl rfl
    rcases h with ⟨hp8, f, g, h⟩ | ⟨hp8, f, g, h⟩
    · skip
      clear g
      replace h : EV F f 136 z136 26 [some (rf 11 (0)), some (.inl (x1)), some (.inr (.inr (some q6))), none, none] [] σ (w, σ') := h
      replace h := ei_p h rfl rfl rfl rfl
      obtain ⟨f, g, h⟩ := h
      clear g
      replace h : EV F f 136 z136 27 [some (rf 11 (0)), some (.inl (x1)), some (.inr (.inr (some q6))), none, none] [rf 11 (0)] σ (w, σ') := h
      replace h := ei_get h rfl (HS_g11_0 hs)
      obtain ⟨f, g, h⟩ := h
      clear g
      replace h : EV F f 136 z136 30 [some (rf 11 (0)), some (.inl (x1)), some (.inr (.inr (some q6))), none, none] [rf 4 (0)] σ (w, σ') := h
      replace h := ei_get h rfl (HS_g4_0 hs)
      obtain ⟨f, g, h⟩ := h
      clear g
      replace h : EV F f 136 z136 33 [some (rf 11 (0)), some (.inl (x1)), some (.inr (.inr (some q6))), none, none] [rf 0 (0)] σ (w, σ') := h
      replace h := ei_p h rfl rfl rfl rfl
      obtain ⟨f, g, h⟩ := h
      clear g
      replace h : EV F f 136 z136 34 [some (rf 11 (0)), some (.inl (x1)), some (.inr (.inr (some q6))), none, none] [.inl (x1), rf 0 (0)] σ (w, σ') := h
      replace h := ei_p h rfl rfl rfl rfl
      obtain ⟨f, g, h⟩ := h
      clear g
      replace h : EV F f 136 z136 35 [some (rf 11 (0)), some (.inl (x1)), some (.inr (.inr (some q6))), none, none] [.inr (.inr (some q6)), .inl (x1), rf 0 (0)] σ (w, σ') := h
      obtain ⟨i9, e10⟩ := ei_gp h rfl
      rw [Option.some.inj e10] at h
      refine ⟨i9, e10, ?_⟩
      replace h : EV F f 136 z136 35 [some (rf 11 (0)), some (.inl (x1)), some (rf 8 (i9)), none, none] [rf 8 (i9), .inl (x1), rf 0 (0)] σ (w, σ') := h
      replace h := ei_get h rfl rfl
      obtain ⟨f, g, h⟩ := h
      clear g
      replace h : EV F f 136 z136 38 [some (rf 11 (0)), some (.inl (x1)), some (rf 8 (i9)), none, none] [.inl (m_i σ 8 (i9) 3), .inl (x1), rf 0 (0)] σ (w, σ') := h
      replace h := bk_I (ei_v (as := [.inl (m_i σ 8 (i9) 3), .inl (x1)]) h rfl rfl rfl) rfl z10_at (Or.inl rfl)
      obtain ⟨v11, σ12, r13, f, g, h⟩ := h
      clear g
      have er13 := ro_run rfl r13
      rw [er13] at h r13
      have p14 := x10 hs r13
      refine ⟨v11, p14, ?_⟩
      replace h : EV F f 136 z136 41 [some (rf 11 (0)), some (.inl (x1)), some (rf 8 (i9)), none, none] [.inl (v11)] σ (w, σ') := h
      replace h := ei_p h rfl rfl rfl rfl
      obtain ⟨f, g, h⟩ := h
      clear g
      replace h : EV F f 136 z136 42 [some (rf 11 (0)), some (.inl (x1)), some (rf 8 (i9)), some (.inl (v11)), none] [] σ (w, σ') := h
      replace h := ei_p h rfl rfl rfl rfl
      obtain ⟨f, g, h⟩ := h
      clear g
      replace h : EV F f 136 z136 43 [some (rf 11 (0)), some (.inl (x1)), some (rf 8 (i9)), some (.inl (v11)), none] [rf 11 (0)] σ (w, σ') := h
      replace h := ei_get h rfl (HS_g11_0 hs)
      obtain ⟨f, g, h⟩ := h
      clear g
      replace h : EV F f 136 z136 46 [some (rf 11 (0)), some (.inl (x1)), some (rf 8 (i9)), some (.inl (v11)), none] [rf 4 (0)] σ (w, σ') := h
      replace h := ei_get h rfl (HS_g4_0 hs)
      obtain ⟨f, g, h⟩ := h
      clear g
      replace h : EV F f 136 z136 49 [some (rf 11 (0)), some (.inl (x1)), some (rf 8 (i9)), some (.inl (v11)), none] [rf 0 (0)] σ (w, σ') := h
      replace h := ei_p h rfl rfl rfl rfl
      obtain ⟨f, g, h⟩ := h
      clear g
      replace h : EV F f 136 z136 50 [some (rf 11 (0)), some (.inl (x1)), some (rf 8 (i9)), some (.inl (v11)), none] [.inl (x1), rf 0 (0)] σ (w, σ') := h
      replace h := ei_p h rfl rfl rfl rfl
      obtain ⟨f, g, h⟩ := h
      clear g
      replace h : EV F f 136 z136 51 [some (rf 11 (0)), some (.inl (x1)), some (rf 8 (i9)), some (.inl (v11)), none] [.inl (v11), .inl (x1), rf 0 (0)] σ (w, σ') := h
      replace h := bk_I (ei_v (as := [.inl (v11), .inl (x1)]) h rfl rfl rfl) rfl z9_at (Or.inl rfl)
      obtain ⟨v15, σ16, r17, f, g, h⟩ := h
      clear g
      have er17 := ro_run rfl r17
      rw [er17] at h r17
      have p18 := x9 hs r17
      refine ⟨v15, p18, ?_⟩
      replace h : EV F f 136 z136 54 [some (rf 11 (0)), some (.inl (x1)), some (rf 8 (i9)), some (.inl (v11)), none] [.inl (v15)] σ (w, σ') := h
      replace h := ei_p h rfl rfl rfl rfl
      obtain ⟨f, g, h⟩ := h
      clear g
      replace h : EV F f 136 z136 56 [some (rf 11 (0)), some (.inl (x1)), some (rf 8 (i9)), some (.inl (v11)), some (.inl (v15))] [] σ (w, σ') := h
      replace h := ei_p h rfl rfl rfl rfl
      obtain ⟨f, g, h⟩ := h
      clear g
      replace h : EV F f 136 z136 58 [some (rf 11 (0)), some (.inl (x1)), some (rf 8 (i9)), some (.inl (v11)), some (.inl (v15))] [.inl (v15)] σ (w, σ') := h
      replace h := ei_c h rfl rfl rfl
      rcases h with ⟨hp19, f, g, h⟩ | ⟨hp19, f, g, h⟩
      · skip
        replace hp19 : (v15).toInt ≠ (0 : Int) := ic_ne.mp hp19
        refine Or.inl ⟨hp19, ?_⟩
        clear g
        replace h : EV F f 136 z136 65 [some (rf 11 (0)), some (.inl (x1)), some (rf 8 (i9)), some (.inl (v11)), some (.inl (v15))] [] σ (w, σ') := h
        replace h := ei_p h rfl rfl rfl rfl
        obtain ⟨f, g, h⟩ := h
        clear g
        replace h : EV F f 136 z136 68 [some (rf 11 (0)), some (.inl (x1)), some (rf 8 (i9)), some (.inl (v11)), some (.inl (v15))] [.inr (.inl (Int64.ofInt 1000000))] σ (w, σ') := h
        replace h := ei_p h rfl rfl rfl rfl
        obtain ⟨f, g, h⟩ := h
        clear g
        replace h : EV F f 136 z136 69 [some (rf 11 (0)), some (.inl (x1)), some (rf 8 (i9)), some (.inl (v11)), some (.inl (v15))] [.inl (v11), .inr (.inl (Int64.ofInt 1000000))] σ (w, σ') := h
        replace h := ei_p h rfl rfl rfl rfl
        obtain ⟨f, g, h⟩ := h
        clear g
        replace h : EV F f 136 z136 70 [some (rf 11 (0)), some (.inl (x1)), some (rf 8 (i9)), some (.inl (v11)), some (.inl (v15))] [.inr (.inl ((v11).toInt64)), .inr (.inl (Int64.ofInt 1000000))] σ (w, σ') := h
        replace h := ei_p h rfl rfl rfl rfl
        obtain ⟨f, g, h⟩ := h
        clear g
        replace h : EV F f 136 z136 71 [some (rf 11 (0)), some (.inl (x1)), some (rf 8 (i9)), some (.inl (v11)), some (.inl (v15))] [.inr (.inl ((Int64.ofInt 1000000) * ((v11).toInt64)))] σ (w, σ') := h
        replace h := ei_p h rfl rfl rfl rfl
        obtain ⟨f, g, h⟩ := h
        clear g
        replace h : EV F f 136 z136 73 [some (rf 11 (0)), some (.inl (x1)), some (rf 8 (i9)), some (.inl (v11)), some (.inl (v15))] [.inl (v15), .inr (.inl ((Int64.ofInt 1000000) * ((v11).toInt64)))] σ (w, σ') := h
        replace h := ei_p h rfl rfl rfl rfl
        obtain ⟨f, g, h⟩ := h
        clear g
        replace h : EV F f 136 z136 74 [some (rf 11 (0)), some (.inl (x1)), some (rf 8 (i9)), some (.inl (v11)), some (.inl (v15))] [.inr (.inl ((v15).toInt64)), .inr (.inl ((Int64.ofInt 1000000) * ((v11).toInt64)))] σ (w, σ') := h
        replace h := ei_p h rfl rfl rfl rfl
        obtain ⟨f, g, h⟩ := h
        clear g
        replace h : EV F f 136 z136 75 [some (rf 11 (0)), some (.inl (x1)), some (rf 8 (i9)), some (.inl (v11)), some (.inl (v15))] [.inr (.inl (((Int64.ofInt 1000000) * ((v11).toInt64)) + ((v15).toInt64)))] σ (w, σ') := h
        have e := ei_lret h rfl
        cases e
        exact ⟨rfl, rfl⟩
      · skip
        replace hp19 : ¬ ((v15).toInt ≠ (0 : Int)) := (not_congr ic_ne).mp hp19
        refine Or.inr ⟨hp19, ?_⟩
        clear g
        replace h : EV F f 136 z136 61 [some (rf 11 (0)), some (.inl (x1)), some (rf 8 (i9)), some (.inl (v11)), some (.inl (v15))] [] σ (w, σ') := h
        replace h := ei_p h rfl rfl rfl rfl
        obtain ⟨f, g, h⟩ := h
        clear g
        replace h : EV F f 136 z136 62 [some (rf 11 (0)), some (.inl (x1)), some (rf 8 (i9)), some (.inl (v11)), some (.inl (v15))] [.inr (.inl (Int64.ofNat 0))] σ (w, σ') := h
        replace h := ei_p h rfl rfl rfl rfl
        obtain ⟨f, g, h⟩ := h
        clear g
        replace h : EV F f 136 z136 75 [some (rf 11 (0)), some (.inl (x1)), some (rf 8 (i9)), some (.inl (v11)), some (.inl (v15))] [.inr (.inl (Int64.ofNat 0))] σ (w, σ') := h
        have e := ei_lret h rfl
        cases e
        exact ⟨rfl, rfl⟩
    · exact absurd (fun z => by cases z) hp8
def z137 : mAl := ((yX11_open, cX11_open, 3, (some .int), { frames := 7, cells := 3, slots := 21, locals := 190 }, []), rw_X11_open, false)
theorem z137_at : m_alF[137]? = some z137 := rfl
abbrev L137 : List (Nat × Nat) := [(0, 1), (0, 2), (1, 0), (1, 1), (1, 2), (1, 3), (1, 4), (1, 5), (1, 6), (1, 7), (1, 8), (1, 9), (1, 10), (1, 11), (1, 12), (1, 13), (1, 14), (1, 15), (2, 5), (2, 6), (2, 7), (2, 8), (2, 9), (2, 10), (3, 3), (3, 4), (3, 5), (5, 2), (6, 2), (6, 3), (6, 4), (6, 5), (6, 6), (6, 7), (6, 8), (6, 9), (6, 10), (7, 1), (7, 2), (7, 3), (7, 4), (7, 5), (7, 6), (7, 7), (7, 8), (7, 9), (7, 10), (7, 11), (7, 12), (8, 1), (8, 2), (8, 3), (8, 4), (8, 5), (8, 6), (8, 7), (8, 8), (10, 0), (10, 1), (10, 2), (10, 3), (10, 4), (10, 5), (10, 6), (10, 7), (10, 8), (10, 9), (11, 3), (11, 4), (11, 5), (13, 0), (14, 0)]
abbrev w137 : Nat → Nat → Bool := wl L137
def S137 : List Nat := [3, 4, 5, 6, 8, 9, 10, 11, 12, 13, 14, 15, 16, 18, 22, 23, 24, 25, 27, 28, 29, 30, 31, 32, 34, 35, 36, 37, 38, 39, 40, 41, 42, 43, 44, 45, 46, 47, 48, 51, 53, 54, 61, 62, 63, 64, 65, 66, 67, 68, 69, 70, 71, 72, 73, 74, 75, 76, 78, 79, 80, 81, 82, 83, 85, 86, 90, 91, 92, 95, 99, 100, 102, 103, 104, 105, 106, 107, 112, 113, 114, 115, 116, 117, 137, 158, 159, 160, 162, 163, 166, 190]
theorem W137 : fw_S w137 S137 = true := by decide +kernel
def P137 (σ : mS) (x1 : Int32) (w : mX) (σ' : mS) : Prop := ∃ v1, P166 σ (x1) v1 ∧ ((∃ σ6, fw_e w160 σ σ6 ∧ P160 σ (v1) (.inl none) σ6 ∧ ∃ v9, P27 σ6 (x1) v9 ∧ (((v9).toInt ≠ (0 : Int) ∧ ((∃ σ15, fw_e w162 σ6 σ15 ∧ P162 σ6 (Int32.ofInt 0) (.inl none) σ15 ∧ ∃ σ18, σ18 = m_nu σ15 1 0 ∧ ∃ σ21, fw_e w18 σ18 σ21 ∧ P18 σ18 (σ15.1 1) (Int32.ofInt 9) (x1) (Int32.ofInt 0) (Int32.ofInt 0) σ21 ∧ ∃ v24 σ25, fw_e w61 σ21 σ25 ∧ P61 σ21 (some (1, σ15.1 1)) v24 σ25 ∧ ∃ v28 σ29, fw_e w158 σ25 σ29 ∧ P158 σ25 (some (1, σ15.1 1)) (v24) v28 σ29 ∧ w = .inl (some (.inl ((v28).toInt32))) ∧ σ' = σ29) ∨ (∃ b, P162 σ6 (Int32.ofInt 0) (.inr b) σ' ∧ w = .inr b))) ∨ (¬ ((v9).toInt ≠ (0 : Int)) ∧ ((∃ σ33, fw_e w162 σ6 σ33 ∧ P162 σ6 (Int32.ofInt 1) (.inl none) σ33 ∧ ∃ σ36, σ36 = m_nu σ33 1 0 ∧ ∃ σ39, fw_e w18 σ36 σ39 ∧ P18 σ36 (σ33.1 1) (Int32.ofInt 9) (x1) (Int32.ofInt 0) (Int32.ofInt 0) σ39 ∧ ∃ v42 σ43, fw_e w61 σ39 σ43 ∧ P61 σ39 (some (1, σ33.1 1)) v42 σ43 ∧ ∃ v46 σ47, fw_e w158 σ43 σ47 ∧ P158 σ43 (some (1, σ33.1 1)) (v42) v46 σ47 ∧ w = .inl (some (.inl ((v46).toInt32))) ∧ σ' = σ47) ∨ (∃ b, P162 σ6 (Int32.ofInt 1) (.inr b) σ' ∧ w = .inr b))))) ∨ (∃ b, P160 σ (v1) (.inr b) σ' ∧ w = .inr b))
theorem x137 {σ σ' : mS} {x1 : Int32} {w : mX} (hs : HS σ) (h : ev_run sm_all 137 [rf 11 (0), .inl (x1)] σ (w) σ') : P137 σ x1 w σ' := by
  unfold P137
  obtain ⟨F, f, h⟩ := ei_go h z137_at
  replace h : EV F f 137 z137 0 [some (rf 11 (0)), some (.inl (x1)), none] [] σ (w, σ') := h
  replace h := ei_p h rfl rfl rfl rfl
  obtain ⟨f, g, h⟩ := h
  clear g
  replace h : EV F f 137 z137 1 [some (rf 11 (0)), some (.inl (x1)), none] [.inl (x1)] σ (w, σ') := h
  replace h := bk_I (ei_s (as := [.inl (x1)]) h rfl (Nat.le_of_ble_eq_true rfl) rfl rfl) rfl z166_at (Or.inr rfl)
  obtain ⟨v1, σ2, r3, f, g, h⟩ := h
  clear g
  have er3 := ro_run rfl r3
  rw [er3] at h r3
  have p4 := x166 hs r3
  refine ⟨v1, p4, ?_⟩
  replace h : EV F f 137 z137 4 [some (rf 11 (0)), some (.inl (x1)), none] [.inl (v1)] σ (w, σ') := h
  replace h := bx_0 (ei_s (as := [.inl (v1)]) h rfl (Nat.le_of_ble_eq_true rfl) rfl rfl) z160_at rfl
  rcases h with ⟨σ6, r7, f, g, h⟩ | ⟨b, σ6, r7, e⟩
  · skip
    clear g
    have p8 := x160 hs r7
    have hsσ6 : HS σ6 := HS_run rfl r7 hs
    refine Or.inl ⟨σ6, fw_run W160 rfl r7, p8, ?_⟩
    replace h : EV F f 137 z137 7 [some (rf 11 (0)), some (.inl (x1)), none] [] σ6 (w, σ') := h
    replace h := ei_p h rfl rfl rfl rfl
    obtain ⟨f, g, h⟩ := h
    clear g
    replace h : EV F f 137 z137 8 [some (rf 11 (0)), some (.inl (x1)), none] [rf 11 (0)] σ6 (w, σ') := h
    replace h := ei_get h rfl (HS_g11_0 hsσ6)
    obtain ⟨f, g, h⟩ := h
    clear g
    replace h : EV F f 137 z137 11 [some (rf 11 (0)), some (.inl (x1)), none] [rf 4 (0)] σ6 (w, σ') := h
    replace h := ei_get h rfl (HS_g4_1 hsσ6)
    obtain ⟨f, g, h⟩ := h
    clear g
    replace h : EV F f 137 z137 14 [some (rf 11 (0)), some (.inl (x1)), none] [rf 2 (0)] σ6 (w, σ') := h
    replace h := ei_p h rfl rfl rfl rfl
    obtain ⟨f, g, h⟩ := h
    clear g
    replace h : EV F f 137 z137 15 [some (rf 11 (0)), some (.inl (x1)), none] [.inl (x1), rf 2 (0)] σ6 (w, σ') := h
    replace h := bk_I (ei_v (as := [.inl (x1)]) h rfl rfl rfl) rfl z27_at (Or.inr rfl)
    obtain ⟨v9, σ10, r11, f, g, h⟩ := h
    clear g
    have er11 := ro_run rfl r11
    rw [er11] at h r11
    have p12 := x27 hsσ6 r11
    refine ⟨v9, p12, ?_⟩
    replace h : EV F f 137 z137 18 [some (rf 11 (0)), some (.inl (x1)), none] [.inl (v9)] σ6 (w, σ') := h
    replace h := ei_c h rfl rfl rfl
    rcases h with ⟨hp13, f, g, h⟩ | ⟨hp13, f, g, h⟩
    · skip
      replace hp13 : (v9).toInt ≠ (0 : Int) := ic_ne.mp hp13
      refine Or.inl ⟨hp13, ?_⟩
      clear g
      replace h : EV F f 137 z137 25 [some (rf 11 (0)), some (.inl (x1)), none] [] σ6 (w, σ') := h
      replace h := ei_p h rfl rfl rfl rfl
      obtain ⟨f, g, h⟩ := h
      clear g
      replace h : EV F f 137 z137 26 [some (rf 11 (0)), some (.inl (x1)), none] [.inl (Int32.ofInt 0)] σ6 (w, σ') := h
      replace h := bx_0 (ei_s (as := [.inl (Int32.ofInt 0)]) h rfl (Nat.le_of_ble_eq_true rfl) rfl rfl) z162_at rfl
      rcases h with ⟨σ15, r16, f, g, h⟩ | ⟨b, σ15, r16, e⟩
      · skip
        clear g
        have p17 := x162 hsσ6 r16
        have hsσ15 : HS σ15 := HS_run rfl r16 hsσ6
        refine Or.inl ⟨σ15, fw_run W162 rfl r16, p17, ?_⟩
        replace h : EV F f 137 z137 29 [some (rf 11 (0)), some (.inl (x1)), none] [] σ15 (w, σ') := h
        replace h := ei_new h rfl (by decide)
        obtain ⟨f, g, h⟩ := h
        clear g
        obtain ⟨σ18, e19⟩ : ∃ s, s = m_nu σ15 1 0 := ⟨_, rfl⟩
        rw [← e19] at h
        have hsσ18 : HS σ18 := by rw [e19]; exact HS_nu hsσ15 (by decide)
        refine ⟨σ18, e19, ?_⟩
        replace h : EV F f 137 z137 32 [some (rf 11 (0)), some (.inl (x1)), none] [rf 1 (σ15.1 1)] σ18 (w, σ') := h
        replace h := ei_p h rfl rfl rfl rfl
        obtain ⟨f, g, h⟩ := h
        clear g
        replace h : EV F f 137 z137 33 [some (rf 11 (0)), some (.inl (x1)), none] [rf 1 (σ15.1 1), rf 1 (σ15.1 1)] σ18 (w, σ') := h
        replace h := ei_p h rfl rfl rfl rfl
        obtain ⟨f, g, h⟩ := h
        clear g
        replace h : EV F f 137 z137 35 [some (rf 11 (0)), some (.inl (x1)), none] [.inl (Int32.ofInt 9), rf 1 (σ15.1 1), rf 1 (σ15.1 1)] σ18 (w, σ') := h
        replace h := ei_p h rfl rfl rfl rfl
        obtain ⟨f, g, h⟩ := h
        clear g
        replace h : EV F f 137 z137 36 [some (rf 11 (0)), some (.inl (x1)), none] [.inl (x1), .inl (Int32.ofInt 9), rf 1 (σ15.1 1), rf 1 (σ15.1 1)] σ18 (w, σ') := h
        replace h := ei_p h rfl rfl rfl rfl
        obtain ⟨f, g, h⟩ := h
        clear g
        replace h : EV F f 137 z137 37 [some (rf 11 (0)), some (.inl (x1)), none] [.inl (Int32.ofInt 0), .inl (x1), .inl (Int32.ofInt 9), rf 1 (σ15.1 1), rf 1 (σ15.1 1)] σ18 (w, σ') := h
        replace h := ei_p h rfl rfl rfl rfl
        obtain ⟨f, g, h⟩ := h
        clear g
        replace h : EV F f 137 z137 38 [some (rf 11 (0)), some (.inl (x1)), none] [.inl (Int32.ofInt 0), .inl (Int32.ofInt 0), .inl (x1), .inl (Int32.ofInt 9), rf 1 (σ15.1 1), rf 1 (σ15.1 1)] σ18 (w, σ') := h
        replace h := bk_0 (ei_x (as := [.inl (Int32.ofInt 0), .inl (Int32.ofInt 0), .inl (x1), .inl (Int32.ofInt 9)]) h rfl rfl rfl) rfl z18_at rfl
        obtain ⟨σ21, r22, f, g, h⟩ := h
        clear g
        have p23 := x18 hsσ18 r22
        have hsσ21 : HS σ21 := HS_run rfl r22 hsσ18
        refine ⟨σ21, fw_run W18 rfl r22, p23, ?_⟩
        replace h : EV F f 137 z137 41 [some (rf 11 (0)), some (.inl (x1)), none] [rf 1 (σ15.1 1)] σ21 (w, σ') := h
        replace h := ei_p h rfl rfl rfl rfl
        obtain ⟨f, g, h⟩ := h
        clear g
        replace h : EV F f 137 z137 42 [some (rf 11 (0)), some (.inl (x1)), some (rf 1 (σ15.1 1))] [] σ21 (w, σ') := h
        replace h := ei_p h rfl rfl rfl rfl
        obtain ⟨f, g, h⟩ := h
        clear g
        replace h : EV F f 137 z137 43 [some (rf 11 (0)), some (.inl (x1)), some (rf 1 (σ15.1 1))] [rf 11 (0)] σ21 (w, σ') := h
        replace h := ei_p h rfl rfl rfl rfl
        obtain ⟨f, g, h⟩ := h
        clear g
        replace h : EV F f 137 z137 44 [some (rf 11 (0)), some (.inl (x1)), some (rf 1 (σ15.1 1))] [rf 1 (σ15.1 1), rf 11 (0)] σ21 (w, σ') := h
        replace h := ei_p h rfl rfl rfl rfl
        obtain ⟨f, g, h⟩ := h
        clear g
        replace h : EV F f 137 z137 45 [some (rf 11 (0)), some (.inl (x1)), some (rf 1 (σ15.1 1))] [rf 11 (0), rf 1 (σ15.1 1), rf 11 (0)] σ21 (w, σ') := h
        replace h := ei_get h rfl (HS_g11_0 hsσ21)
        obtain ⟨f, g, h⟩ := h
        clear g
        replace h : EV F f 137 z137 48 [some (rf 11 (0)), some (.inl (x1)), some (rf 1 (σ15.1 1))] [rf 4 (0), rf 1 (σ15.1 1), rf 11 (0)] σ21 (w, σ') := h
        replace h := ei_p h rfl rfl rfl rfl
        obtain ⟨f, g, h⟩ := h
        clear g
        replace h : EV F f 137 z137 49 [some (rf 11 (0)), some (.inl (x1)), some (rf 1 (σ15.1 1))] [rf 1 (σ15.1 1), rf 4 (0), rf 1 (σ15.1 1), rf 11 (0)] σ21 (w, σ') := h
        replace h := bk_L (ei_v (as := [rf 1 (σ15.1 1)]) h rfl rfl rfl) rfl z61_at rfl
        obtain ⟨v24, σ25, r26, f, g, h⟩ := h
        clear g
        have p27 := x61 hsσ21 r26
        have hsσ25 : HS σ25 := HS_run rfl r26 hsσ21
        refine ⟨v24, σ25, fw_run W61 rfl r26, p27, ?_⟩
        replace h : EV F f 137 z137 52 [some (rf 11 (0)), some (.inl (x1)), some (rf 1 (σ15.1 1))] [.inr (.inl (v24)), rf 1 (σ15.1 1), rf 11 (0)] σ25 (w, σ') := h
        replace h := bk_L (ei_v (as := [.inr (.inl (v24)), rf 1 (σ15.1 1)]) h rfl rfl rfl) rfl z158_at rfl
        obtain ⟨v28, σ29, r30, f, g, h⟩ := h
        clear g
        have p31 := x158 hsσ25 r30
        have hsσ29 : HS σ29 := HS_run rfl r30 hsσ25
        refine ⟨v28, σ29, fw_run W158 rfl r30, p31, ?_⟩
        replace h : EV F f 137 z137 55 [some (rf 11 (0)), some (.inl (x1)), some (rf 1 (σ15.1 1))] [.inr (.inl (v28))] σ29 (w, σ') := h
        replace h := ei_p h rfl rfl rfl rfl
        obtain ⟨f, g, h⟩ := h
        clear g
        replace h : EV F f 137 z137 56 [some (rf 11 (0)), some (.inl (x1)), some (rf 1 (σ15.1 1))] [.inl ((v28).toInt32)] σ29 (w, σ') := h
        have e := ei_iret h rfl
        cases e
        exact ⟨rfl, rfl⟩
      · skip
        have p17 := x162 hsσ6 r16
        cases e
        exact Or.inr ⟨b, p17, rfl⟩
    · skip
      replace hp13 : ¬ ((v9).toInt ≠ (0 : Int)) := (not_congr ic_ne).mp hp13
      refine Or.inr ⟨hp13, ?_⟩
      clear g
      replace h : EV F f 137 z137 21 [some (rf 11 (0)), some (.inl (x1)), none] [] σ6 (w, σ') := h
      replace h := ei_p h rfl rfl rfl rfl
      obtain ⟨f, g, h⟩ := h
      clear g
      replace h : EV F f 137 z137 22 [some (rf 11 (0)), some (.inl (x1)), none] [.inl (Int32.ofInt 1)] σ6 (w, σ') := h
      replace h := ei_p h rfl rfl rfl rfl
      obtain ⟨f, g, h⟩ := h
      clear g
      replace h : EV F f 137 z137 26 [some (rf 11 (0)), some (.inl (x1)), none] [.inl (Int32.ofInt 1)] σ6 (w, σ') := h
      replace h := bx_0 (ei_s (as := [.inl (Int32.ofInt 1)]) h rfl (Nat.le_of_ble_eq_true rfl) rfl rfl) z162_at rfl
      rcases h with ⟨σ33, r34, f, g, h⟩ | ⟨b, σ33, r34, e⟩
      · skip
        clear g
        have p35 := x162 hsσ6 r34
        have hsσ33 : HS σ33 := HS_run rfl r34 hsσ6
        refine Or.inl ⟨σ33, fw_run W162 rfl r34, p35, ?_⟩
        replace h : EV F f 137 z137 29 [some (rf 11 (0)), some (.inl (x1)), none] [] σ33 (w, σ') := h
        replace h := ei_new h rfl (by decide)
        obtain ⟨f, g, h⟩ := h
        clear g
        obtain ⟨σ36, e37⟩ : ∃ s, s = m_nu σ33 1 0 := ⟨_, rfl⟩
        rw [← e37] at h
        have hsσ36 : HS σ36 := by rw [e37]; exact HS_nu hsσ33 (by decide)
        refine ⟨σ36, e37, ?_⟩
        replace h : EV F f 137 z137 32 [some (rf 11 (0)), some (.inl (x1)), none] [rf 1 (σ33.1 1)] σ36 (w, σ') := h
        replace h := ei_p h rfl rfl rfl rfl
        obtain ⟨f, g, h⟩ := h
        clear g
        replace h : EV F f 137 z137 33 [some (rf 11 (0)), some (.inl (x1)), none] [rf 1 (σ33.1 1), rf 1 (σ33.1 1)] σ36 (w, σ') := h
        replace h := ei_p h rfl rfl rfl rfl
        obtain ⟨f, g, h⟩ := h
        clear g
        replace h : EV F f 137 z137 35 [some (rf 11 (0)), some (.inl (x1)), none] [.inl (Int32.ofInt 9), rf 1 (σ33.1 1), rf 1 (σ33.1 1)] σ36 (w, σ') := h
        replace h := ei_p h rfl rfl rfl rfl
        obtain ⟨f, g, h⟩ := h
        clear g
        replace h : EV F f 137 z137 36 [some (rf 11 (0)), some (.inl (x1)), none] [.inl (x1), .inl (Int32.ofInt 9), rf 1 (σ33.1 1), rf 1 (σ33.1 1)] σ36 (w, σ') := h
        replace h := ei_p h rfl rfl rfl rfl
        obtain ⟨f, g, h⟩ := h
        clear g
        replace h : EV F f 137 z137 37 [some (rf 11 (0)), some (.inl (x1)), none] [.inl (Int32.ofInt 0), .inl (x1), .inl (Int32.ofInt 9), rf 1 (σ33.1 1), rf 1 (σ33.1 1)] σ36 (w, σ') := h
        replace h := ei_p h rfl rfl rfl rfl
        obtain ⟨f, g, h⟩ := h
        clear g
        replace h : EV F f 137 z137 38 [some (rf 11 (0)), some (.inl (x1)), none] [.inl (Int32.ofInt 0), .inl (Int32.ofInt 0), .inl (x1), .inl (Int32.ofInt 9), rf 1 (σ33.1 1), rf 1 (σ33.1 1)] σ36 (w, σ') := h
        replace h := bk_0 (ei_x (as := [.inl (Int32.ofInt 0), .inl (Int32.ofInt 0), .inl (x1), .inl (Int32.ofInt 9)]) h rfl rfl rfl) rfl z18_at rfl
        obtain ⟨σ39, r40, f, g, h⟩ := h
        clear g
        have p41 := x18 hsσ36 r40
        have hsσ39 : HS σ39 := HS_run rfl r40 hsσ36
        refine ⟨σ39, fw_run W18 rfl r40, p41, ?_⟩
        replace h : EV F f 137 z137 41 [some (rf 11 (0)), some (.inl (x1)), none] [rf 1 (σ33.1 1)] σ39 (w, σ') := h
        replace h := ei_p h rfl rfl rfl rfl
        obtain ⟨f, g, h⟩ := h
        clear g
        replace h : EV F f 137 z137 42 [some (rf 11 (0)), some (.inl (x1)), some (rf 1 (σ33.1 1))] [] σ39 (w, σ') := h
        replace h := ei_p h rfl rfl rfl rfl
        obtain ⟨f, g, h⟩ := h
        clear g
        replace h : EV F f 137 z137 43 [some (rf 11 (0)), some (.inl (x1)), some (rf 1 (σ33.1 1))] [rf 11 (0)] σ39 (w, σ') := h
        replace h := ei_p h rfl rfl rfl rfl
        obtain ⟨f, g, h⟩ := h
        clear g
        replace h : EV F f 137 z137 44 [some (rf 11 (0)), some (.inl (x1)), some (rf 1 (σ33.1 1))] [rf 1 (σ33.1 1), rf 11 (0)] σ39 (w, σ') := h
        replace h := ei_p h rfl rfl rfl rfl
        obtain ⟨f, g, h⟩ := h
        clear g
        replace h : EV F f 137 z137 45 [some (rf 11 (0)), some (.inl (x1)), some (rf 1 (σ33.1 1))] [rf 11 (0), rf 1 (σ33.1 1), rf 11 (0)] σ39 (w, σ') := h
        replace h := ei_get h rfl (HS_g11_0 hsσ39)
        obtain ⟨f, g, h⟩ := h
        clear g
        replace h : EV F f 137 z137 48 [some (rf 11 (0)), some (.inl (x1)), some (rf 1 (σ33.1 1))] [rf 4 (0), rf 1 (σ33.1 1), rf 11 (0)] σ39 (w, σ') := h
        replace h := ei_p h rfl rfl rfl rfl
        obtain ⟨f, g, h⟩ := h
        clear g
        replace h : EV F f 137 z137 49 [some (rf 11 (0)), some (.inl (x1)), some (rf 1 (σ33.1 1))] [rf 1 (σ33.1 1), rf 4 (0), rf 1 (σ33.1 1), rf 11 (0)] σ39 (w, σ') := h
        replace h := bk_L (ei_v (as := [rf 1 (σ33.1 1)]) h rfl rfl rfl) rfl z61_at rfl
        obtain ⟨v42, σ43, r44, f, g, h⟩ := h
        clear g
        have p45 := x61 hsσ39 r44
        have hsσ43 : HS σ43 := HS_run rfl r44 hsσ39
        refine ⟨v42, σ43, fw_run W61 rfl r44, p45, ?_⟩
        replace h : EV F f 137 z137 52 [some (rf 11 (0)), some (.inl (x1)), some (rf 1 (σ33.1 1))] [.inr (.inl (v42)), rf 1 (σ33.1 1), rf 11 (0)] σ43 (w, σ') := h
        replace h := bk_L (ei_v (as := [.inr (.inl (v42)), rf 1 (σ33.1 1)]) h rfl rfl rfl) rfl z158_at rfl
        obtain ⟨v46, σ47, r48, f, g, h⟩ := h
        clear g
        have p49 := x158 hsσ43 r48
        have hsσ47 : HS σ47 := HS_run rfl r48 hsσ43
        refine ⟨v46, σ47, fw_run W158 rfl r48, p49, ?_⟩
        replace h : EV F f 137 z137 55 [some (rf 11 (0)), some (.inl (x1)), some (rf 1 (σ33.1 1))] [.inr (.inl (v46))] σ47 (w, σ') := h
        replace h := ei_p h rfl rfl rfl rfl
        obtain ⟨f, g, h⟩ := h
        clear g
        replace h : EV F f 137 z137 56 [some (rf 11 (0)), some (.inl (x1)), some (rf 1 (σ33.1 1))] [.inl ((v46).toInt32)] σ47 (w, σ') := h
        have e := ei_iret h rfl
        cases e
        exact ⟨rfl, rfl⟩
      · skip
        have p35 := x162 hsσ6 r34
        cases e
        exact Or.inr ⟨b, p35, rfl⟩
  · skip
    have p8 := x160 hs r7
    cases e
    exact Or.inr ⟨b, p8, rfl⟩
def z138 : mAl := ((yX11_split, cX11_split, 5, (some .int), { frames := 7, cells := 4, slots := 27, locals := 190 }, []), rw_X11_split, false)
theorem z138_at : m_alF[138]? = some z138 := rfl
abbrev L138 : List (Nat × Nat) := [(0, 1), (0, 2), (1, 0), (1, 1), (1, 2), (1, 3), (1, 4), (1, 5), (1, 6), (1, 7), (1, 8), (1, 9), (1, 10), (1, 11), (1, 12), (1, 13), (1, 14), (1, 15), (2, 5), (2, 6), (2, 7), (2, 8), (2, 9), (2, 10), (3, 3), (3, 4), (3, 5), (5, 2), (6, 2), (6, 3), (6, 4), (6, 5), (6, 6), (6, 7), (6, 8), (6, 9), (6, 10), (7, 1), (7, 2), (7, 3), (7, 4), (7, 5), (7, 6), (7, 7), (7, 8), (7, 9), (7, 10), (7, 11), (7, 12), (8, 1), (8, 2), (8, 3), (8, 4), (8, 5), (8, 6), (8, 7), (8, 8), (10, 0), (10, 1), (10, 2), (10, 3), (10, 4), (10, 5), (10, 6), (10, 7), (10, 8), (10, 9), (11, 3), (11, 4), (11, 5), (13, 0), (14, 0)]
abbrev w138 : Nat → Nat → Bool := wl L138
def S138 : List Nat := [3, 4, 5, 6, 8, 9, 10, 11, 12, 13, 14, 15, 16, 18, 22, 23, 24, 25, 27, 28, 29, 30, 31, 32, 34, 35, 36, 37, 38, 39, 40, 41, 42, 43, 44, 45, 46, 47, 48, 51, 53, 54, 61, 62, 63, 64, 65, 66, 67, 68, 69, 70, 71, 72, 73, 74, 75, 76, 78, 79, 80, 81, 82, 83, 85, 86, 90, 91, 92, 95, 99, 100, 102, 103, 104, 105, 106, 107, 112, 113, 114, 115, 116, 117, 138, 158, 159, 161, 162, 163, 190]
theorem W138 : fw_S w138 S138 = true := by decide +kernel
def P138 (σ : mS) (x1 : Int32) (x2 : Int32) (w : mX) (σ' : mS) : Prop := ∃ v1, P24 σ (x1) v1 ∧ ((v1 = none ∧ (w = .inr 0 ∧ σ' = σ)) ∨ (∃ q6, v1 = some q6 ∧ ∃ v9, P163 σ (x2) (Int32.ofInt 2) (Int32.ofInt 5) v9 ∧ ((∃ σ14, fw_e w161 σ σ14 ∧ P161 σ (v9) (.inl none) σ14 ∧ ∃ i17, (some q6 : mR) = some (8, i17) ∧ (((3 : Int) ≤ (m_i σ14 8 (i17) 5).toInt ∧ ((∃ σ21, fw_e w162 σ14 σ21 ∧ P162 σ14 (Int32.ofInt 0) (.inl none) σ21 ∧ ∃ σ24, σ24 = m_nu σ21 1 0 ∧ ∃ σ27, fw_e w18 σ24 σ27 ∧ P18 σ24 (σ21.1 1) (Int32.ofInt 10) (x1) (x2) (Int32.ofInt 0) σ27 ∧ ∃ v30 σ31, fw_e w61 σ27 σ31 ∧ P61 σ27 (some (1, σ21.1 1)) v30 σ31 ∧ ∃ v34 σ35, fw_e w158 σ31 σ35 ∧ P158 σ31 (some (1, σ21.1 1)) (v30) v34 σ35 ∧ w = .inl (some (.inl ((v34).toInt32))) ∧ σ' = σ35) ∨ (∃ b, P162 σ14 (Int32.ofInt 0) (.inr b) σ' ∧ w = .inr b))) ∨ (¬ ((3 : Int) ≤ (m_i σ14 8 (i17) 5).toInt) ∧ ((∃ σ39, fw_e w162 σ14 σ39 ∧ P162 σ14 (Int32.ofInt 1) (.inl none) σ39 ∧ ∃ σ42, σ42 = m_nu σ39 1 0 ∧ ∃ σ45, fw_e w18 σ42 σ45 ∧ P18 σ42 (σ39.1 1) (Int32.ofInt 10) (x1) (x2) (Int32.ofInt 0) σ45 ∧ ∃ v48 σ49, fw_e w61 σ45 σ49 ∧ P61 σ45 (some (1, σ39.1 1)) v48 σ49 ∧ ∃ v52 σ53, fw_e w158 σ49 σ53 ∧ P158 σ49 (some (1, σ39.1 1)) (v48) v52 σ53 ∧ w = .inl (some (.inl ((v52).toInt32))) ∧ σ' = σ53) ∨ (∃ b, P162 σ14 (Int32.ofInt 1) (.inr b) σ' ∧ w = .inr b))))) ∨ (∃ b, P161 σ (v9) (.inr b) σ' ∧ w = .inr b))))
theorem x138 {σ σ' : mS} {x1 : Int32} {x2 : Int32} {w : mX} (hs : HS σ) (h : ev_run sm_all 138 [rf 11 (0), .inl (x1), .inl (x2)] σ (w) σ') : P138 σ x1 x2 w σ' := by
  unfold P138
  obtain ⟨F, f, h⟩ := ei_go h z138_at
  replace h : EV F f 138 z138 0 [some (rf 11 (0)), some (.inl (x1)), some (.inl (x2)), none, none] [] σ (w, σ') := h
  replace h := ei_p h rfl rfl rfl rfl
  obtain ⟨f, g, h⟩ := h
  clear g
  replace h : EV F f 138 z138 1 [some (rf 11 (0)), some (.inl (x1)), some (.inl (x2)), none, none] [rf 11 (0)] σ (w, σ') := h
  replace h := ei_get h rfl (HS_g11_0 hs)
  obtain ⟨f, g, h⟩ := h
  clear g
  replace h : EV F f 138 z138 4 [some (rf 11 (0)), some (.inl (x1)), some (.inl (x2)), none, none] [rf 4 (0)] σ (w, σ') := h
  replace h := ei_get h rfl (HS_g4_1 hs)
  obtain ⟨f, g, h⟩ := h
  clear g
  replace h : EV F f 138 z138 7 [some (rf 11 (0)), some (.inl (x1)), some (.inl (x2)), none, none] [rf 2 (0)] σ (w, σ') := h
  replace h := ei_p h rfl rfl rfl rfl
  obtain ⟨f, g, h⟩ := h
  clear g
  replace h : EV F f 138 z138 8 [some (rf 11 (0)), some (.inl (x1)), some (.inl (x2)), none, none] [.inl (x1), rf 2 (0)] σ (w, σ') := h
  replace h := bk_R (ei_v (as := [.inl (x1)]) h rfl rfl rfl) rfl z24_at rfl
  obtain ⟨v1, σ2, r3, f, g, h⟩ := h
  clear g
  have er3 := ro_run rfl r3
  rw [er3] at h r3
  have p4 := x24 hs r3
  refine ⟨v1, p4, ?_⟩
  replace h : EV F f 138 z138 11 [some (rf 11 (0)), some (.inl (x1)), some (.inl (x2)), none, none] [.inr (.inr (v1))] σ (w, σ') := h
  replace h := ei_p h rfl rfl rfl rfl
  obtain ⟨f, g, h⟩ := h
  clear g
  replace h : EV F f 138 z138 12 [some (rf 11 (0)), some (.inl (x1)), some (.inl (x2)), some (.inr (.inr (v1))), none] [] σ (w, σ') := h
  replace h := ei_p h rfl rfl rfl rfl
  obtain ⟨f, g, h⟩ := h
  clear g
  replace h : EV F f 138 z138 13 [some (rf 11 (0)), some (.inl (x1)), some (.inl (x2)), some (.inr (.inr (v1))), none] [.inr (.inr (v1))] σ (w, σ') := h
  rcases r_cs (v1) with e5 | ⟨q6, e5⟩
  · skip
    rw [e5] at h
    refine Or.inl ⟨e5, ?_⟩
    replace h : EV F f 138 z138 13 [some (rf 11 (0)), some (.inl (x1)), some (.inl (x2)), some (.inr (.inr none)), none] [.inr (.inr none)] σ (w, σ') := h
    replace h := ei_c h rfl rfl rfl
    rcases h with ⟨hp7, f, g, h⟩ | ⟨hp7, f, g, h⟩
    · exact absurd rfl hp7
    · skip
      clear g
      replace h : EV F f 138 z138 16 [some (rf 11 (0)), some (.inl (x1)), some (.inl (x2)), some (.inr (.inr none)), none] [] σ (w, σ') := h
      have e := ei_thr h rfl (by decide)
      cases e
      exact ⟨rfl, rfl⟩
  · skip
    rw [e5] at h
    refine Or.inr ⟨q6, e5, ?_⟩
    replace h : EV F f 138 z138 13 [some (rf 11 (0)), some (.inl (x1)), some (.inl (x2)), some (.inr (.inr (some q6))), none] [.inr (.inr (some q6))] σ (w, σ') := h
    replace h := ei_c h rfl rfl rfl
    rcases h with ⟨hp8, f, g, h⟩ | ⟨hp8, f, g, h⟩
    · skip
      clear g
      replace h : EV F f 138 z138 26 [some (rf 11 (0)), some (.inl (x1)), some (.inl (x2)), some (.inr (.inr (some q6))), none] [] σ (w, σ') := h
      replace h := ei_p h rfl rfl rfl rfl
      obtain ⟨f, g, h⟩ := h
      clear g
      replace h : EV F f 138 z138 27 [some (rf 11 (0)), some (.inl (x1)), some (.inl (x2)), some (.inr (.inr (some q6))), none] [.inl (x2)] σ (w, σ') := h
      replace h := ei_p h rfl rfl rfl rfl
      obtain ⟨f, g, h⟩ := h
      clear g
      replace h : EV F f 138 z138 28 [some (rf 11 (0)), some (.inl (x1)), some (.inl (x2)), some (.inr (.inr (some q6))), none] [.inl (Int32.ofInt 2), .inl (x2)] σ (w, σ') := h
      replace h := ei_p h rfl rfl rfl rfl
      obtain ⟨f, g, h⟩ := h
      clear g
      replace h : EV F f 138 z138 29 [some (rf 11 (0)), some (.inl (x1)), some (.inl (x2)), some (.inr (.inr (some q6))), none] [.inl (Int32.ofInt 5), .inl (Int32.ofInt 2), .inl (x2)] σ (w, σ') := h
      replace h := bk_I (ei_s (as := [.inl (Int32.ofInt 5), .inl (Int32.ofInt 2), .inl (x2)]) h rfl (Nat.le_of_ble_eq_true rfl) rfl rfl) rfl z163_at (Or.inr rfl)
      obtain ⟨v9, σ10, r11, f, g, h⟩ := h
      clear g
      have er11 := ro_run rfl r11
      rw [er11] at h r11
      have p12 := x163 hs r11
      refine ⟨v9, p12, ?_⟩
      replace h : EV F f 138 z138 32 [some (rf 11 (0)), some (.inl (x1)), some (.inl (x2)), some (.inr (.inr (some q6))), none] [.inl (v9)] σ (w, σ') := h
      replace h := bx_0 (ei_s (as := [.inl (v9)]) h rfl (Nat.le_of_ble_eq_true rfl) rfl rfl) z161_at rfl
      rcases h with ⟨σ14, r15, f, g, h⟩ | ⟨b, σ14, r15, e⟩
      · skip
        clear g
        have p16 := x161 hs r15
        have hsσ14 : HS σ14 := HS_run rfl r15 hs
        refine Or.inl ⟨σ14, fw_run W161 rfl r15, p16, ?_⟩
        replace h : EV F f 138 z138 35 [some (rf 11 (0)), some (.inl (x1)), some (.inl (x2)), some (.inr (.inr (some q6))), none] [] σ14 (w, σ') := h
        replace h := ei_p h rfl rfl rfl rfl
        obtain ⟨f, g, h⟩ := h
        clear g
        replace h : EV F f 138 z138 36 [some (rf 11 (0)), some (.inl (x1)), some (.inl (x2)), some (.inr (.inr (some q6))), none] [.inr (.inr (some q6))] σ14 (w, σ') := h
        obtain ⟨i17, e18⟩ := ei_gp h rfl
        rw [Option.some.inj e18] at h
        refine ⟨i17, e18, ?_⟩
        replace h : EV F f 138 z138 36 [some (rf 11 (0)), some (.inl (x1)), some (.inl (x2)), some (rf 8 (i17)), none] [rf 8 (i17)] σ14 (w, σ') := h
        replace h := ei_get h rfl rfl
        obtain ⟨f, g, h⟩ := h
        clear g
        replace h : EV F f 138 z138 39 [some (rf 11 (0)), some (.inl (x1)), some (.inl (x2)), some (rf 8 (i17)), none] [.inl (m_i σ14 8 (i17) 5)] σ14 (w, σ') := h
        replace h := ei_p h rfl rfl rfl rfl
        obtain ⟨f, g, h⟩ := h
        clear g
        replace h : EV F f 138 z138 40 [some (rf 11 (0)), some (.inl (x1)), some (.inl (x2)), some (rf 8 (i17)), none] [.inl (Int32.ofInt 3), .inl (m_i σ14 8 (i17) 5)] σ14 (w, σ') := h
        replace h := ei_c h rfl rfl rfl
        rcases h with ⟨hp19, f, g, h⟩ | ⟨hp19, f, g, h⟩
        · skip
          replace hp19 : (3 : Int) ≤ (m_i σ14 8 (i17) 5).toInt := ic_ge.mp hp19
          refine Or.inl ⟨hp19, ?_⟩
          clear g
          replace h : EV F f 138 z138 47 [some (rf 11 (0)), some (.inl (x1)), some (.inl (x2)), some (rf 8 (i17)), none] [] σ14 (w, σ') := h
          replace h := ei_p h rfl rfl rfl rfl
          obtain ⟨f, g, h⟩ := h
          clear g
          replace h : EV F f 138 z138 48 [some (rf 11 (0)), some (.inl (x1)), some (.inl (x2)), some (rf 8 (i17)), none] [.inl (Int32.ofInt 0)] σ14 (w, σ') := h
          replace h := bx_0 (ei_s (as := [.inl (Int32.ofInt 0)]) h rfl (Nat.le_of_ble_eq_true rfl) rfl rfl) z162_at rfl
          rcases h with ⟨σ21, r22, f, g, h⟩ | ⟨b, σ21, r22, e⟩
          · skip
            clear g
            have p23 := x162 hsσ14 r22
            have hsσ21 : HS σ21 := HS_run rfl r22 hsσ14
            refine Or.inl ⟨σ21, fw_run W162 rfl r22, p23, ?_⟩
            replace h : EV F f 138 z138 51 [some (rf 11 (0)), some (.inl (x1)), some (.inl (x2)), some (rf 8 (i17)), none] [] σ21 (w, σ') := h
            replace h := ei_new h rfl (by decide)
            obtain ⟨f, g, h⟩ := h
            clear g
            obtain ⟨σ24, e25⟩ : ∃ s, s = m_nu σ21 1 0 := ⟨_, rfl⟩
            rw [← e25] at h
            have hsσ24 : HS σ24 := by rw [e25]; exact HS_nu hsσ21 (by decide)
            refine ⟨σ24, e25, ?_⟩
            replace h : EV F f 138 z138 54 [some (rf 11 (0)), some (.inl (x1)), some (.inl (x2)), some (rf 8 (i17)), none] [rf 1 (σ21.1 1)] σ24 (w, σ') := h
            replace h := ei_p h rfl rfl rfl rfl
            obtain ⟨f, g, h⟩ := h
            clear g
            replace h : EV F f 138 z138 55 [some (rf 11 (0)), some (.inl (x1)), some (.inl (x2)), some (rf 8 (i17)), none] [rf 1 (σ21.1 1), rf 1 (σ21.1 1)] σ24 (w, σ') := h
            replace h := ei_p h rfl rfl rfl rfl
            obtain ⟨f, g, h⟩ := h
            clear g
            replace h : EV F f 138 z138 57 [some (rf 11 (0)), some (.inl (x1)), some (.inl (x2)), some (rf 8 (i17)), none] [.inl (Int32.ofInt 10), rf 1 (σ21.1 1), rf 1 (σ21.1 1)] σ24 (w, σ') := h
            replace h := ei_p h rfl rfl rfl rfl
            obtain ⟨f, g, h⟩ := h
            clear g
            replace h : EV F f 138 z138 58 [some (rf 11 (0)), some (.inl (x1)), some (.inl (x2)), some (rf 8 (i17)), none] [.inl (x1), .inl (Int32.ofInt 10), rf 1 (σ21.1 1), rf 1 (σ21.1 1)] σ24 (w, σ') := h
            replace h := ei_p h rfl rfl rfl rfl
            obtain ⟨f, g, h⟩ := h
            clear g
            replace h : EV F f 138 z138 59 [some (rf 11 (0)), some (.inl (x1)), some (.inl (x2)), some (rf 8 (i17)), none] [.inl (x2), .inl (x1), .inl (Int32.ofInt 10), rf 1 (σ21.1 1), rf 1 (σ21.1 1)] σ24 (w, σ') := h
            replace h := ei_p h rfl rfl rfl rfl
            obtain ⟨f, g, h⟩ := h
            clear g
            replace h : EV F f 138 z138 60 [some (rf 11 (0)), some (.inl (x1)), some (.inl (x2)), some (rf 8 (i17)), none] [.inl (Int32.ofInt 0), .inl (x2), .inl (x1), .inl (Int32.ofInt 10), rf 1 (σ21.1 1), rf 1 (σ21.1 1)] σ24 (w, σ') := h
            replace h := bk_0 (ei_x (as := [.inl (Int32.ofInt 0), .inl (x2), .inl (x1), .inl (Int32.ofInt 10)]) h rfl rfl rfl) rfl z18_at rfl
            obtain ⟨σ27, r28, f, g, h⟩ := h
            clear g
            have p29 := x18 hsσ24 r28
            have hsσ27 : HS σ27 := HS_run rfl r28 hsσ24
            refine ⟨σ27, fw_run W18 rfl r28, p29, ?_⟩
            replace h : EV F f 138 z138 63 [some (rf 11 (0)), some (.inl (x1)), some (.inl (x2)), some (rf 8 (i17)), none] [rf 1 (σ21.1 1)] σ27 (w, σ') := h
            replace h := ei_p h rfl rfl rfl rfl
            obtain ⟨f, g, h⟩ := h
            clear g
            replace h : EV F f 138 z138 65 [some (rf 11 (0)), some (.inl (x1)), some (.inl (x2)), some (rf 8 (i17)), some (rf 1 (σ21.1 1))] [] σ27 (w, σ') := h
            replace h := ei_p h rfl rfl rfl rfl
            obtain ⟨f, g, h⟩ := h
            clear g
            replace h : EV F f 138 z138 66 [some (rf 11 (0)), some (.inl (x1)), some (.inl (x2)), some (rf 8 (i17)), some (rf 1 (σ21.1 1))] [rf 11 (0)] σ27 (w, σ') := h
            replace h := ei_p h rfl rfl rfl rfl
            obtain ⟨f, g, h⟩ := h
            clear g
            replace h : EV F f 138 z138 68 [some (rf 11 (0)), some (.inl (x1)), some (.inl (x2)), some (rf 8 (i17)), some (rf 1 (σ21.1 1))] [rf 1 (σ21.1 1), rf 11 (0)] σ27 (w, σ') := h
            replace h := ei_p h rfl rfl rfl rfl
            obtain ⟨f, g, h⟩ := h
            clear g
            replace h : EV F f 138 z138 69 [some (rf 11 (0)), some (.inl (x1)), some (.inl (x2)), some (rf 8 (i17)), some (rf 1 (σ21.1 1))] [rf 11 (0), rf 1 (σ21.1 1), rf 11 (0)] σ27 (w, σ') := h
            replace h := ei_get h rfl (HS_g11_0 hsσ27)
            obtain ⟨f, g, h⟩ := h
            clear g
            replace h : EV F f 138 z138 72 [some (rf 11 (0)), some (.inl (x1)), some (.inl (x2)), some (rf 8 (i17)), some (rf 1 (σ21.1 1))] [rf 4 (0), rf 1 (σ21.1 1), rf 11 (0)] σ27 (w, σ') := h
            replace h := ei_p h rfl rfl rfl rfl
            obtain ⟨f, g, h⟩ := h
            clear g
            replace h : EV F f 138 z138 74 [some (rf 11 (0)), some (.inl (x1)), some (.inl (x2)), some (rf 8 (i17)), some (rf 1 (σ21.1 1))] [rf 1 (σ21.1 1), rf 4 (0), rf 1 (σ21.1 1), rf 11 (0)] σ27 (w, σ') := h
            replace h := bk_L (ei_v (as := [rf 1 (σ21.1 1)]) h rfl rfl rfl) rfl z61_at rfl
            obtain ⟨v30, σ31, r32, f, g, h⟩ := h
            clear g
            have p33 := x61 hsσ27 r32
            have hsσ31 : HS σ31 := HS_run rfl r32 hsσ27
            refine ⟨v30, σ31, fw_run W61 rfl r32, p33, ?_⟩
            replace h : EV F f 138 z138 77 [some (rf 11 (0)), some (.inl (x1)), some (.inl (x2)), some (rf 8 (i17)), some (rf 1 (σ21.1 1))] [.inr (.inl (v30)), rf 1 (σ21.1 1), rf 11 (0)] σ31 (w, σ') := h
            replace h := bk_L (ei_v (as := [.inr (.inl (v30)), rf 1 (σ21.1 1)]) h rfl rfl rfl) rfl z158_at rfl
            obtain ⟨v34, σ35, r36, f, g, h⟩ := h
            clear g
            have p37 := x158 hsσ31 r36
            have hsσ35 : HS σ35 := HS_run rfl r36 hsσ31
            refine ⟨v34, σ35, fw_run W158 rfl r36, p37, ?_⟩
            replace h : EV F f 138 z138 80 [some (rf 11 (0)), some (.inl (x1)), some (.inl (x2)), some (rf 8 (i17)), some (rf 1 (σ21.1 1))] [.inr (.inl (v34))] σ35 (w, σ') := h
            replace h := ei_p h rfl rfl rfl rfl
            obtain ⟨f, g, h⟩ := h
            clear g
            replace h : EV F f 138 z138 81 [some (rf 11 (0)), some (.inl (x1)), some (.inl (x2)), some (rf 8 (i17)), some (rf 1 (σ21.1 1))] [.inl ((v34).toInt32)] σ35 (w, σ') := h
            have e := ei_iret h rfl
            cases e
            exact ⟨rfl, rfl⟩
          · skip
            have p23 := x162 hsσ14 r22
            cases e
            exact Or.inr ⟨b, p23, rfl⟩
        · skip
          replace hp19 : ¬ ((3 : Int) ≤ (m_i σ14 8 (i17) 5).toInt) := (not_congr ic_ge).mp hp19
          refine Or.inr ⟨hp19, ?_⟩
          clear g
          replace h : EV F f 138 z138 43 [some (rf 11 (0)), some (.inl (x1)), some (.inl (x2)), some (rf 8 (i17)), none] [] σ14 (w, σ') := h
          replace h := ei_p h rfl rfl rfl rfl
          obtain ⟨f, g, h⟩ := h
          clear g
          replace h : EV F f 138 z138 44 [some (rf 11 (0)), some (.inl (x1)), some (.inl (x2)), some (rf 8 (i17)), none] [.inl (Int32.ofInt 1)] σ14 (w, σ') := h
          replace h := ei_p h rfl rfl rfl rfl
          obtain ⟨f, g, h⟩ := h
          clear g
          replace h : EV F f 138 z138 48 [some (rf 11 (0)), some (.inl (x1)), some (.inl (x2)), some (rf 8 (i17)), none] [.inl (Int32.ofInt 1)] σ14 (w, σ') := h
          replace h := bx_0 (ei_s (as := [.inl (Int32.ofInt 1)]) h rfl (Nat.le_of_ble_eq_true rfl) rfl rfl) z162_at rfl
          rcases h with ⟨σ39, r40, f, g, h⟩ | ⟨b, σ39, r40, e⟩
          · skip
            clear g
            have p41 := x162 hsσ14 r40
            have hsσ39 : HS σ39 := HS_run rfl r40 hsσ14
            refine Or.inl ⟨σ39, fw_run W162 rfl r40, p41, ?_⟩
            replace h : EV F f 138 z138 51 [some (rf 11 (0)), some (.inl (x1)), some (.inl (x2)), some (rf 8 (i17)), none] [] σ39 (w, σ') := h
            replace h := ei_new h rfl (by decide)
            obtain ⟨f, g, h⟩ := h
            clear g
            obtain ⟨σ42, e43⟩ : ∃ s, s = m_nu σ39 1 0 := ⟨_, rfl⟩
            rw [← e43] at h
            have hsσ42 : HS σ42 := by rw [e43]; exact HS_nu hsσ39 (by decide)
            refine ⟨σ42, e43, ?_⟩
            replace h : EV F f 138 z138 54 [some (rf 11 (0)), some (.inl (x1)), some (.inl (x2)), some (rf 8 (i17)), none] [rf 1 (σ39.1 1)] σ42 (w, σ') := h
            replace h := ei_p h rfl rfl rfl rfl
            obtain ⟨f, g, h⟩ := h
            clear g
            replace h : EV F f 138 z138 55 [some (rf 11 (0)), some (.inl (x1)), some (.inl (x2)), some (rf 8 (i17)), none] [rf 1 (σ39.1 1), rf 1 (σ39.1 1)] σ42 (w, σ') := h
            replace h := ei_p h rfl rfl rfl rfl
            obtain ⟨f, g, h⟩ := h
            clear g
            replace h : EV F f 138 z138 57 [some (rf 11 (0)), some (.inl (x1)), some (.inl (x2)), some (rf 8 (i17)), none] [.inl (Int32.ofInt 10), rf 1 (σ39.1 1), rf 1 (σ39.1 1)] σ42 (w, σ') := h
            replace h := ei_p h rfl rfl rfl rfl
            obtain ⟨f, g, h⟩ := h
            clear g
            replace h : EV F f 138 z138 58 [some (rf 11 (0)), some (.inl (x1)), some (.inl (x2)), some (rf 8 (i17)), none] [.inl (x1), .inl (Int32.ofInt 10), rf 1 (σ39.1 1), rf 1 (σ39.1 1)] σ42 (w, σ') := h
            replace h := ei_p h rfl rfl rfl rfl
            obtain ⟨f, g, h⟩ := h
            clear g
            replace h : EV F f 138 z138 59 [some (rf 11 (0)), some (.inl (x1)), some (.inl (x2)), some (rf 8 (i17)), none] [.inl (x2), .inl (x1), .inl (Int32.ofInt 10), rf 1 (σ39.1 1), rf 1 (σ39.1 1)] σ42 (w, σ') := h
            replace h := ei_p h rfl rfl rfl rfl
            obtain ⟨f, g, h⟩ := h
            clear g
            replace h : EV F f 138 z138 60 [some (rf 11 (0)), some (.inl (x1)), some (.inl (x2)), some (rf 8 (i17)), none] [.inl (Int32.ofInt 0), .inl (x2), .inl (x1), .inl (Int32.ofInt 10), rf 1 (σ39.1 1), rf 1 (σ39.1 1)] σ42 (w, σ') := h
            replace h := bk_0 (ei_x (as := [.inl (Int32.ofInt 0), .inl (x2), .inl (x1), .inl (Int32.ofInt 10)]) h rfl rfl rfl) rfl z18_at rfl
            obtain ⟨σ45, r46, f, g, h⟩ := h
            clear g
            have p47 := x18 hsσ42 r46
            have hsσ45 : HS σ45 := HS_run rfl r46 hsσ42
            refine ⟨σ45, fw_run W18 rfl r46, p47, ?_⟩
            replace h : EV F f 138 z138 63 [some (rf 11 (0)), some (.inl (x1)), some (.inl (x2)), some (rf 8 (i17)), none] [rf 1 (σ39.1 1)] σ45 (w, σ') := h
            replace h := ei_p h rfl rfl rfl rfl
            obtain ⟨f, g, h⟩ := h
            clear g
            replace h : EV F f 138 z138 65 [some (rf 11 (0)), some (.inl (x1)), some (.inl (x2)), some (rf 8 (i17)), some (rf 1 (σ39.1 1))] [] σ45 (w, σ') := h
            replace h := ei_p h rfl rfl rfl rfl
            obtain ⟨f, g, h⟩ := h
            clear g
            replace h : EV F f 138 z138 66 [some (rf 11 (0)), some (.inl (x1)), some (.inl (x2)), some (rf 8 (i17)), some (rf 1 (σ39.1 1))] [rf 11 (0)] σ45 (w, σ') := h
            replace h := ei_p h rfl rfl rfl rfl
            obtain ⟨f, g, h⟩ := h
            clear g
            replace h : EV F f 138 z138 68 [some (rf 11 (0)), some (.inl (x1)), some (.inl (x2)), some (rf 8 (i17)), some (rf 1 (σ39.1 1))] [rf 1 (σ39.1 1), rf 11 (0)] σ45 (w, σ') := h
            replace h := ei_p h rfl rfl rfl rfl
            obtain ⟨f, g, h⟩ := h
            clear g
            replace h : EV F f 138 z138 69 [some (rf 11 (0)), some (.inl (x1)), some (.inl (x2)), some (rf 8 (i17)), some (rf 1 (σ39.1 1))] [rf 11 (0), rf 1 (σ39.1 1), rf 11 (0)] σ45 (w, σ') := h
            replace h := ei_get h rfl (HS_g11_0 hsσ45)
            obtain ⟨f, g, h⟩ := h
            clear g
            replace h : EV F f 138 z138 72 [some (rf 11 (0)), some (.inl (x1)), some (.inl (x2)), some (rf 8 (i17)), some (rf 1 (σ39.1 1))] [rf 4 (0), rf 1 (σ39.1 1), rf 11 (0)] σ45 (w, σ') := h
            replace h := ei_p h rfl rfl rfl rfl
            obtain ⟨f, g, h⟩ := h
            clear g
            replace h : EV F f 138 z138 74 [some (rf 11 (0)), some (.inl (x1)), some (.inl (x2)), some (rf 8 (i17)), some (rf 1 (σ39.1 1))] [rf 1 (σ39.1 1), rf 4 (0), rf 1 (σ39.1 1), rf 11 (0)] σ45 (w, σ') := h
            replace h := bk_L (ei_v (as := [rf 1 (σ39.1 1)]) h rfl rfl rfl) rfl z61_at rfl
            obtain ⟨v48, σ49, r50, f, g, h⟩ := h
            clear g
            have p51 := x61 hsσ45 r50
            have hsσ49 : HS σ49 := HS_run rfl r50 hsσ45
            refine ⟨v48, σ49, fw_run W61 rfl r50, p51, ?_⟩
            replace h : EV F f 138 z138 77 [some (rf 11 (0)), some (.inl (x1)), some (.inl (x2)), some (rf 8 (i17)), some (rf 1 (σ39.1 1))] [.inr (.inl (v48)), rf 1 (σ39.1 1), rf 11 (0)] σ49 (w, σ') := h
            replace h := bk_L (ei_v (as := [.inr (.inl (v48)), rf 1 (σ39.1 1)]) h rfl rfl rfl) rfl z158_at rfl
            obtain ⟨v52, σ53, r54, f, g, h⟩ := h
            clear g
            have p55 := x158 hsσ49 r54
            have hsσ53 : HS σ53 := HS_run rfl r54 hsσ49
            refine ⟨v52, σ53, fw_run W158 rfl r54, p55, ?_⟩
            replace h : EV F f 138 z138 80 [some (rf 11 (0)), some (.inl (x1)), some (.inl (x2)), some (rf 8 (i17)), some (rf 1 (σ39.1 1))] [.inr (.inl (v52))] σ53 (w, σ') := h
            replace h := ei_p h rfl rfl rfl rfl
            obtain ⟨f, g, h⟩ := h
            clear g
            replace h : EV F f 138 z138 81 [some (rf 11 (0)), some (.inl (x1)), some (.inl (x2)), some (rf 8 (i17)), some (rf 1 (σ39.1 1))] [.inl ((v52).toInt32)] σ53 (w, σ') := h
            have e := ei_iret h rfl
            cases e
            exact ⟨rfl, rfl⟩
          · skip
            have p41 := x162 hsσ14 r40
            cases e
            exact Or.inr ⟨b, p41, rfl⟩
      · skip
        have p16 := x161 hs r15
        cases e
        exact Or.inr ⟨b, p16, rfl⟩
    · exact absurd (fun z => by cases z) hp8
def z139 : mAl := ((yX11_dividend, cX11_dividend, 4, (some .long), { frames := 7, cells := 3, slots := 21, locals := 190 }, []), rw_X11_dividend, false)
theorem z139_at : m_alF[139]? = some z139 := rfl
abbrev L139 : List (Nat × Nat) := [(0, 1), (0, 2), (1, 0), (1, 1), (1, 2), (1, 3), (1, 4), (1, 5), (1, 6), (1, 7), (1, 8), (1, 9), (1, 10), (1, 11), (1, 12), (1, 13), (1, 14), (1, 15), (2, 5), (2, 6), (2, 7), (2, 8), (2, 9), (2, 10), (3, 3), (3, 4), (3, 5), (5, 2), (6, 2), (6, 3), (6, 4), (6, 5), (6, 6), (6, 7), (6, 8), (6, 9), (6, 10), (7, 1), (7, 2), (7, 3), (7, 4), (7, 5), (7, 6), (7, 7), (7, 8), (7, 9), (7, 10), (7, 11), (7, 12), (8, 1), (8, 2), (8, 3), (8, 4), (8, 5), (8, 6), (8, 7), (8, 8), (10, 0), (10, 1), (10, 2), (10, 3), (10, 4), (10, 5), (10, 6), (10, 7), (10, 8), (10, 9), (11, 3), (11, 4), (11, 5), (13, 0), (14, 0)]
abbrev w139 : Nat → Nat → Bool := wl L139
def S139 : List Nat := [3, 4, 5, 6, 8, 9, 10, 11, 12, 13, 14, 15, 16, 18, 22, 23, 24, 25, 27, 28, 29, 30, 31, 32, 34, 35, 36, 37, 38, 39, 40, 41, 42, 43, 44, 45, 46, 47, 48, 51, 53, 54, 61, 62, 63, 64, 65, 66, 67, 68, 69, 70, 71, 72, 73, 74, 75, 76, 78, 79, 80, 81, 82, 83, 85, 86, 90, 91, 92, 95, 99, 100, 102, 103, 104, 105, 106, 107, 112, 113, 114, 115, 116, 117, 139, 158, 159, 160, 161, 163, 166, 190]
theorem W139 : fw_S w139 S139 = true := by decide +kernel
def P139 (σ : mS) (x1 : Int32) (x2 : Int32) (w : mX) (σ' : mS) : Prop := ∃ v1, P166 σ (x1) v1 ∧ ((∃ σ6, fw_e w160 σ σ6 ∧ P160 σ (v1) (.inl none) σ6 ∧ ∃ v9, P163 σ6 (x2) (Int32.ofInt 1) (Int32.ofInt 1000) v9 ∧ ((∃ σ14, fw_e w161 σ6 σ14 ∧ P161 σ6 (v9) (.inl none) σ14 ∧ ∃ σ17, σ17 = m_nu σ14 1 0 ∧ ∃ σ20, fw_e w18 σ17 σ20 ∧ P18 σ17 (σ14.1 1) (Int32.ofInt 11) (x1) (x2) (Int32.ofInt 0) σ20 ∧ ∃ v23 σ24, fw_e w61 σ20 σ24 ∧ P61 σ20 (some (1, σ14.1 1)) v23 σ24 ∧ ∃ v27 σ28, fw_e w158 σ24 σ28 ∧ P158 σ24 (some (1, σ14.1 1)) (v23) v27 σ28 ∧ w = .inl (some (.inr (.inl (v27)))) ∧ σ' = σ28) ∨ (∃ b, P161 σ6 (v9) (.inr b) σ' ∧ w = .inr b))) ∨ (∃ b, P160 σ (v1) (.inr b) σ' ∧ w = .inr b))
theorem x139 {σ σ' : mS} {x1 : Int32} {x2 : Int32} {w : mX} (hs : HS σ) (h : ev_run sm_all 139 [rf 11 (0), .inl (x1), .inl (x2)] σ (w) σ') : P139 σ x1 x2 w σ' := by
  unfold P139
  obtain ⟨F, f, h⟩ := ei_go h z139_at
  replace h : EV F f 139 z139 0 [some (rf 11 (0)), some (.inl (x1)), some (.inl (x2)), none] [] σ (w, σ') := h
  replace h := ei_p h rfl rfl rfl rfl
  obtain ⟨f, g, h⟩ := h
  clear g
  replace h : EV F f 139 z139 1 [some (rf 11 (0)), some (.inl (x1)), some (.inl (x2)), none] [.inl (x1)] σ (w, σ') := h
  replace h := bk_I (ei_s (as := [.inl (x1)]) h rfl (Nat.le_of_ble_eq_true rfl) rfl rfl) rfl z166_at (Or.inr rfl)
  obtain ⟨v1, σ2, r3, f, g, h⟩ := h
  clear g
  have er3 := ro_run rfl r3
  rw [er3] at h r3
  have p4 := x166 hs r3
  refine ⟨v1, p4, ?_⟩
  replace h : EV F f 139 z139 4 [some (rf 11 (0)), some (.inl (x1)), some (.inl (x2)), none] [.inl (v1)] σ (w, σ') := h
  replace h := bx_0 (ei_s (as := [.inl (v1)]) h rfl (Nat.le_of_ble_eq_true rfl) rfl rfl) z160_at rfl
  rcases h with ⟨σ6, r7, f, g, h⟩ | ⟨b, σ6, r7, e⟩
  · skip
    clear g
    have p8 := x160 hs r7
    have hsσ6 : HS σ6 := HS_run rfl r7 hs
    refine Or.inl ⟨σ6, fw_run W160 rfl r7, p8, ?_⟩
    replace h : EV F f 139 z139 7 [some (rf 11 (0)), some (.inl (x1)), some (.inl (x2)), none] [] σ6 (w, σ') := h
    replace h := ei_p h rfl rfl rfl rfl
    obtain ⟨f, g, h⟩ := h
    clear g
    replace h : EV F f 139 z139 8 [some (rf 11 (0)), some (.inl (x1)), some (.inl (x2)), none] [.inl (x2)] σ6 (w, σ') := h
    replace h := ei_p h rfl rfl rfl rfl
    obtain ⟨f, g, h⟩ := h
    clear g
    replace h : EV F f 139 z139 9 [some (rf 11 (0)), some (.inl (x1)), some (.inl (x2)), none] [.inl (Int32.ofInt 1), .inl (x2)] σ6 (w, σ') := h
    replace h := ei_p h rfl rfl rfl rfl
    obtain ⟨f, g, h⟩ := h
    clear g
    replace h : EV F f 139 z139 12 [some (rf 11 (0)), some (.inl (x1)), some (.inl (x2)), none] [.inl (Int32.ofInt 1000), .inl (Int32.ofInt 1), .inl (x2)] σ6 (w, σ') := h
    replace h := bk_I (ei_s (as := [.inl (Int32.ofInt 1000), .inl (Int32.ofInt 1), .inl (x2)]) h rfl (Nat.le_of_ble_eq_true rfl) rfl rfl) rfl z163_at (Or.inr rfl)
    obtain ⟨v9, σ10, r11, f, g, h⟩ := h
    clear g
    have er11 := ro_run rfl r11
    rw [er11] at h r11
    have p12 := x163 hsσ6 r11
    refine ⟨v9, p12, ?_⟩
    replace h : EV F f 139 z139 15 [some (rf 11 (0)), some (.inl (x1)), some (.inl (x2)), none] [.inl (v9)] σ6 (w, σ') := h
    replace h := bx_0 (ei_s (as := [.inl (v9)]) h rfl (Nat.le_of_ble_eq_true rfl) rfl rfl) z161_at rfl
    rcases h with ⟨σ14, r15, f, g, h⟩ | ⟨b, σ14, r15, e⟩
    · skip
      clear g
      have p16 := x161 hsσ6 r15
      have hsσ14 : HS σ14 := HS_run rfl r15 hsσ6
      refine Or.inl ⟨σ14, fw_run W161 rfl r15, p16, ?_⟩
      replace h : EV F f 139 z139 18 [some (rf 11 (0)), some (.inl (x1)), some (.inl (x2)), none] [] σ14 (w, σ') := h
      replace h := ei_new h rfl (by decide)
      obtain ⟨f, g, h⟩ := h
      clear g
      obtain ⟨σ17, e18⟩ : ∃ s, s = m_nu σ14 1 0 := ⟨_, rfl⟩
      rw [← e18] at h
      have hsσ17 : HS σ17 := by rw [e18]; exact HS_nu hsσ14 (by decide)
      refine ⟨σ17, e18, ?_⟩
      replace h : EV F f 139 z139 21 [some (rf 11 (0)), some (.inl (x1)), some (.inl (x2)), none] [rf 1 (σ14.1 1)] σ17 (w, σ') := h
      replace h := ei_p h rfl rfl rfl rfl
      obtain ⟨f, g, h⟩ := h
      clear g
      replace h : EV F f 139 z139 22 [some (rf 11 (0)), some (.inl (x1)), some (.inl (x2)), none] [rf 1 (σ14.1 1), rf 1 (σ14.1 1)] σ17 (w, σ') := h
      replace h := ei_p h rfl rfl rfl rfl
      obtain ⟨f, g, h⟩ := h
      clear g
      replace h : EV F f 139 z139 24 [some (rf 11 (0)), some (.inl (x1)), some (.inl (x2)), none] [.inl (Int32.ofInt 11), rf 1 (σ14.1 1), rf 1 (σ14.1 1)] σ17 (w, σ') := h
      replace h := ei_p h rfl rfl rfl rfl
      obtain ⟨f, g, h⟩ := h
      clear g
      replace h : EV F f 139 z139 25 [some (rf 11 (0)), some (.inl (x1)), some (.inl (x2)), none] [.inl (x1), .inl (Int32.ofInt 11), rf 1 (σ14.1 1), rf 1 (σ14.1 1)] σ17 (w, σ') := h
      replace h := ei_p h rfl rfl rfl rfl
      obtain ⟨f, g, h⟩ := h
      clear g
      replace h : EV F f 139 z139 26 [some (rf 11 (0)), some (.inl (x1)), some (.inl (x2)), none] [.inl (x2), .inl (x1), .inl (Int32.ofInt 11), rf 1 (σ14.1 1), rf 1 (σ14.1 1)] σ17 (w, σ') := h
      replace h := ei_p h rfl rfl rfl rfl
      obtain ⟨f, g, h⟩ := h
      clear g
      replace h : EV F f 139 z139 27 [some (rf 11 (0)), some (.inl (x1)), some (.inl (x2)), none] [.inl (Int32.ofInt 0), .inl (x2), .inl (x1), .inl (Int32.ofInt 11), rf 1 (σ14.1 1), rf 1 (σ14.1 1)] σ17 (w, σ') := h
      replace h := bk_0 (ei_x (as := [.inl (Int32.ofInt 0), .inl (x2), .inl (x1), .inl (Int32.ofInt 11)]) h rfl rfl rfl) rfl z18_at rfl
      obtain ⟨σ20, r21, f, g, h⟩ := h
      clear g
      have p22 := x18 hsσ17 r21
      have hsσ20 : HS σ20 := HS_run rfl r21 hsσ17
      refine ⟨σ20, fw_run W18 rfl r21, p22, ?_⟩
      replace h : EV F f 139 z139 30 [some (rf 11 (0)), some (.inl (x1)), some (.inl (x2)), none] [rf 1 (σ14.1 1)] σ20 (w, σ') := h
      replace h := ei_p h rfl rfl rfl rfl
      obtain ⟨f, g, h⟩ := h
      clear g
      replace h : EV F f 139 z139 31 [some (rf 11 (0)), some (.inl (x1)), some (.inl (x2)), some (rf 1 (σ14.1 1))] [] σ20 (w, σ') := h
      replace h := ei_p h rfl rfl rfl rfl
      obtain ⟨f, g, h⟩ := h
      clear g
      replace h : EV F f 139 z139 32 [some (rf 11 (0)), some (.inl (x1)), some (.inl (x2)), some (rf 1 (σ14.1 1))] [rf 11 (0)] σ20 (w, σ') := h
      replace h := ei_p h rfl rfl rfl rfl
      obtain ⟨f, g, h⟩ := h
      clear g
      replace h : EV F f 139 z139 33 [some (rf 11 (0)), some (.inl (x1)), some (.inl (x2)), some (rf 1 (σ14.1 1))] [rf 1 (σ14.1 1), rf 11 (0)] σ20 (w, σ') := h
      replace h := ei_p h rfl rfl rfl rfl
      obtain ⟨f, g, h⟩ := h
      clear g
      replace h : EV F f 139 z139 34 [some (rf 11 (0)), some (.inl (x1)), some (.inl (x2)), some (rf 1 (σ14.1 1))] [rf 11 (0), rf 1 (σ14.1 1), rf 11 (0)] σ20 (w, σ') := h
      replace h := ei_get h rfl (HS_g11_0 hsσ20)
      obtain ⟨f, g, h⟩ := h
      clear g
      replace h : EV F f 139 z139 37 [some (rf 11 (0)), some (.inl (x1)), some (.inl (x2)), some (rf 1 (σ14.1 1))] [rf 4 (0), rf 1 (σ14.1 1), rf 11 (0)] σ20 (w, σ') := h
      replace h := ei_p h rfl rfl rfl rfl
      obtain ⟨f, g, h⟩ := h
      clear g
      replace h : EV F f 139 z139 38 [some (rf 11 (0)), some (.inl (x1)), some (.inl (x2)), some (rf 1 (σ14.1 1))] [rf 1 (σ14.1 1), rf 4 (0), rf 1 (σ14.1 1), rf 11 (0)] σ20 (w, σ') := h
      replace h := bk_L (ei_v (as := [rf 1 (σ14.1 1)]) h rfl rfl rfl) rfl z61_at rfl
      obtain ⟨v23, σ24, r25, f, g, h⟩ := h
      clear g
      have p26 := x61 hsσ20 r25
      have hsσ24 : HS σ24 := HS_run rfl r25 hsσ20
      refine ⟨v23, σ24, fw_run W61 rfl r25, p26, ?_⟩
      replace h : EV F f 139 z139 41 [some (rf 11 (0)), some (.inl (x1)), some (.inl (x2)), some (rf 1 (σ14.1 1))] [.inr (.inl (v23)), rf 1 (σ14.1 1), rf 11 (0)] σ24 (w, σ') := h
      replace h := bk_L (ei_v (as := [.inr (.inl (v23)), rf 1 (σ14.1 1)]) h rfl rfl rfl) rfl z158_at rfl
      obtain ⟨v27, σ28, r29, f, g, h⟩ := h
      clear g
      have p30 := x158 hsσ24 r29
      have hsσ28 : HS σ28 := HS_run rfl r29 hsσ24
      refine ⟨v27, σ28, fw_run W158 rfl r29, p30, ?_⟩
      replace h : EV F f 139 z139 44 [some (rf 11 (0)), some (.inl (x1)), some (.inl (x2)), some (rf 1 (σ14.1 1))] [.inr (.inl (v27))] σ28 (w, σ') := h
      have e := ei_lret h rfl
      cases e
      exact ⟨rfl, rfl⟩
    · skip
      have p16 := x161 hsσ6 r15
      cases e
      exact Or.inr ⟨b, p16, rfl⟩
  · skip
    have p8 := x160 hs r7
    cases e
    exact Or.inr ⟨b, p8, rfl⟩
def z140 : mAl := ((yX11_instrument, cX11_instrument, 3, (some .int), { frames := 6, cells := 1, slots := 6, locals := 90 }, []), rw_X11_instrument, false)
theorem z140_at : m_alF[140]? = some z140 := rfl
abbrev L140 : List (Nat × Nat) := []
abbrev w140 : Nat → Nat → Bool := wl L140
def S140 : List Nat := [24, 140]
theorem W140 : fw_S w140 S140 = true := by decide +kernel
def P140 (σ : mS) (x1 : Int32) (w : mX) (σ' : mS) : Prop := ∃ v1, P24 σ (x1) v1 ∧ ((v1 = none ∧ (w = .inr 0 ∧ σ' = σ)) ∨ (∃ q6, v1 = some q6 ∧ ∃ i9, (some q6 : mR) = some (8, i9) ∧ w = .inl (some (.inl (((Int32.ofInt 10) * (m_i σ 8 (i9) 2)) + (m_i σ 8 (i9) 1)))) ∧ σ' = σ))
theorem x140 {σ σ' : mS} {x1 : Int32} {w : mX} (hs : HS σ) (h : ev_run sm_all 140 [rf 11 (0), .inl (x1)] σ (w) σ') : P140 σ x1 w σ' := by
  unfold P140
  obtain ⟨F, f, h⟩ := ei_go h z140_at
  replace h : EV F f 140 z140 0 [some (rf 11 (0)), some (.inl (x1)), none] [] σ (w, σ') := h
  replace h := ei_p h rfl rfl rfl rfl
  obtain ⟨f, g, h⟩ := h
  clear g
  replace h : EV F f 140 z140 1 [some (rf 11 (0)), some (.inl (x1)), none] [rf 11 (0)] σ (w, σ') := h
  replace h := ei_get h rfl (HS_g11_0 hs)
  obtain ⟨f, g, h⟩ := h
  clear g
  replace h : EV F f 140 z140 4 [some (rf 11 (0)), some (.inl (x1)), none] [rf 4 (0)] σ (w, σ') := h
  replace h := ei_get h rfl (HS_g4_1 hs)
  obtain ⟨f, g, h⟩ := h
  clear g
  replace h : EV F f 140 z140 7 [some (rf 11 (0)), some (.inl (x1)), none] [rf 2 (0)] σ (w, σ') := h
  replace h := ei_p h rfl rfl rfl rfl
  obtain ⟨f, g, h⟩ := h
  clear g
  replace h : EV F f 140 z140 8 [some (rf 11 (0)), some (.inl (x1)), none] [.inl (x1), rf 2 (0)] σ (w, σ') := h
  replace h := bk_R (ei_v (as := [.inl (x1)]) h rfl rfl rfl) rfl z24_at rfl
  obtain ⟨v1, σ2, r3, f, g, h⟩ := h
  clear g
  have er3 := ro_run rfl r3
  rw [er3] at h r3
  have p4 := x24 hs r3
  refine ⟨v1, p4, ?_⟩
  replace h : EV F f 140 z140 11 [some (rf 11 (0)), some (.inl (x1)), none] [.inr (.inr (v1))] σ (w, σ') := h
  replace h := ei_p h rfl rfl rfl rfl
  obtain ⟨f, g, h⟩ := h
  clear g
  replace h : EV F f 140 z140 12 [some (rf 11 (0)), some (.inl (x1)), some (.inr (.inr (v1)))] [] σ (w, σ') := h
  replace h := ei_p h rfl rfl rfl rfl
  obtain ⟨f, g, h⟩ := h
  clear g
  replace h : EV F f 140 z140 13 [some (rf 11 (0)), some (.inl (x1)), some (.inr (.inr (v1)))] [.inr (.inr (v1))] σ (w, σ') := h
  rcases r_cs (v1) with e5 | ⟨q6, e5⟩
  · skip
    rw [e5] at h
    refine Or.inl ⟨e5, ?_⟩
    replace h : EV F f 140 z140 13 [some (rf 11 (0)), some (.inl (x1)), some (.inr (.inr none))] [.inr (.inr none)] σ (w, σ') := h
    replace h := ei_c h rfl rfl rfl
    rcases h with ⟨hp7, f, g, h⟩ | ⟨hp7, f, g, h⟩
    · exact absurd rfl hp7
    · skip
      clear g
      replace h : EV F f 140 z140 16 [some (rf 11 (0)), some (.inl (x1)), some (.inr (.inr none))] [] σ (w, σ') := h
      have e := ei_thr h rfl (by decide)
      cases e
      exact ⟨rfl, rfl⟩
  · skip
    rw [e5] at h
    refine Or.inr ⟨q6, e5, ?_⟩
    replace h : EV F f 140 z140 13 [some (rf 11 (0)), some (.inl (x1)), some (.inr (.inr (some q6)))] [.inr (.inr (some q6))] σ (w, σ') := h
    replace h := ei_c h rfl rfl rfl
    rcases h with ⟨hp8, f, g, h⟩ | ⟨hp8, f, g, h⟩
    · skip
      clear g
      replace h : EV F f 140 z140 26 [some (rf 11 (0)), some (.inl (x1)), some (.inr (.inr (some q6)))] [] σ (w, σ') := h
      replace h := ei_p h rfl rfl rfl rfl
      obtain ⟨f, g, h⟩ := h
      clear g
      replace h : EV F f 140 z140 28 [some (rf 11 (0)), some (.inl (x1)), some (.inr (.inr (some q6)))] [.inl (Int32.ofInt 10)] σ (w, σ') := h
      replace h := ei_p h rfl rfl rfl rfl
      obtain ⟨f, g, h⟩ := h
      clear g
      replace h : EV F f 140 z140 29 [some (rf 11 (0)), some (.inl (x1)), some (.inr (.inr (some q6)))] [.inr (.inr (some q6)), .inl (Int32.ofInt 10)] σ (w, σ') := h
      obtain ⟨i9, e10⟩ := ei_gp h rfl
      rw [Option.some.inj e10] at h
      refine ⟨i9, e10, ?_⟩
      replace h : EV F f 140 z140 29 [some (rf 11 (0)), some (.inl (x1)), some (rf 8 (i9))] [rf 8 (i9), .inl (Int32.ofInt 10)] σ (w, σ') := h
      replace h := ei_get h rfl rfl
      obtain ⟨f, g, h⟩ := h
      clear g
      replace h : EV F f 140 z140 32 [some (rf 11 (0)), some (.inl (x1)), some (rf 8 (i9))] [.inl (m_i σ 8 (i9) 2), .inl (Int32.ofInt 10)] σ (w, σ') := h
      replace h := ei_p h rfl rfl rfl rfl
      obtain ⟨f, g, h⟩ := h
      clear g
      replace h : EV F f 140 z140 33 [some (rf 11 (0)), some (.inl (x1)), some (rf 8 (i9))] [.inl ((Int32.ofInt 10) * (m_i σ 8 (i9) 2))] σ (w, σ') := h
      replace h := ei_p h rfl rfl rfl rfl
      obtain ⟨f, g, h⟩ := h
      clear g
      replace h : EV F f 140 z140 34 [some (rf 11 (0)), some (.inl (x1)), some (rf 8 (i9))] [rf 8 (i9), .inl ((Int32.ofInt 10) * (m_i σ 8 (i9) 2))] σ (w, σ') := h
      replace h := ei_get h rfl rfl
      obtain ⟨f, g, h⟩ := h
      clear g
      replace h : EV F f 140 z140 37 [some (rf 11 (0)), some (.inl (x1)), some (rf 8 (i9))] [.inl (m_i σ 8 (i9) 1), .inl ((Int32.ofInt 10) * (m_i σ 8 (i9) 2))] σ (w, σ') := h
      replace h := ei_p h rfl rfl rfl rfl
      obtain ⟨f, g, h⟩ := h
      clear g
      replace h : EV F f 140 z140 38 [some (rf 11 (0)), some (.inl (x1)), some (rf 8 (i9))] [.inl (((Int32.ofInt 10) * (m_i σ 8 (i9) 2)) + (m_i σ 8 (i9) 1))] σ (w, σ') := h
      have e := ei_iret h rfl
      cases e
      exact ⟨rfl, rfl⟩
    · exact absurd (fun z => by cases z) hp8
def z141 : mAl := ((yX11_trades, cX11_trades, 1, (some .int), { frames := 0, cells := 0, slots := 0, locals := 0 }, []), rw_X11_trades, false)
theorem z141_at : m_alF[141]? = some z141 := rfl
abbrev L141 : List (Nat × Nat) := []
abbrev w141 : Nat → Nat → Bool := wl L141
def S141 : List Nat := [141]
theorem W141 : fw_S w141 S141 = true := by decide +kernel
def P141 (σ : mS) (w : Int32) (σ' : mS) : Prop := w = (m_i σ 2 (0) 5) ∧ σ' = σ
theorem x141 {σ σ' : mS} {w : Int32} (hs : HS σ) (h : ev_run sm_all 141 [rf 11 (0)] σ (.inl (some (.inl w))) σ') : P141 σ w σ' := by
  unfold P141
  obtain ⟨F, f, h⟩ := ei_go h z141_at
  replace h : EV F f 141 z141 0 [some (rf 11 (0))] [] σ (.inl (some (.inl w)), σ') := h
  replace h := ei_p h rfl rfl rfl rfl
  obtain ⟨f, g, h⟩ := h
  clear g
  replace h : EV F f 141 z141 1 [some (rf 11 (0))] [rf 11 (0)] σ (.inl (some (.inl w)), σ') := h
  replace h := ei_get h rfl (HS_g11_0 hs)
  obtain ⟨f, g, h⟩ := h
  clear g
  replace h : EV F f 141 z141 4 [some (rf 11 (0))] [rf 4 (0)] σ (.inl (some (.inl w)), σ') := h
  replace h := ei_get h rfl (HS_g4_1 hs)
  obtain ⟨f, g, h⟩ := h
  clear g
  replace h : EV F f 141 z141 7 [some (rf 11 (0))] [rf 2 (0)] σ (.inl (some (.inl w)), σ') := h
  replace h := ei_get h rfl rfl
  obtain ⟨f, g, h⟩ := h
  clear g
  replace h : EV F f 141 z141 10 [some (rf 11 (0))] [.inl (m_i σ 2 (0) 5)] σ (.inl (some (.inl w)), σ') := h
  have e := ei_iret h rfl
  cases e
  exact ⟨rfl, rfl⟩
def z142 : mAl := ((yX11_trade, cX11_trade, 4, (some .int), { frames := 7, cells := 2, slots := 12, locals := 110 }, []), rw_X11_trade, false)
theorem z142_at : m_alF[142]? = some z142 := rfl
abbrev L142 : List (Nat × Nat) := []
abbrev w142 : Nat → Nat → Bool := wl L142
def S142 : List Nat := [25, 121, 142, 161, 163]
theorem W142 : fw_S w142 S142 = true := by decide +kernel
def P142 (σ : mS) (x1 : Int32) (x2 : Int32) (w : mX) (σ' : mS) : Prop := ∃ v1, P25 σ (x1) v1 ∧ ((v1 = none ∧ (w = .inr 0 ∧ σ' = σ)) ∨ (∃ q6, v1 = some q6 ∧ ∃ v9, P163 σ (x2) (Int32.ofInt 0) (Int32.ofInt 3) v9 ∧ ((∃ σ14, fw_e w161 σ σ14 ∧ P161 σ (v9) (.inl none) σ14 ∧ ∃ i17, (some q6 : mR) = some (10, i17) ∧ ∃ v19, P121 σ14 (i17) (x2) v19 ∧ w = .inl (some (.inl (v19))) ∧ σ' = σ14) ∨ (∃ b, P161 σ (v9) (.inr b) σ' ∧ w = .inr b))))
theorem x142 {σ σ' : mS} {x1 : Int32} {x2 : Int32} {w : mX} (hs : HS σ) (h : ev_run sm_all 142 [rf 11 (0), .inl (x1), .inl (x2)] σ (w) σ') : P142 σ x1 x2 w σ' := by
  unfold P142
  obtain ⟨F, f, h⟩ := ei_go h z142_at
  replace h : EV F f 142 z142 0 [some (rf 11 (0)), some (.inl (x1)), some (.inl (x2)), none] [] σ (w, σ') := h
  replace h := ei_p h rfl rfl rfl rfl
  obtain ⟨f, g, h⟩ := h
  clear g
  replace h : EV F f 142 z142 1 [some (rf 11 (0)), some (.inl (x1)), some (.inl (x2)), none] [rf 11 (0)] σ (w, σ') := h
  replace h := ei_get h rfl (HS_g11_0 hs)
  obtain ⟨f, g, h⟩ := h
  clear g
  replace h : EV F f 142 z142 4 [some (rf 11 (0)), some (.inl (x1)), some (.inl (x2)), none] [rf 4 (0)] σ (w, σ') := h
  replace h := ei_get h rfl (HS_g4_1 hs)
  obtain ⟨f, g, h⟩ := h
  clear g
  replace h : EV F f 142 z142 7 [some (rf 11 (0)), some (.inl (x1)), some (.inl (x2)), none] [rf 2 (0)] σ (w, σ') := h
  replace h := ei_p h rfl rfl rfl rfl
  obtain ⟨f, g, h⟩ := h
  clear g
  replace h : EV F f 142 z142 8 [some (rf 11 (0)), some (.inl (x1)), some (.inl (x2)), none] [.inl (x1), rf 2 (0)] σ (w, σ') := h
  replace h := bk_R (ei_v (as := [.inl (x1)]) h rfl rfl rfl) rfl z25_at rfl
  obtain ⟨v1, σ2, r3, f, g, h⟩ := h
  clear g
  have er3 := ro_run rfl r3
  rw [er3] at h r3
  have p4 := x25 hs r3
  refine ⟨v1, p4, ?_⟩
  replace h : EV F f 142 z142 11 [some (rf 11 (0)), some (.inl (x1)), some (.inl (x2)), none] [.inr (.inr (v1))] σ (w, σ') := h
  replace h := ei_p h rfl rfl rfl rfl
  obtain ⟨f, g, h⟩ := h
  clear g
  replace h : EV F f 142 z142 12 [some (rf 11 (0)), some (.inl (x1)), some (.inl (x2)), some (.inr (.inr (v1)))] [] σ (w, σ') := h
  replace h := ei_p h rfl rfl rfl rfl
  obtain ⟨f, g, h⟩ := h
  clear g
  replace h : EV F f 142 z142 13 [some (rf 11 (0)), some (.inl (x1)), some (.inl (x2)), some (.inr (.inr (v1)))] [.inr (.inr (v1))] σ (w, σ') := h
  rcases r_cs (v1) with e5 | ⟨q6, e5⟩
  · skip
    rw [e5] at h
    refine Or.inl ⟨e5, ?_⟩
    replace h : EV F f 142 z142 13 [some (rf 11 (0)), some (.inl (x1)), some (.inl (x2)), some (.inr (.inr none))] [.inr (.inr none)] σ (w, σ') := h
    replace h := ei_c h rfl rfl rfl
    rcases h with ⟨hp7, f, g, h⟩ | ⟨hp7, f, g, h⟩
    · exact absurd rfl hp7
    · skip
      clear g
      replace h : EV F f 142 z142 16 [some (rf 11 (0)), some (.inl (x1)), some (.inl (x2)), some (.inr (.inr none))] [] σ (w, σ') := h
      have e := ei_thr h rfl (by decide)
      cases e
      exact ⟨rfl, rfl⟩
  · skip
    rw [e5] at h
    refine Or.inr ⟨q6, e5, ?_⟩
    replace h : EV F f 142 z142 13 [some (rf 11 (0)), some (.inl (x1)), some (.inl (x2)), some (.inr (.inr (some q6)))] [.inr (.inr (some q6))] σ (w, σ') := h
    replace h := ei_c h rfl rfl rfl
    rcases h with ⟨hp8, f, g, h⟩ | ⟨hp8, f, g, h⟩
    · skip
      clear g
      replace h : EV F f 142 z142 26 [some (rf 11 (0)), some (.inl (x1)), some (.inl (x2)), some (.inr (.inr (some q6)))] [] σ (w, σ') := h
      replace h := ei_p h rfl rfl rfl rfl
      obtain ⟨f, g, h⟩ := h
      clear g
      replace h : EV F f 142 z142 27 [some (rf 11 (0)), some (.inl (x1)), some (.inl (x2)), some (.inr (.inr (some q6)))] [.inl (x2)] σ (w, σ') := h
      replace h := ei_p h rfl rfl rfl rfl
      obtain ⟨f, g, h⟩ := h
      clear g
      replace h : EV F f 142 z142 28 [some (rf 11 (0)), some (.inl (x1)), some (.inl (x2)), some (.inr (.inr (some q6)))] [.inl (Int32.ofInt 0), .inl (x2)] σ (w, σ') := h
      replace h := ei_p h rfl rfl rfl rfl
      obtain ⟨f, g, h⟩ := h
      clear g
      replace h : EV F f 142 z142 29 [some (rf 11 (0)), some (.inl (x1)), some (.inl (x2)), some (.inr (.inr (some q6)))] [.inl (Int32.ofInt 3), .inl (Int32.ofInt 0), .inl (x2)] σ (w, σ') := h
      replace h := bk_I (ei_s (as := [.inl (Int32.ofInt 3), .inl (Int32.ofInt 0), .inl (x2)]) h rfl (Nat.le_of_ble_eq_true rfl) rfl rfl) rfl z163_at (Or.inr rfl)
      obtain ⟨v9, σ10, r11, f, g, h⟩ := h
      clear g
      have er11 := ro_run rfl r11
      rw [er11] at h r11
      have p12 := x163 hs r11
      refine ⟨v9, p12, ?_⟩
      replace h : EV F f 142 z142 32 [some (rf 11 (0)), some (.inl (x1)), some (.inl (x2)), some (.inr (.inr (some q6)))] [.inl (v9)] σ (w, σ') := h
      replace h := bx_0 (ei_s (as := [.inl (v9)]) h rfl (Nat.le_of_ble_eq_true rfl) rfl rfl) z161_at rfl
      rcases h with ⟨σ14, r15, f, g, h⟩ | ⟨b, σ14, r15, e⟩
      · skip
        clear g
        have p16 := x161 hs r15
        have hsσ14 : HS σ14 := HS_run rfl r15 hs
        refine Or.inl ⟨σ14, fw_run W161 rfl r15, p16, ?_⟩
        replace h : EV F f 142 z142 35 [some (rf 11 (0)), some (.inl (x1)), some (.inl (x2)), some (.inr (.inr (some q6)))] [] σ14 (w, σ') := h
        replace h := ei_p h rfl rfl rfl rfl
        obtain ⟨f, g, h⟩ := h
        clear g
        replace h : EV F f 142 z142 36 [some (rf 11 (0)), some (.inl (x1)), some (.inl (x2)), some (.inr (.inr (some q6)))] [.inr (.inr (some q6))] σ14 (w, σ') := h
        replace h := ei_p h rfl rfl rfl rfl
        obtain ⟨f, g, h⟩ := h
        clear g
        replace h : EV F f 142 z142 37 [some (rf 11 (0)), some (.inl (x1)), some (.inl (x2)), some (.inr (.inr (some q6)))] [.inl (x2), .inr (.inr (some q6))] σ14 (w, σ') := h
        obtain ⟨i17, e18⟩ := ei_vp (as := [.inl (x2)]) h rfl rfl
        rw [Option.some.inj e18] at h
        refine ⟨i17, e18, ?_⟩
        replace h : EV F f 142 z142 37 [some (rf 11 (0)), some (.inl (x1)), some (.inl (x2)), some (rf 10 (i17))] [.inl (x2), rf 10 (i17)] σ14 (w, σ') := h
        replace h := bk_I (ei_v (as := [.inl (x2)]) h rfl rfl rfl) rfl z121_at (Or.inl rfl)
        obtain ⟨v19, σ20, r21, f, g, h⟩ := h
        clear g
        have er21 := ro_run rfl r21
        rw [er21] at h r21
        have p22 := x121 hsσ14 r21
        refine ⟨v19, p22, ?_⟩
        replace h : EV F f 142 z142 40 [some (rf 11 (0)), some (.inl (x1)), some (.inl (x2)), some (rf 10 (i17))] [.inl (v19)] σ14 (w, σ') := h
        have e := ei_iret h rfl
        cases e
        exact ⟨rfl, rfl⟩
      · skip
        have p16 := x161 hs r15
        cases e
        exact Or.inr ⟨b, p16, rfl⟩
    · exact absurd (fun z => by cases z) hp8
def z143 : mAl := ((yX11_breakTrade, cX11_breakTrade, 4, none, { frames := 7, cells := 3, slots := 21, locals := 190 }, []), rw_X11_breakTrade, false)
theorem z143_at : m_alF[143]? = some z143 := rfl
abbrev L143 : List (Nat × Nat) := [(0, 1), (0, 2), (1, 0), (1, 1), (1, 2), (1, 3), (1, 4), (1, 5), (1, 6), (1, 7), (1, 8), (1, 9), (1, 10), (1, 11), (1, 12), (1, 13), (1, 14), (1, 15), (2, 5), (2, 6), (2, 7), (2, 8), (2, 9), (2, 10), (3, 3), (3, 4), (3, 5), (5, 2), (6, 2), (6, 3), (6, 4), (6, 5), (6, 6), (6, 7), (6, 8), (6, 9), (6, 10), (7, 1), (7, 2), (7, 3), (7, 4), (7, 5), (7, 6), (7, 7), (7, 8), (7, 9), (7, 10), (7, 11), (7, 12), (8, 1), (8, 2), (8, 3), (8, 4), (8, 5), (8, 6), (8, 7), (8, 8), (10, 0), (10, 1), (10, 2), (10, 3), (10, 4), (10, 5), (10, 6), (10, 7), (10, 8), (10, 9), (11, 3), (11, 4), (11, 5), (13, 0), (14, 0)]
abbrev w143 : Nat → Nat → Bool := wl L143
def S143 : List Nat := [3, 4, 5, 6, 8, 9, 10, 11, 12, 13, 14, 15, 16, 18, 22, 23, 24, 25, 26, 27, 28, 29, 30, 31, 32, 33, 34, 35, 36, 37, 38, 39, 40, 41, 42, 43, 44, 45, 46, 47, 48, 51, 53, 54, 61, 62, 63, 64, 65, 66, 67, 68, 69, 70, 71, 72, 73, 74, 75, 76, 78, 79, 80, 81, 82, 83, 85, 86, 90, 91, 92, 95, 99, 100, 102, 103, 104, 105, 106, 107, 112, 113, 114, 115, 116, 117, 143, 158, 159, 162, 190]
theorem W143 : fw_S w143 S143 = true := by decide +kernel
def P143 (σ : mS) (x1 : Int32) (w : mX) (σ' : mS) : Prop := ∃ v1, P25 σ (x1) v1 ∧ ((v1 = none ∧ (w = .inr 0 ∧ σ' = σ)) ∨ (∃ q6, v1 = some q6 ∧ ∃ v9, P33 σ (some q6) v9 ∧ ((∃ σ14, fw_e w162 σ σ14 ∧ P162 σ (v9) (.inl none) σ14 ∧ ∃ σ17, σ17 = m_nu σ14 1 0 ∧ ∃ σ20, fw_e w18 σ17 σ20 ∧ P18 σ17 (σ14.1 1) (Int32.ofInt 12) (x1) (Int32.ofInt 0) (Int32.ofInt 0) σ20 ∧ ∃ v23 σ24, fw_e w61 σ20 σ24 ∧ P61 σ20 (some (1, σ14.1 1)) v23 σ24 ∧ ∃ v27 σ28, fw_e w158 σ24 σ28 ∧ P158 σ24 (some (1, σ14.1 1)) (v23) v27 σ28 ∧ w = .inl none ∧ σ' = σ28) ∨ (∃ b, P162 σ (v9) (.inr b) σ' ∧ w = .inr b))))
theorem x143 {σ σ' : mS} {x1 : Int32} {w : mX} (hs : HS σ) (h : ev_run sm_all 143 [rf 11 (0), .inl (x1)] σ (w) σ') : P143 σ x1 w σ' := by
  unfold P143
  obtain ⟨F, f, h⟩ := ei_go h z143_at
  replace h : EV F f 143 z143 0 [some (rf 11 (0)), some (.inl (x1)), none, none] [] σ (w, σ') := h
  replace h := ei_p h rfl rfl rfl rfl
  obtain ⟨f, g, h⟩ := h
  clear g
  replace h : EV F f 143 z143 1 [some (rf 11 (0)), some (.inl (x1)), none, none] [rf 11 (0)] σ (w, σ') := h
  replace h := ei_get h rfl (HS_g11_0 hs)
  obtain ⟨f, g, h⟩ := h
  clear g
  replace h : EV F f 143 z143 4 [some (rf 11 (0)), some (.inl (x1)), none, none] [rf 4 (0)] σ (w, σ') := h
  replace h := ei_get h rfl (HS_g4_1 hs)
  obtain ⟨f, g, h⟩ := h
  clear g
  replace h : EV F f 143 z143 7 [some (rf 11 (0)), some (.inl (x1)), none, none] [rf 2 (0)] σ (w, σ') := h
  replace h := ei_p h rfl rfl rfl rfl
  obtain ⟨f, g, h⟩ := h
  clear g
  replace h : EV F f 143 z143 8 [some (rf 11 (0)), some (.inl (x1)), none, none] [.inl (x1), rf 2 (0)] σ (w, σ') := h
  replace h := bk_R (ei_v (as := [.inl (x1)]) h rfl rfl rfl) rfl z25_at rfl
  obtain ⟨v1, σ2, r3, f, g, h⟩ := h
  clear g
  have er3 := ro_run rfl r3
  rw [er3] at h r3
  have p4 := x25 hs r3
  refine ⟨v1, p4, ?_⟩
  replace h : EV F f 143 z143 11 [some (rf 11 (0)), some (.inl (x1)), none, none] [.inr (.inr (v1))] σ (w, σ') := h
  replace h := ei_p h rfl rfl rfl rfl
  obtain ⟨f, g, h⟩ := h
  clear g
  replace h : EV F f 143 z143 12 [some (rf 11 (0)), some (.inl (x1)), some (.inr (.inr (v1))), none] [] σ (w, σ') := h
  replace h := ei_p h rfl rfl rfl rfl
  obtain ⟨f, g, h⟩ := h
  clear g
  replace h : EV F f 143 z143 13 [some (rf 11 (0)), some (.inl (x1)), some (.inr (.inr (v1))), none] [.inr (.inr (v1))] σ (w, σ') := h
  rcases r_cs (v1) with e5 | ⟨q6, e5⟩
  · skip
    rw [e5] at h
    refine Or.inl ⟨e5, ?_⟩
    replace h : EV F f 143 z143 13 [some (rf 11 (0)), some (.inl (x1)), some (.inr (.inr none)), none] [.inr (.inr none)] σ (w, σ') := h
    replace h := ei_c h rfl rfl rfl
    rcases h with ⟨hp7, f, g, h⟩ | ⟨hp7, f, g, h⟩
    · exact absurd rfl hp7
    · skip
      clear g
      replace h : EV F f 143 z143 16 [some (rf 11 (0)), some (.inl (x1)), some (.inr (.inr none)), none] [] σ (w, σ') := h
      have e := ei_thr h rfl (by decide)
      cases e
      exact ⟨rfl, rfl⟩
  · skip
    rw [e5] at h
    refine Or.inr ⟨q6, e5, ?_⟩
    replace h : EV F f 143 z143 13 [some (rf 11 (0)), some (.inl (x1)), some (.inr (.inr (some q6))), none] [.inr (.inr (some q6))] σ (w, σ') := h
    replace h := ei_c h rfl rfl rfl
    rcases h with ⟨hp8, f, g, h⟩ | ⟨hp8, f, g, h⟩
    · skip
      clear g
      replace h : EV F f 143 z143 26 [some (rf 11 (0)), some (.inl (x1)), some (.inr (.inr (some q6))), none] [] σ (w, σ') := h
      replace h := ei_p h rfl rfl rfl rfl
      obtain ⟨f, g, h⟩ := h
      clear g
      replace h : EV F f 143 z143 27 [some (rf 11 (0)), some (.inl (x1)), some (.inr (.inr (some q6))), none] [rf 11 (0)] σ (w, σ') := h
      replace h := ei_get h rfl (HS_g11_0 hs)
      obtain ⟨f, g, h⟩ := h
      clear g
      replace h : EV F f 143 z143 30 [some (rf 11 (0)), some (.inl (x1)), some (.inr (.inr (some q6))), none] [rf 4 (0)] σ (w, σ') := h
      replace h := ei_get h rfl (HS_g4_1 hs)
      obtain ⟨f, g, h⟩ := h
      clear g
      replace h : EV F f 143 z143 33 [some (rf 11 (0)), some (.inl (x1)), some (.inr (.inr (some q6))), none] [rf 2 (0)] σ (w, σ') := h
      replace h := ei_p h rfl rfl rfl rfl
      obtain ⟨f, g, h⟩ := h
      clear g
      replace h : EV F f 143 z143 34 [some (rf 11 (0)), some (.inl (x1)), some (.inr (.inr (some q6))), none] [.inr (.inr (some q6)), rf 2 (0)] σ (w, σ') := h
      replace h := bk_I (ei_v (as := [.inr (.inr (some q6))]) h rfl rfl rfl) rfl z33_at (Or.inr rfl)
      obtain ⟨v9, σ10, r11, f, g, h⟩ := h
      clear g
      have er11 := ro_run rfl r11
      rw [er11] at h r11
      have p12 := x33 hs r11
      refine ⟨v9, p12, ?_⟩
      replace h : EV F f 143 z143 37 [some (rf 11 (0)), some (.inl (x1)), some (.inr (.inr (some q6))), none] [.inl (v9)] σ (w, σ') := h
      replace h := bx_0 (ei_s (as := [.inl (v9)]) h rfl (Nat.le_of_ble_eq_true rfl) rfl rfl) z162_at rfl
      rcases h with ⟨σ14, r15, f, g, h⟩ | ⟨b, σ14, r15, e⟩
      · skip
        clear g
        have p16 := x162 hs r15
        have hsσ14 : HS σ14 := HS_run rfl r15 hs
        refine Or.inl ⟨σ14, fw_run W162 rfl r15, p16, ?_⟩
        replace h : EV F f 143 z143 40 [some (rf 11 (0)), some (.inl (x1)), some (.inr (.inr (some q6))), none] [] σ14 (w, σ') := h
        replace h := ei_new h rfl (by decide)
        obtain ⟨f, g, h⟩ := h
        clear g
        obtain ⟨σ17, e18⟩ : ∃ s, s = m_nu σ14 1 0 := ⟨_, rfl⟩
        rw [← e18] at h
        have hsσ17 : HS σ17 := by rw [e18]; exact HS_nu hsσ14 (by decide)
        refine ⟨σ17, e18, ?_⟩
        replace h : EV F f 143 z143 43 [some (rf 11 (0)), some (.inl (x1)), some (.inr (.inr (some q6))), none] [rf 1 (σ14.1 1)] σ17 (w, σ') := h
        replace h := ei_p h rfl rfl rfl rfl
        obtain ⟨f, g, h⟩ := h
        clear g
        replace h : EV F f 143 z143 44 [some (rf 11 (0)), some (.inl (x1)), some (.inr (.inr (some q6))), none] [rf 1 (σ14.1 1), rf 1 (σ14.1 1)] σ17 (w, σ') := h
        replace h := ei_p h rfl rfl rfl rfl
        obtain ⟨f, g, h⟩ := h
        clear g
        replace h : EV F f 143 z143 46 [some (rf 11 (0)), some (.inl (x1)), some (.inr (.inr (some q6))), none] [.inl (Int32.ofInt 12), rf 1 (σ14.1 1), rf 1 (σ14.1 1)] σ17 (w, σ') := h
        replace h := ei_p h rfl rfl rfl rfl
        obtain ⟨f, g, h⟩ := h
        clear g
        replace h : EV F f 143 z143 47 [some (rf 11 (0)), some (.inl (x1)), some (.inr (.inr (some q6))), none] [.inl (x1), .inl (Int32.ofInt 12), rf 1 (σ14.1 1), rf 1 (σ14.1 1)] σ17 (w, σ') := h
        replace h := ei_p h rfl rfl rfl rfl
        obtain ⟨f, g, h⟩ := h
        clear g
        replace h : EV F f 143 z143 48 [some (rf 11 (0)), some (.inl (x1)), some (.inr (.inr (some q6))), none] [.inl (Int32.ofInt 0), .inl (x1), .inl (Int32.ofInt 12), rf 1 (σ14.1 1), rf 1 (σ14.1 1)] σ17 (w, σ') := h
        replace h := ei_p h rfl rfl rfl rfl
        obtain ⟨f, g, h⟩ := h
        clear g
        replace h : EV F f 143 z143 49 [some (rf 11 (0)), some (.inl (x1)), some (.inr (.inr (some q6))), none] [.inl (Int32.ofInt 0), .inl (Int32.ofInt 0), .inl (x1), .inl (Int32.ofInt 12), rf 1 (σ14.1 1), rf 1 (σ14.1 1)] σ17 (w, σ') := h
        replace h := bk_0 (ei_x (as := [.inl (Int32.ofInt 0), .inl (Int32.ofInt 0), .inl (x1), .inl (Int32.ofInt 12)]) h rfl rfl rfl) rfl z18_at rfl
        obtain ⟨σ20, r21, f, g, h⟩ := h
        clear g
        have p22 := x18 hsσ17 r21
        have hsσ20 : HS σ20 := HS_run rfl r21 hsσ17
        refine ⟨σ20, fw_run W18 rfl r21, p22, ?_⟩
        replace h : EV F f 143 z143 52 [some (rf 11 (0)), some (.inl (x1)), some (.inr (.inr (some q6))), none] [rf 1 (σ14.1 1)] σ20 (w, σ') := h
        replace h := ei_p h rfl rfl rfl rfl
        obtain ⟨f, g, h⟩ := h
        clear g
        replace h : EV F f 143 z143 53 [some (rf 11 (0)), some (.inl (x1)), some (.inr (.inr (some q6))), some (rf 1 (σ14.1 1))] [] σ20 (w, σ') := h
        replace h := ei_p h rfl rfl rfl rfl
        obtain ⟨f, g, h⟩ := h
        clear g
        replace h : EV F f 143 z143 54 [some (rf 11 (0)), some (.inl (x1)), some (.inr (.inr (some q6))), some (rf 1 (σ14.1 1))] [rf 11 (0)] σ20 (w, σ') := h
        replace h := ei_p h rfl rfl rfl rfl
        obtain ⟨f, g, h⟩ := h
        clear g
        replace h : EV F f 143 z143 55 [some (rf 11 (0)), some (.inl (x1)), some (.inr (.inr (some q6))), some (rf 1 (σ14.1 1))] [rf 1 (σ14.1 1), rf 11 (0)] σ20 (w, σ') := h
        replace h := ei_p h rfl rfl rfl rfl
        obtain ⟨f, g, h⟩ := h
        clear g
        replace h : EV F f 143 z143 56 [some (rf 11 (0)), some (.inl (x1)), some (.inr (.inr (some q6))), some (rf 1 (σ14.1 1))] [rf 11 (0), rf 1 (σ14.1 1), rf 11 (0)] σ20 (w, σ') := h
        replace h := ei_get h rfl (HS_g11_0 hsσ20)
        obtain ⟨f, g, h⟩ := h
        clear g
        replace h : EV F f 143 z143 59 [some (rf 11 (0)), some (.inl (x1)), some (.inr (.inr (some q6))), some (rf 1 (σ14.1 1))] [rf 4 (0), rf 1 (σ14.1 1), rf 11 (0)] σ20 (w, σ') := h
        replace h := ei_p h rfl rfl rfl rfl
        obtain ⟨f, g, h⟩ := h
        clear g
        replace h : EV F f 143 z143 60 [some (rf 11 (0)), some (.inl (x1)), some (.inr (.inr (some q6))), some (rf 1 (σ14.1 1))] [rf 1 (σ14.1 1), rf 4 (0), rf 1 (σ14.1 1), rf 11 (0)] σ20 (w, σ') := h
        replace h := bk_L (ei_v (as := [rf 1 (σ14.1 1)]) h rfl rfl rfl) rfl z61_at rfl
        obtain ⟨v23, σ24, r25, f, g, h⟩ := h
        clear g
        have p26 := x61 hsσ20 r25
        have hsσ24 : HS σ24 := HS_run rfl r25 hsσ20
        refine ⟨v23, σ24, fw_run W61 rfl r25, p26, ?_⟩
        replace h : EV F f 143 z143 63 [some (rf 11 (0)), some (.inl (x1)), some (.inr (.inr (some q6))), some (rf 1 (σ14.1 1))] [.inr (.inl (v23)), rf 1 (σ14.1 1), rf 11 (0)] σ24 (w, σ') := h
        replace h := bk_L (ei_v (as := [.inr (.inl (v23)), rf 1 (σ14.1 1)]) h rfl rfl rfl) rfl z158_at rfl
        obtain ⟨v27, σ28, r29, f, g, h⟩ := h
        clear g
        have p30 := x158 hsσ24 r29
        have hsσ28 : HS σ28 := HS_run rfl r29 hsσ24
        refine ⟨v27, σ28, fw_run W158 rfl r29, p30, ?_⟩
        replace h : EV F f 143 z143 66 [some (rf 11 (0)), some (.inl (x1)), some (.inr (.inr (some q6))), some (rf 1 (σ14.1 1))] [.inr (.inl (v27))] σ28 (w, σ') := h
        replace h := ei_p h rfl rfl rfl rfl
        obtain ⟨f, g, h⟩ := h
        clear g
        replace h : EV F f 143 z143 67 [some (rf 11 (0)), some (.inl (x1)), some (.inr (.inr (some q6))), some (rf 1 (σ14.1 1))] [] σ28 (w, σ') := h
        have e := ei_ret h rfl
        cases e
        exact ⟨rfl, rfl⟩
      · skip
        have p16 := x162 hs r15
        cases e
        exact Or.inr ⟨b, p16, rfl⟩
    · exact absurd (fun z => by cases z) hp8
def z144 : mAl := ((yX11_position, cX11_position, 4, (some .long), { frames := 6, cells := 1, slots := 6, locals := 90 }, []), rw_X11_position, false)
theorem z144_at : m_alF[144]? = some z144 := rfl
abbrev L144 : List (Nat × Nat) := []
abbrev w144 : Nat → Nat → Bool := wl L144
def S144 : List Nat := [22, 23, 90, 144, 163, 166]
theorem W144 : fw_S w144 S144 = true := by decide +kernel
def J144_23 (τ : mS) (w : mX) (σ' : mS) : Prop := (w = .inr 0 ∧ σ' = τ)
theorem j144_23 {F f : Nat} {σ' τ : mS} {y0 : Option mV} {y1 : Option mV} {y2 : Option mV} {y3 : Option mV} {w : mX} (hsτ : HS τ) (h : EV F f 144 z144 23 [y0, y1, y2, y3] [] τ (w, σ')) : J144_23 τ w σ' := by
  unfold J144_23
  have e := ei_thr h rfl (by decide)
  cases e
  exact ⟨rfl, rfl⟩
def P144 (σ : mS) (x1 : Int32) (x2 : Int32) (w : mX) (σ' : mS) : Prop := ∃ v1, P23 σ (x1) v1 ∧ ((v1 = none ∧ J144_23 σ w σ') ∨ (∃ q6, v1 = some q6 ∧ ∃ v9, P166 σ (x2) v9 ∧ (((v9).toInt ≠ (0 : Int) ∧ ∃ i14, (some q6 : mR) = some (6, i14) ∧ ∃ v16, P90 σ (i14) (x2) v16 ∧ w = .inl (some (.inr (.inl (v16)))) ∧ σ' = σ) ∨ (¬ ((v9).toInt ≠ (0 : Int)) ∧ J144_23 σ w σ'))))
theorem x144 {σ σ' : mS} {x1 : Int32} {x2 : Int32} {w : mX} (hs : HS σ) (h : ev_run sm_all 144 [rf 11 (0), .inl (x1), .inl (x2)] σ (w) σ') : P144 σ x1 x2 w σ' := by
  unfold P144
  obtain ⟨F, f, h⟩ := ei_go h z144_at
  replace h : EV F f 144 z144 0 [some (rf 11 (0)), some (.inl (x1)), some (.inl (x2)), none] [] σ (w, σ') := h
  replace h := ei_p h rfl rfl rfl rfl
  obtain ⟨f, g, h⟩ := h
  clear g
  replace h : EV F f 144 z144 1 [some (rf 11 (0)), some (.inl (x1)), some (.inl (x2)), none] [rf 11 (0)] σ (w, σ') := h
  replace h := ei_get h rfl (HS_g11_0 hs)
  obtain ⟨f, g, h⟩ := h
  clear g
  replace h : EV F f 144 z144 4 [some (rf 11 (0)), some (.inl (x1)), some (.inl (x2)), none] [rf 4 (0)] σ (w, σ') := h
  replace h := ei_get h rfl (HS_g4_1 hs)
  obtain ⟨f, g, h⟩ := h
  clear g
  replace h : EV F f 144 z144 7 [some (rf 11 (0)), some (.inl (x1)), some (.inl (x2)), none] [rf 2 (0)] σ (w, σ') := h
  replace h := ei_p h rfl rfl rfl rfl
  obtain ⟨f, g, h⟩ := h
  clear g
  replace h : EV F f 144 z144 8 [some (rf 11 (0)), some (.inl (x1)), some (.inl (x2)), none] [.inl (x1), rf 2 (0)] σ (w, σ') := h
  replace h := bk_R (ei_v (as := [.inl (x1)]) h rfl rfl rfl) rfl z23_at rfl
  obtain ⟨v1, σ2, r3, f, g, h⟩ := h
  clear g
  have er3 := ro_run rfl r3
  rw [er3] at h r3
  have p4 := x23 hs r3
  refine ⟨v1, p4, ?_⟩
  replace h : EV F f 144 z144 11 [some (rf 11 (0)), some (.inl (x1)), some (.inl (x2)), none] [.inr (.inr (v1))] σ (w, σ') := h
  replace h := ei_p h rfl rfl rfl rfl
  obtain ⟨f, g, h⟩ := h
  clear g
  replace h : EV F f 144 z144 12 [some (rf 11 (0)), some (.inl (x1)), some (.inl (x2)), some (.inr (.inr (v1)))] [] σ (w, σ') := h
  replace h := ei_p h rfl rfl rfl rfl
  obtain ⟨f, g, h⟩ := h
  clear g
  replace h : EV F f 144 z144 13 [some (rf 11 (0)), some (.inl (x1)), some (.inl (x2)), some (.inr (.inr (v1)))] [.inr (.inr (v1))] σ (w, σ') := h
  rcases r_cs (v1) with e5 | ⟨q6, e5⟩
  · skip
    rw [e5] at h
    refine Or.inl ⟨e5, ?_⟩
    replace h : EV F f 144 z144 13 [some (rf 11 (0)), some (.inl (x1)), some (.inl (x2)), some (.inr (.inr none))] [.inr (.inr none)] σ (w, σ') := h
    replace h := ei_c h rfl rfl rfl
    rcases h with ⟨hp7, f, g, h⟩ | ⟨hp7, f, g, h⟩
    · skip
      clear g
      replace h : EV F f 144 z144 23 [some (rf 11 (0)), some (.inl (x1)), some (.inl (x2)), some (.inr (.inr none))] [] σ (w, σ') := h
      exact j144_23 hs h
    · exact absurd rfl hp7
  · skip
    rw [e5] at h
    refine Or.inr ⟨q6, e5, ?_⟩
    replace h : EV F f 144 z144 13 [some (rf 11 (0)), some (.inl (x1)), some (.inl (x2)), some (.inr (.inr (some q6)))] [.inr (.inr (some q6))] σ (w, σ') := h
    replace h := ei_c h rfl rfl rfl
    rcases h with ⟨hp8, f, g, h⟩ | ⟨hp8, f, g, h⟩
    · exact absurd hp8 (fun z => by cases z)
    · skip
      clear g
      replace h : EV F f 144 z144 16 [some (rf 11 (0)), some (.inl (x1)), some (.inl (x2)), some (.inr (.inr (some q6)))] [] σ (w, σ') := h
      replace h := ei_p h rfl rfl rfl rfl
      obtain ⟨f, g, h⟩ := h
      clear g
      replace h : EV F f 144 z144 17 [some (rf 11 (0)), some (.inl (x1)), some (.inl (x2)), some (.inr (.inr (some q6)))] [.inl (x2)] σ (w, σ') := h
      replace h := bk_I (ei_s (as := [.inl (x2)]) h rfl (Nat.le_of_ble_eq_true rfl) rfl rfl) rfl z166_at (Or.inr rfl)
      obtain ⟨v9, σ10, r11, f, g, h⟩ := h
      clear g
      have er11 := ro_run rfl r11
      rw [er11] at h r11
      have p12 := x166 hs r11
      refine ⟨v9, p12, ?_⟩
      replace h : EV F f 144 z144 20 [some (rf 11 (0)), some (.inl (x1)), some (.inl (x2)), some (.inr (.inr (some q6)))] [.inl (v9)] σ (w, σ') := h
      replace h := ei_c h rfl rfl rfl
      rcases h with ⟨hp13, f, g, h⟩ | ⟨hp13, f, g, h⟩
      · skip
        replace hp13 : (v9).toInt ≠ (0 : Int) := ic_ne.mp hp13
        refine Or.inl ⟨hp13, ?_⟩
        clear g
        replace h : EV F f 144 z144 33 [some (rf 11 (0)), some (.inl (x1)), some (.inl (x2)), some (.inr (.inr (some q6)))] [] σ (w, σ') := h
        replace h := ei_p h rfl rfl rfl rfl
        obtain ⟨f, g, h⟩ := h
        clear g
        replace h : EV F f 144 z144 34 [some (rf 11 (0)), some (.inl (x1)), some (.inl (x2)), some (.inr (.inr (some q6)))] [.inr (.inr (some q6))] σ (w, σ') := h
        replace h := ei_p h rfl rfl rfl rfl
        obtain ⟨f, g, h⟩ := h
        clear g
        replace h : EV F f 144 z144 35 [some (rf 11 (0)), some (.inl (x1)), some (.inl (x2)), some (.inr (.inr (some q6)))] [.inl (x2), .inr (.inr (some q6))] σ (w, σ') := h
        obtain ⟨i14, e15⟩ := ei_vp (as := [.inl (x2)]) h rfl rfl
        rw [Option.some.inj e15] at h
        refine ⟨i14, e15, ?_⟩
        replace h : EV F f 144 z144 35 [some (rf 11 (0)), some (.inl (x1)), some (.inl (x2)), some (rf 6 (i14))] [.inl (x2), rf 6 (i14)] σ (w, σ') := h
        replace h := bk_L (ei_v (as := [.inl (x2)]) h rfl rfl rfl) rfl z90_at rfl
        obtain ⟨v16, σ17, r18, f, g, h⟩ := h
        clear g
        have er18 := ro_run rfl r18
        rw [er18] at h r18
        have p19 := x90 hs r18
        refine ⟨v16, p19, ?_⟩
        replace h : EV F f 144 z144 38 [some (rf 11 (0)), some (.inl (x1)), some (.inl (x2)), some (rf 6 (i14))] [.inr (.inl (v16))] σ (w, σ') := h
        have e := ei_lret h rfl
        cases e
        exact ⟨rfl, rfl⟩
      · skip
        replace hp13 : ¬ ((v9).toInt ≠ (0 : Int)) := (not_congr ic_ne).mp hp13
        refine Or.inr ⟨hp13, ?_⟩
        clear g
        replace h : EV F f 144 z144 23 [some (rf 11 (0)), some (.inl (x1)), some (.inl (x2)), some (.inr (.inr (some q6)))] [] σ (w, σ') := h
        exact j144_23 hs h
def z145 : mAl := ((yX11_money, cX11_money, 4, (some .long), { frames := 7, cells := 2, slots := 12, locals := 110 }, []), rw_X11_money, false)
theorem z145_at : m_alF[145]? = some z145 := rfl
abbrev L145 : List (Nat × Nat) := []
abbrev w145 : Nat → Nat → Bool := wl L145
def S145 : List Nat := [22, 23, 94, 145, 161, 163]
theorem W145 : fw_S w145 S145 = true := by decide +kernel
def P145 (σ : mS) (x1 : Int32) (x2 : Int32) (w : mX) (σ' : mS) : Prop := ∃ v1, P23 σ (x1) v1 ∧ ((v1 = none ∧ (w = .inr 0 ∧ σ' = σ)) ∨ (∃ q6, v1 = some q6 ∧ ∃ v9, P163 σ (x2) (Int32.ofInt 0) (Int32.ofInt 2) v9 ∧ ((∃ σ14, fw_e w161 σ σ14 ∧ P161 σ (v9) (.inl none) σ14 ∧ ∃ i17, (some q6 : mR) = some (6, i17) ∧ ∃ v19, P94 σ14 (i17) (x2) v19 ∧ w = .inl (some (.inr (.inl (v19)))) ∧ σ' = σ14) ∨ (∃ b, P161 σ (v9) (.inr b) σ' ∧ w = .inr b))))
theorem x145 {σ σ' : mS} {x1 : Int32} {x2 : Int32} {w : mX} (hs : HS σ) (h : ev_run sm_all 145 [rf 11 (0), .inl (x1), .inl (x2)] σ (w) σ') : P145 σ x1 x2 w σ' := by
  unfold P145
  obtain ⟨F, f, h⟩ := ei_go h z145_at
  replace h : EV F f 145 z145 0 [some (rf 11 (0)), some (.inl (x1)), some (.inl (x2)), none] [] σ (w, σ') := h
  replace h := ei_p h rfl rfl rfl rfl
  obtain ⟨f, g, h⟩ := h
  clear g
  replace h : EV F f 145 z145 1 [some (rf 11 (0)), some (.inl (x1)), some (.inl (x2)), none] [rf 11 (0)] σ (w, σ') := h
  replace h := ei_get h rfl (HS_g11_0 hs)
  obtain ⟨f, g, h⟩ := h
  clear g
  replace h : EV F f 145 z145 4 [some (rf 11 (0)), some (.inl (x1)), some (.inl (x2)), none] [rf 4 (0)] σ (w, σ') := h
  replace h := ei_get h rfl (HS_g4_1 hs)
  obtain ⟨f, g, h⟩ := h
  clear g
  replace h : EV F f 145 z145 7 [some (rf 11 (0)), some (.inl (x1)), some (.inl (x2)), none] [rf 2 (0)] σ (w, σ') := h
  replace h := ei_p h rfl rfl rfl rfl
  obtain ⟨f, g, h⟩ := h
  clear g
  replace h : EV F f 145 z145 8 [some (rf 11 (0)), some (.inl (x1)), some (.inl (x2)), none] [.inl (x1), rf 2 (0)] σ (w, σ') := h
  replace h := bk_R (ei_v (as := [.inl (x1)]) h rfl rfl rfl) rfl z23_at rfl
  obtain ⟨v1, σ2, r3, f, g, h⟩ := h
  clear g
  have er3 := ro_run rfl r3
  rw [er3] at h r3
  have p4 := x23 hs r3
  refine ⟨v1, p4, ?_⟩
  replace h : EV F f 145 z145 11 [some (rf 11 (0)), some (.inl (x1)), some (.inl (x2)), none] [.inr (.inr (v1))] σ (w, σ') := h
  replace h := ei_p h rfl rfl rfl rfl
  obtain ⟨f, g, h⟩ := h
  clear g
  replace h : EV F f 145 z145 12 [some (rf 11 (0)), some (.inl (x1)), some (.inl (x2)), some (.inr (.inr (v1)))] [] σ (w, σ') := h
  replace h := ei_p h rfl rfl rfl rfl
  obtain ⟨f, g, h⟩ := h
  clear g
  replace h : EV F f 145 z145 13 [some (rf 11 (0)), some (.inl (x1)), some (.inl (x2)), some (.inr (.inr (v1)))] [.inr (.inr (v1))] σ (w, σ') := h
  rcases r_cs (v1) with e5 | ⟨q6, e5⟩
  · skip
    rw [e5] at h
    refine Or.inl ⟨e5, ?_⟩
    replace h : EV F f 145 z145 13 [some (rf 11 (0)), some (.inl (x1)), some (.inl (x2)), some (.inr (.inr none))] [.inr (.inr none)] σ (w, σ') := h
    replace h := ei_c h rfl rfl rfl
    rcases h with ⟨hp7, f, g, h⟩ | ⟨hp7, f, g, h⟩
    · exact absurd rfl hp7
    · skip
      clear g
      replace h : EV F f 145 z145 16 [some (rf 11 (0)), some (.inl (x1)), some (.inl (x2)), some (.inr (.inr none))] [] σ (w, σ') := h
      have e := ei_thr h rfl (by decide)
      cases e
      exact ⟨rfl, rfl⟩
  · skip
    rw [e5] at h
    refine Or.inr ⟨q6, e5, ?_⟩
    replace h : EV F f 145 z145 13 [some (rf 11 (0)), some (.inl (x1)), some (.inl (x2)), some (.inr (.inr (some q6)))] [.inr (.inr (some q6))] σ (w, σ') := h
    replace h := ei_c h rfl rfl rfl
    rcases h with ⟨hp8, f, g, h⟩ | ⟨hp8, f, g, h⟩
    · skip
      clear g
      replace h : EV F f 145 z145 26 [some (rf 11 (0)), some (.inl (x1)), some (.inl (x2)), some (.inr (.inr (some q6)))] [] σ (w, σ') := h
      replace h := ei_p h rfl rfl rfl rfl
      obtain ⟨f, g, h⟩ := h
      clear g
      replace h : EV F f 145 z145 27 [some (rf 11 (0)), some (.inl (x1)), some (.inl (x2)), some (.inr (.inr (some q6)))] [.inl (x2)] σ (w, σ') := h
      replace h := ei_p h rfl rfl rfl rfl
      obtain ⟨f, g, h⟩ := h
      clear g
      replace h : EV F f 145 z145 28 [some (rf 11 (0)), some (.inl (x1)), some (.inl (x2)), some (.inr (.inr (some q6)))] [.inl (Int32.ofInt 0), .inl (x2)] σ (w, σ') := h
      replace h := ei_p h rfl rfl rfl rfl
      obtain ⟨f, g, h⟩ := h
      clear g
      replace h : EV F f 145 z145 29 [some (rf 11 (0)), some (.inl (x1)), some (.inl (x2)), some (.inr (.inr (some q6)))] [.inl (Int32.ofInt 2), .inl (Int32.ofInt 0), .inl (x2)] σ (w, σ') := h
      replace h := bk_I (ei_s (as := [.inl (Int32.ofInt 2), .inl (Int32.ofInt 0), .inl (x2)]) h rfl (Nat.le_of_ble_eq_true rfl) rfl rfl) rfl z163_at (Or.inr rfl)
      obtain ⟨v9, σ10, r11, f, g, h⟩ := h
      clear g
      have er11 := ro_run rfl r11
      rw [er11] at h r11
      have p12 := x163 hs r11
      refine ⟨v9, p12, ?_⟩
      replace h : EV F f 145 z145 32 [some (rf 11 (0)), some (.inl (x1)), some (.inl (x2)), some (.inr (.inr (some q6)))] [.inl (v9)] σ (w, σ') := h
      replace h := bx_0 (ei_s (as := [.inl (v9)]) h rfl (Nat.le_of_ble_eq_true rfl) rfl rfl) z161_at rfl
      rcases h with ⟨σ14, r15, f, g, h⟩ | ⟨b, σ14, r15, e⟩
      · skip
        clear g
        have p16 := x161 hs r15
        have hsσ14 : HS σ14 := HS_run rfl r15 hs
        refine Or.inl ⟨σ14, fw_run W161 rfl r15, p16, ?_⟩
        replace h : EV F f 145 z145 35 [some (rf 11 (0)), some (.inl (x1)), some (.inl (x2)), some (.inr (.inr (some q6)))] [] σ14 (w, σ') := h
        replace h := ei_p h rfl rfl rfl rfl
        obtain ⟨f, g, h⟩ := h
        clear g
        replace h : EV F f 145 z145 36 [some (rf 11 (0)), some (.inl (x1)), some (.inl (x2)), some (.inr (.inr (some q6)))] [.inr (.inr (some q6))] σ14 (w, σ') := h
        replace h := ei_p h rfl rfl rfl rfl
        obtain ⟨f, g, h⟩ := h
        clear g
        replace h : EV F f 145 z145 37 [some (rf 11 (0)), some (.inl (x1)), some (.inl (x2)), some (.inr (.inr (some q6)))] [.inl (x2), .inr (.inr (some q6))] σ14 (w, σ') := h
        obtain ⟨i17, e18⟩ := ei_vp (as := [.inl (x2)]) h rfl rfl
        rw [Option.some.inj e18] at h
        refine ⟨i17, e18, ?_⟩
        replace h : EV F f 145 z145 37 [some (rf 11 (0)), some (.inl (x1)), some (.inl (x2)), some (rf 6 (i17))] [.inl (x2), rf 6 (i17)] σ14 (w, σ') := h
        replace h := bk_L (ei_v (as := [.inl (x2)]) h rfl rfl rfl) rfl z94_at rfl
        obtain ⟨v19, σ20, r21, f, g, h⟩ := h
        clear g
        have er21 := ro_run rfl r21
        rw [er21] at h r21
        have p22 := x94 hsσ14 r21
        refine ⟨v19, p22, ?_⟩
        replace h : EV F f 145 z145 40 [some (rf 11 (0)), some (.inl (x1)), some (.inl (x2)), some (rf 6 (i17))] [.inr (.inl (v19))] σ14 (w, σ') := h
        have e := ei_lret h rfl
        cases e
        exact ⟨rfl, rfl⟩
      · skip
        have p16 := x161 hs r15
        cases e
        exact Or.inr ⟨b, p16, rfl⟩
    · exact absurd (fun z => by cases z) hp8
def z169 : mAl := ((yX11_isPercent, cX11_isPercent, 1, (some .boolean), { frames := 1, cells := 0, slots := 0, locals := 22 }, []), rw_X11_isPercent, false)
theorem z169_at : m_alF[169]? = some z169 := rfl
def P169 (σ : mS) (x1 : Int32) (w : Int32) : Prop := ∃ v1, P163 σ (x1) (Int32.ofInt (-50)) (Int32.ofInt 50) v1 ∧ w = (v1)
theorem x169 {σ σ' : mS} {x1 : Int32} {w : Int32} (hs : HS σ) (h : ev_run sm_all 169 [.inl (x1)] σ (.inl (some (.inl w))) σ') : P169 σ x1 w := by
  unfold P169
  obtain ⟨F, f, h⟩ := ei_go h z169_at
  replace h : EV F f 169 z169 0 [some (.inl (x1))] [] σ (.inl (some (.inl w)), σ') := h
  replace h := ei_p h rfl rfl rfl rfl
  obtain ⟨f, g, h⟩ := h
  clear g
  replace h : EV F f 169 z169 1 [some (.inl (x1))] [.inl (x1)] σ (.inl (some (.inl w)), σ') := h
  replace h := ei_p h rfl rfl rfl rfl
  obtain ⟨f, g, h⟩ := h
  clear g
  replace h : EV F f 169 z169 3 [some (.inl (x1))] [.inl (Int32.ofInt (-50)), .inl (x1)] σ (.inl (some (.inl w)), σ') := h
  replace h := ei_p h rfl rfl rfl rfl
  obtain ⟨f, g, h⟩ := h
  clear g
  replace h : EV F f 169 z169 5 [some (.inl (x1))] [.inl (Int32.ofInt 50), .inl (Int32.ofInt (-50)), .inl (x1)] σ (.inl (some (.inl w)), σ') := h
  replace h := bk_I (ei_s (as := [.inl (Int32.ofInt 50), .inl (Int32.ofInt (-50)), .inl (x1)]) h rfl (Nat.le_of_ble_eq_true rfl) rfl rfl) rfl z163_at (Or.inr rfl)
  obtain ⟨v1, σ2, r3, f, g, h⟩ := h
  clear g
  have er3 := ro_run rfl r3
  rw [er3] at h r3
  have p4 := x163 hs r3
  refine ⟨v1, p4, ?_⟩
  replace h : EV F f 169 z169 8 [some (.inl (x1))] [.inl (v1)] σ (.inl (some (.inl w)), σ') := h
  have e := ei_iret h rfl
  cases e
  exact rfl
