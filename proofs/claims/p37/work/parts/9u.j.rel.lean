/-! the class's methods as relations: 125 fund, 166 isInstrument, 167 isSide, 168 isPrice, 170 isOrder, 126 order, 127 stop, 128 tie, 129 cancel, 130 spread -/
def z125 : mAl := ((yX11_fund, cX11_fund, 4, (some .long), { frames := 7, cells := 4, slots := 27, locals := 190 }, []), rw_X11_fund, false)
theorem z125_at : m_alF[125]? = some z125 := rfl
abbrev L125 : List (Nat × Nat) := [(0, 1), (0, 2), (1, 0), (1, 1), (1, 2), (1, 3), (1, 4), (1, 5), (1, 6), (1, 7), (1, 8), (1, 9), (1, 10), (1, 11), (1, 12), (1, 13), (1, 14), (1, 15), (2, 5), (2, 6), (2, 7), (2, 8), (2, 9), (2, 10), (3, 3), (3, 4), (3, 5), (5, 2), (6, 2), (6, 3), (6, 4), (6, 5), (6, 6), (6, 7), (6, 8), (6, 9), (6, 10), (7, 1), (7, 2), (7, 3), (7, 4), (7, 5), (7, 6), (7, 7), (7, 8), (7, 9), (7, 10), (7, 11), (7, 12), (8, 1), (8, 2), (8, 3), (8, 4), (8, 5), (8, 6), (8, 7), (8, 8), (10, 0), (10, 1), (10, 2), (10, 3), (10, 4), (10, 5), (10, 6), (10, 7), (10, 8), (10, 9), (11, 3), (11, 4), (11, 5), (13, 0), (14, 0)]
abbrev w125 : Nat → Nat → Bool := wl L125
def S125 : List Nat := [3, 4, 5, 6, 8, 9, 10, 11, 12, 13, 14, 15, 16, 18, 22, 23, 24, 25, 26, 27, 28, 29, 30, 31, 32, 34, 35, 36, 37, 38, 39, 40, 41, 42, 43, 44, 45, 46, 47, 48, 51, 53, 54, 61, 62, 63, 64, 65, 66, 67, 68, 69, 70, 71, 72, 73, 74, 75, 76, 78, 79, 80, 81, 82, 83, 85, 86, 90, 91, 92, 95, 99, 100, 102, 103, 104, 105, 106, 107, 112, 113, 114, 115, 116, 117, 125, 158, 159, 160, 161, 162, 163, 164, 165, 190]
theorem W125 : fw_S w125 S125 = true := by decide +kernel
def J125_36 (u1 : Int32) (u2 : Int32) (t0 : Int32) (τ : mS) (w : mX) (σ' : mS) : Prop := ((∃ σ2, fw_e w162 τ σ2 ∧ P162 τ (t0) (.inl none) σ2 ∧ ∃ σ5, σ5 = m_nu σ2 1 0 ∧ ∃ σ8, fw_e w18 σ5 σ8 ∧ P18 σ5 (σ2.1 1) (Int32.ofInt 1) (u1) (u2) (Int32.ofInt 0) σ8 ∧ ∃ v11 σ12, fw_e w61 σ8 σ12 ∧ P61 σ8 (some (1, σ2.1 1)) v11 σ12 ∧ ∃ v15 σ16, fw_e w158 σ12 σ16 ∧ P158 σ12 (some (1, σ2.1 1)) (v11) v15 σ16 ∧ w = .inl (some (.inr (.inl (v15)))) ∧ σ' = σ16) ∨ (∃ b, P162 τ (t0) (.inr b) σ' ∧ w = .inr b))
theorem j125_36 {F f : Nat} {σ' τ : mS} {u1 : Int32} {u2 : Int32} {t0 : Int32} {y3 : Option mV} {w : mX} (hsτ : HS τ) (h : EV F f 125 z125 36 [some (rf 11 (0)), some (.inl (u1)), some (.inl (u2)), y3] [.inl (t0)] τ (w, σ')) : J125_36 u1 u2 t0 τ w σ' := by
  unfold J125_36
  replace h := bx_0 (ei_s (as := [.inl (t0)]) h rfl (Nat.le_of_ble_eq_true rfl) rfl rfl) z162_at rfl
  rcases h with ⟨σ2, r3, f, g, h⟩ | ⟨b, σ2, r3, e⟩
  · skip
    clear g
    have p4 := x162 hsτ r3
    have hsσ2 : HS σ2 := HS_run rfl r3 hsτ
    refine Or.inl ⟨σ2, fw_run W162 rfl r3, p4, ?_⟩
    replace h : EV F f 125 z125 39 [some (rf 11 (0)), some (.inl (u1)), some (.inl (u2)), y3] [] σ2 (w, σ') := h
    replace h := ei_new h rfl (by decide)
    obtain ⟨f, g, h⟩ := h
    clear g
    obtain ⟨σ5, e6⟩ : ∃ s, s = m_nu σ2 1 0 := ⟨_, rfl⟩
    rw [← e6] at h
    have hsσ5 : HS σ5 := by rw [e6]; exact HS_nu hsσ2 (by decide)
    refine ⟨σ5, e6, ?_⟩
    replace h : EV F f 125 z125 42 [some (rf 11 (0)), some (.inl (u1)), some (.inl (u2)), y3] [rf 1 (σ2.1 1)] σ5 (w, σ') := h
    replace h := ei_p h rfl rfl rfl rfl
    obtain ⟨f, g, h⟩ := h
    clear g
    replace h : EV F f 125 z125 43 [some (rf 11 (0)), some (.inl (u1)), some (.inl (u2)), y3] [rf 1 (σ2.1 1), rf 1 (σ2.1 1)] σ5 (w, σ') := h
    replace h := ei_p h rfl rfl rfl rfl
    obtain ⟨f, g, h⟩ := h
    clear g
    replace h : EV F f 125 z125 44 [some (rf 11 (0)), some (.inl (u1)), some (.inl (u2)), y3] [.inl (Int32.ofInt 1), rf 1 (σ2.1 1), rf 1 (σ2.1 1)] σ5 (w, σ') := h
    replace h := ei_p h rfl rfl rfl rfl
    obtain ⟨f, g, h⟩ := h
    clear g
    replace h : EV F f 125 z125 45 [some (rf 11 (0)), some (.inl (u1)), some (.inl (u2)), y3] [.inl (u1), .inl (Int32.ofInt 1), rf 1 (σ2.1 1), rf 1 (σ2.1 1)] σ5 (w, σ') := h
    replace h := ei_p h rfl rfl rfl rfl
    obtain ⟨f, g, h⟩ := h
    clear g
    replace h : EV F f 125 z125 46 [some (rf 11 (0)), some (.inl (u1)), some (.inl (u2)), y3] [.inl (u2), .inl (u1), .inl (Int32.ofInt 1), rf 1 (σ2.1 1), rf 1 (σ2.1 1)] σ5 (w, σ') := h
    replace h := ei_p h rfl rfl rfl rfl
    obtain ⟨f, g, h⟩ := h
    clear g
    replace h : EV F f 125 z125 47 [some (rf 11 (0)), some (.inl (u1)), some (.inl (u2)), y3] [.inl (Int32.ofInt 0), .inl (u2), .inl (u1), .inl (Int32.ofInt 1), rf 1 (σ2.1 1), rf 1 (σ2.1 1)] σ5 (w, σ') := h
    replace h := bk_0 (ei_x (as := [.inl (Int32.ofInt 0), .inl (u2), .inl (u1), .inl (Int32.ofInt 1)]) h rfl rfl rfl) rfl z18_at rfl
    obtain ⟨σ8, r9, f, g, h⟩ := h
    clear g
    have p10 := x18 hsσ5 r9
    have hsσ8 : HS σ8 := HS_run rfl r9 hsσ5
    refine ⟨σ8, fw_run W18 rfl r9, p10, ?_⟩
    replace h : EV F f 125 z125 50 [some (rf 11 (0)), some (.inl (u1)), some (.inl (u2)), y3] [rf 1 (σ2.1 1)] σ8 (w, σ') := h
    replace h := ei_p h rfl rfl rfl rfl
    obtain ⟨f, g, h⟩ := h
    clear g
    replace h : EV F f 125 z125 51 [some (rf 11 (0)), some (.inl (u1)), some (.inl (u2)), some (rf 1 (σ2.1 1))] [] σ8 (w, σ') := h
    replace h := ei_p h rfl rfl rfl rfl
    obtain ⟨f, g, h⟩ := h
    clear g
    replace h : EV F f 125 z125 52 [some (rf 11 (0)), some (.inl (u1)), some (.inl (u2)), some (rf 1 (σ2.1 1))] [rf 11 (0)] σ8 (w, σ') := h
    replace h := ei_p h rfl rfl rfl rfl
    obtain ⟨f, g, h⟩ := h
    clear g
    replace h : EV F f 125 z125 53 [some (rf 11 (0)), some (.inl (u1)), some (.inl (u2)), some (rf 1 (σ2.1 1))] [rf 1 (σ2.1 1), rf 11 (0)] σ8 (w, σ') := h
    replace h := ei_p h rfl rfl rfl rfl
    obtain ⟨f, g, h⟩ := h
    clear g
    replace h : EV F f 125 z125 54 [some (rf 11 (0)), some (.inl (u1)), some (.inl (u2)), some (rf 1 (σ2.1 1))] [rf 11 (0), rf 1 (σ2.1 1), rf 11 (0)] σ8 (w, σ') := h
    replace h := ei_get h rfl (HS_g11_0 hsσ8)
    obtain ⟨f, g, h⟩ := h
    clear g
    replace h : EV F f 125 z125 57 [some (rf 11 (0)), some (.inl (u1)), some (.inl (u2)), some (rf 1 (σ2.1 1))] [rf 4 (0), rf 1 (σ2.1 1), rf 11 (0)] σ8 (w, σ') := h
    replace h := ei_p h rfl rfl rfl rfl
    obtain ⟨f, g, h⟩ := h
    clear g
    replace h : EV F f 125 z125 58 [some (rf 11 (0)), some (.inl (u1)), some (.inl (u2)), some (rf 1 (σ2.1 1))] [rf 1 (σ2.1 1), rf 4 (0), rf 1 (σ2.1 1), rf 11 (0)] σ8 (w, σ') := h
    replace h := bk_L (ei_v (as := [rf 1 (σ2.1 1)]) h rfl rfl rfl) rfl z61_at rfl
    obtain ⟨v11, σ12, r13, f, g, h⟩ := h
    clear g
    have p14 := x61 hsσ8 r13
    have hsσ12 : HS σ12 := HS_run rfl r13 hsσ8
    refine ⟨v11, σ12, fw_run W61 rfl r13, p14, ?_⟩
    replace h : EV F f 125 z125 61 [some (rf 11 (0)), some (.inl (u1)), some (.inl (u2)), some (rf 1 (σ2.1 1))] [.inr (.inl (v11)), rf 1 (σ2.1 1), rf 11 (0)] σ12 (w, σ') := h
    replace h := bk_L (ei_v (as := [.inr (.inl (v11)), rf 1 (σ2.1 1)]) h rfl rfl rfl) rfl z158_at rfl
    obtain ⟨v15, σ16, r17, f, g, h⟩ := h
    clear g
    have p18 := x158 hsσ12 r17
    have hsσ16 : HS σ16 := HS_run rfl r17 hsσ12
    refine ⟨v15, σ16, fw_run W158 rfl r17, p18, ?_⟩
    replace h : EV F f 125 z125 64 [some (rf 11 (0)), some (.inl (u1)), some (.inl (u2)), some (rf 1 (σ2.1 1))] [.inr (.inl (v15))] σ16 (w, σ') := h
    have e := ei_lret h rfl
    cases e
    exact ⟨rfl, rfl⟩
  · skip
    have p4 := x162 hsτ r3
    cases e
    exact Or.inr ⟨b, p4, rfl⟩
def P125 (σ : mS) (x1 : Int32) (x2 : Int32) (w : mX) (σ' : mS) : Prop := ∃ v1, P165 σ (x1) v1 ∧ ((∃ σ6, fw_e w160 σ σ6 ∧ P160 σ (v1) (.inl none) σ6 ∧ ∃ v9, P163 σ6 (x2) (Int32.ofInt 1) (Int32.ofInt 1000000) v9 ∧ ((∃ σ14, fw_e w161 σ6 σ14 ∧ P161 σ6 (v9) (.inl none) σ14 ∧ ∃ v17, P26 σ14 (x1) v17 ∧ (((v17).toInt ≠ (0 : Int) ∧ J125_36 (x1) (x2) (Int32.ofInt 0) σ14 w σ') ∨ (¬ ((v17).toInt ≠ (0 : Int)) ∧ J125_36 (x1) (x2) (Int32.ofInt 1) σ14 w σ'))) ∨ (∃ b, P161 σ6 (v9) (.inr b) σ' ∧ w = .inr b))) ∨ (∃ b, P160 σ (v1) (.inr b) σ' ∧ w = .inr b))
theorem x125 {σ σ' : mS} {x1 : Int32} {x2 : Int32} {w : mX} (hs : HS σ) (h : ev_run sm_all 125 [rf 11 (0), .inl (x1), .inl (x2)] σ (w) σ') : P125 σ x1 x2 w σ' := by
  unfold P125
  obtain ⟨F, f, h⟩ := ei_go h z125_at
  replace h : EV F f 125 z125 0 [some (rf 11 (0)), some (.inl (x1)), some (.inl (x2)), none] [] σ (w, σ') := h
  replace h := ei_p h rfl rfl rfl rfl
  obtain ⟨f, g, h⟩ := h
  clear g
  replace h : EV F f 125 z125 1 [some (rf 11 (0)), some (.inl (x1)), some (.inl (x2)), none] [.inl (x1)] σ (w, σ') := h
  replace h := bk_I (ei_s (as := [.inl (x1)]) h rfl (Nat.le_of_ble_eq_true rfl) rfl rfl) rfl z165_at (Or.inr rfl)
  obtain ⟨v1, σ2, r3, f, g, h⟩ := h
  clear g
  have er3 := ro_run rfl r3
  rw [er3] at h r3
  have p4 := x165 hs r3
  refine ⟨v1, p4, ?_⟩
  replace h : EV F f 125 z125 4 [some (rf 11 (0)), some (.inl (x1)), some (.inl (x2)), none] [.inl (v1)] σ (w, σ') := h
  replace h := bx_0 (ei_s (as := [.inl (v1)]) h rfl (Nat.le_of_ble_eq_true rfl) rfl rfl) z160_at rfl
  rcases h with ⟨σ6, r7, f, g, h⟩ | ⟨b, σ6, r7, e⟩
  · skip
    clear g
    have p8 := x160 hs r7
    have hsσ6 : HS σ6 := HS_run rfl r7 hs
    refine Or.inl ⟨σ6, fw_run W160 rfl r7, p8, ?_⟩
    replace h : EV F f 125 z125 7 [some (rf 11 (0)), some (.inl (x1)), some (.inl (x2)), none] [] σ6 (w, σ') := h
    replace h := ei_p h rfl rfl rfl rfl
    obtain ⟨f, g, h⟩ := h
    clear g
    replace h : EV F f 125 z125 8 [some (rf 11 (0)), some (.inl (x1)), some (.inl (x2)), none] [.inl (x2)] σ6 (w, σ') := h
    replace h := ei_p h rfl rfl rfl rfl
    obtain ⟨f, g, h⟩ := h
    clear g
    replace h : EV F f 125 z125 9 [some (rf 11 (0)), some (.inl (x1)), some (.inl (x2)), none] [.inl (Int32.ofInt 1), .inl (x2)] σ6 (w, σ') := h
    replace h := ei_p h rfl rfl rfl rfl
    obtain ⟨f, g, h⟩ := h
    clear g
    replace h : EV F f 125 z125 11 [some (rf 11 (0)), some (.inl (x1)), some (.inl (x2)), none] [.inl (Int32.ofInt 1000000), .inl (Int32.ofInt 1), .inl (x2)] σ6 (w, σ') := h
    replace h := bk_I (ei_s (as := [.inl (Int32.ofInt 1000000), .inl (Int32.ofInt 1), .inl (x2)]) h rfl (Nat.le_of_ble_eq_true rfl) rfl rfl) rfl z163_at (Or.inr rfl)
    obtain ⟨v9, σ10, r11, f, g, h⟩ := h
    clear g
    have er11 := ro_run rfl r11
    rw [er11] at h r11
    have p12 := x163 hsσ6 r11
    refine ⟨v9, p12, ?_⟩
    replace h : EV F f 125 z125 14 [some (rf 11 (0)), some (.inl (x1)), some (.inl (x2)), none] [.inl (v9)] σ6 (w, σ') := h
    replace h := bx_0 (ei_s (as := [.inl (v9)]) h rfl (Nat.le_of_ble_eq_true rfl) rfl rfl) z161_at rfl
    rcases h with ⟨σ14, r15, f, g, h⟩ | ⟨b, σ14, r15, e⟩
    · skip
      clear g
      have p16 := x161 hsσ6 r15
      have hsσ14 : HS σ14 := HS_run rfl r15 hsσ6
      refine Or.inl ⟨σ14, fw_run W161 rfl r15, p16, ?_⟩
      replace h : EV F f 125 z125 17 [some (rf 11 (0)), some (.inl (x1)), some (.inl (x2)), none] [] σ14 (w, σ') := h
      replace h := ei_p h rfl rfl rfl rfl
      obtain ⟨f, g, h⟩ := h
      clear g
      replace h : EV F f 125 z125 18 [some (rf 11 (0)), some (.inl (x1)), some (.inl (x2)), none] [rf 11 (0)] σ14 (w, σ') := h
      replace h := ei_get h rfl (HS_g11_0 hsσ14)
      obtain ⟨f, g, h⟩ := h
      clear g
      replace h : EV F f 125 z125 21 [some (rf 11 (0)), some (.inl (x1)), some (.inl (x2)), none] [rf 4 (0)] σ14 (w, σ') := h
      replace h := ei_get h rfl (HS_g4_1 hsσ14)
      obtain ⟨f, g, h⟩ := h
      clear g
      replace h : EV F f 125 z125 24 [some (rf 11 (0)), some (.inl (x1)), some (.inl (x2)), none] [rf 2 (0)] σ14 (w, σ') := h
      replace h := ei_p h rfl rfl rfl rfl
      obtain ⟨f, g, h⟩ := h
      clear g
      replace h : EV F f 125 z125 25 [some (rf 11 (0)), some (.inl (x1)), some (.inl (x2)), none] [.inl (x1), rf 2 (0)] σ14 (w, σ') := h
      replace h := bk_I (ei_v (as := [.inl (x1)]) h rfl rfl rfl) rfl z26_at (Or.inr rfl)
      obtain ⟨v17, σ18, r19, f, g, h⟩ := h
      clear g
      have er19 := ro_run rfl r19
      rw [er19] at h r19
      have p20 := x26 hsσ14 r19
      refine ⟨v17, p20, ?_⟩
      replace h : EV F f 125 z125 28 [some (rf 11 (0)), some (.inl (x1)), some (.inl (x2)), none] [.inl (v17)] σ14 (w, σ') := h
      replace h := ei_c h rfl rfl rfl
      rcases h with ⟨hp21, f, g, h⟩ | ⟨hp21, f, g, h⟩
      · skip
        replace hp21 : (v17).toInt ≠ (0 : Int) := ic_ne.mp hp21
        refine Or.inl ⟨hp21, ?_⟩
        clear g
        replace h : EV F f 125 z125 35 [some (rf 11 (0)), some (.inl (x1)), some (.inl (x2)), none] [] σ14 (w, σ') := h
        replace h := ei_p h rfl rfl rfl rfl
        obtain ⟨f, g, h⟩ := h
        clear g
        replace h : EV F f 125 z125 36 [some (rf 11 (0)), some (.inl (x1)), some (.inl (x2)), none] [.inl (Int32.ofInt 0)] σ14 (w, σ') := h
        exact j125_36 hsσ14 h
      · skip
        replace hp21 : ¬ ((v17).toInt ≠ (0 : Int)) := (not_congr ic_ne).mp hp21
        refine Or.inr ⟨hp21, ?_⟩
        clear g
        replace h : EV F f 125 z125 31 [some (rf 11 (0)), some (.inl (x1)), some (.inl (x2)), none] [] σ14 (w, σ') := h
        replace h := ei_p h rfl rfl rfl rfl
        obtain ⟨f, g, h⟩ := h
        clear g
        replace h : EV F f 125 z125 32 [some (rf 11 (0)), some (.inl (x1)), some (.inl (x2)), none] [.inl (Int32.ofInt 1)] σ14 (w, σ') := h
        replace h := ei_p h rfl rfl rfl rfl
        obtain ⟨f, g, h⟩ := h
        clear g
        replace h : EV F f 125 z125 36 [some (rf 11 (0)), some (.inl (x1)), some (.inl (x2)), none] [.inl (Int32.ofInt 1)] σ14 (w, σ') := h
        exact j125_36 hsσ14 h
    · skip
      have p16 := x161 hsσ6 r15
      cases e
      exact Or.inr ⟨b, p16, rfl⟩
  · skip
    have p8 := x160 hs r7
    cases e
    exact Or.inr ⟨b, p8, rfl⟩
def z166 : mAl := ((yX11_isInstrument, cX11_isInstrument, 1, (some .boolean), { frames := 1, cells := 0, slots := 0, locals := 22 }, []), rw_X11_isInstrument, false)
theorem z166_at : m_alF[166]? = some z166 := rfl
def P166 (σ : mS) (x1 : Int32) (w : Int32) : Prop := ∃ v1, P163 σ (x1) (Int32.ofInt 0) (Int32.ofInt 2) v1 ∧ w = (v1)
theorem x166 {σ σ' : mS} {x1 : Int32} {w : Int32} (hs : HS σ) (h : ev_run sm_all 166 [.inl (x1)] σ (.inl (some (.inl w))) σ') : P166 σ x1 w := by
  unfold P166
  obtain ⟨F, f, h⟩ := ei_go h z166_at
  replace h : EV F f 166 z166 0 [some (.inl (x1))] [] σ (.inl (some (.inl w)), σ') := h
  replace h := ei_p h rfl rfl rfl rfl
  obtain ⟨f, g, h⟩ := h
  clear g
  replace h : EV F f 166 z166 1 [some (.inl (x1))] [.inl (x1)] σ (.inl (some (.inl w)), σ') := h
  replace h := ei_p h rfl rfl rfl rfl
  obtain ⟨f, g, h⟩ := h
  clear g
  replace h : EV F f 166 z166 2 [some (.inl (x1))] [.inl (Int32.ofInt 0), .inl (x1)] σ (.inl (some (.inl w)), σ') := h
  replace h := ei_p h rfl rfl rfl rfl
  obtain ⟨f, g, h⟩ := h
  clear g
  replace h : EV F f 166 z166 3 [some (.inl (x1))] [.inl (Int32.ofInt 2), .inl (Int32.ofInt 0), .inl (x1)] σ (.inl (some (.inl w)), σ') := h
  replace h := bk_I (ei_s (as := [.inl (Int32.ofInt 2), .inl (Int32.ofInt 0), .inl (x1)]) h rfl (Nat.le_of_ble_eq_true rfl) rfl rfl) rfl z163_at (Or.inr rfl)
  obtain ⟨v1, σ2, r3, f, g, h⟩ := h
  clear g
  have er3 := ro_run rfl r3
  rw [er3] at h r3
  have p4 := x163 hs r3
  refine ⟨v1, p4, ?_⟩
  replace h : EV F f 166 z166 6 [some (.inl (x1))] [.inl (v1)] σ (.inl (some (.inl w)), σ') := h
  have e := ei_iret h rfl
  cases e
  exact rfl
def z167 : mAl := ((yX11_isSide, cX11_isSide, 1, (some .boolean), { frames := 0, cells := 0, slots := 0, locals := 0 }, []), rw_X11_isSide, false)
theorem z167_at : m_alF[167]? = some z167 := rfl
def P167 (σ : mS) (x1 : Int32) (w : Int32) : Prop := (((x1).toInt = (0 : Int) ∧ w = (Int32.ofInt 1)) ∨ (¬ ((x1).toInt = (0 : Int)) ∧ (((x1).toInt ≠ (1 : Int) ∧ w = (Int32.ofInt 0)) ∨ (¬ ((x1).toInt ≠ (1 : Int)) ∧ w = (Int32.ofInt 1)))))
theorem x167 {σ σ' : mS} {x1 : Int32} {w : Int32} (hs : HS σ) (h : ev_run sm_all 167 [.inl (x1)] σ (.inl (some (.inl w))) σ') : P167 σ x1 w := by
  unfold P167
  obtain ⟨F, f, h⟩ := ei_go h z167_at
  replace h : EV F f 167 z167 0 [some (.inl (x1))] [] σ (.inl (some (.inl w)), σ') := h
  replace h := ei_p h rfl rfl rfl rfl
  obtain ⟨f, g, h⟩ := h
  clear g
  replace h : EV F f 167 z167 1 [some (.inl (x1))] [.inl (x1)] σ (.inl (some (.inl w)), σ') := h
  replace h := ei_c h rfl rfl rfl
  rcases h with ⟨hp1, f, g, h⟩ | ⟨hp1, f, g, h⟩
  · skip
    replace hp1 : (x1).toInt = (0 : Int) := ic_eq.mp hp1
    refine Or.inl ⟨hp1, ?_⟩
    clear g
    replace h : EV F f 167 z167 9 [some (.inl (x1))] [] σ (.inl (some (.inl w)), σ') := h
    replace h := ei_p h rfl rfl rfl rfl
    obtain ⟨f, g, h⟩ := h
    clear g
    replace h : EV F f 167 z167 10 [some (.inl (x1))] [.inl (Int32.ofInt 1)] σ (.inl (some (.inl w)), σ') := h
    replace h := ei_p h rfl rfl rfl rfl
    obtain ⟨f, g, h⟩ := h
    clear g
    replace h : EV F f 167 z167 14 [some (.inl (x1))] [.inl (Int32.ofInt 1)] σ (.inl (some (.inl w)), σ') := h
    have e := ei_iret h rfl
    cases e
    exact rfl
  · skip
    replace hp1 : ¬ ((x1).toInt = (0 : Int)) := (not_congr ic_eq).mp hp1
    refine Or.inr ⟨hp1, ?_⟩
    clear g
    replace h : EV F f 167 z167 4 [some (.inl (x1))] [] σ (.inl (some (.inl w)), σ') := h
    replace h := ei_p h rfl rfl rfl rfl
    obtain ⟨f, g, h⟩ := h
    clear g
    replace h : EV F f 167 z167 5 [some (.inl (x1))] [.inl (x1)] σ (.inl (some (.inl w)), σ') := h
    replace h := ei_p h rfl rfl rfl rfl
    obtain ⟨f, g, h⟩ := h
    clear g
    replace h : EV F f 167 z167 6 [some (.inl (x1))] [.inl (Int32.ofInt 1), .inl (x1)] σ (.inl (some (.inl w)), σ') := h
    replace h := ei_c h rfl rfl rfl
    rcases h with ⟨hp2, f, g, h⟩ | ⟨hp2, f, g, h⟩
    · skip
      replace hp2 : (x1).toInt ≠ (1 : Int) := ic_ne.mp hp2
      refine Or.inl ⟨hp2, ?_⟩
      clear g
      replace h : EV F f 167 z167 13 [some (.inl (x1))] [] σ (.inl (some (.inl w)), σ') := h
      replace h := ei_p h rfl rfl rfl rfl
      obtain ⟨f, g, h⟩ := h
      clear g
      replace h : EV F f 167 z167 14 [some (.inl (x1))] [.inl (Int32.ofInt 0)] σ (.inl (some (.inl w)), σ') := h
      have e := ei_iret h rfl
      cases e
      exact rfl
    · skip
      replace hp2 : ¬ ((x1).toInt ≠ (1 : Int)) := (not_congr ic_ne).mp hp2
      refine Or.inr ⟨hp2, ?_⟩
      clear g
      replace h : EV F f 167 z167 9 [some (.inl (x1))] [] σ (.inl (some (.inl w)), σ') := h
      replace h := ei_p h rfl rfl rfl rfl
      obtain ⟨f, g, h⟩ := h
      clear g
      replace h : EV F f 167 z167 10 [some (.inl (x1))] [.inl (Int32.ofInt 1)] σ (.inl (some (.inl w)), σ') := h
      replace h := ei_p h rfl rfl rfl rfl
      obtain ⟨f, g, h⟩ := h
      clear g
      replace h : EV F f 167 z167 14 [some (.inl (x1))] [.inl (Int32.ofInt 1)] σ (.inl (some (.inl w)), σ') := h
      have e := ei_iret h rfl
      cases e
      exact rfl
def z168 : mAl := ((yX11_isPrice, cX11_isPrice, 1, (some .boolean), { frames := 1, cells := 0, slots := 0, locals := 22 }, []), rw_X11_isPrice, false)
theorem z168_at : m_alF[168]? = some z168 := rfl
def P168 (σ : mS) (x1 : Int32) (w : Int32) : Prop := ∃ v1, P163 σ (x1) (Int32.ofInt 1) (Int32.ofInt 9999) v1 ∧ w = (v1)
theorem x168 {σ σ' : mS} {x1 : Int32} {w : Int32} (hs : HS σ) (h : ev_run sm_all 168 [.inl (x1)] σ (.inl (some (.inl w))) σ') : P168 σ x1 w := by
  unfold P168
  obtain ⟨F, f, h⟩ := ei_go h z168_at
  replace h : EV F f 168 z168 0 [some (.inl (x1))] [] σ (.inl (some (.inl w)), σ') := h
  replace h := ei_p h rfl rfl rfl rfl
  obtain ⟨f, g, h⟩ := h
  clear g
  replace h : EV F f 168 z168 1 [some (.inl (x1))] [.inl (x1)] σ (.inl (some (.inl w)), σ') := h
  replace h := ei_p h rfl rfl rfl rfl
  obtain ⟨f, g, h⟩ := h
  clear g
  replace h : EV F f 168 z168 2 [some (.inl (x1))] [.inl (Int32.ofInt 1), .inl (x1)] σ (.inl (some (.inl w)), σ') := h
  replace h := ei_p h rfl rfl rfl rfl
  obtain ⟨f, g, h⟩ := h
  clear g
  replace h : EV F f 168 z168 5 [some (.inl (x1))] [.inl (Int32.ofInt 9999), .inl (Int32.ofInt 1), .inl (x1)] σ (.inl (some (.inl w)), σ') := h
  replace h := bk_I (ei_s (as := [.inl (Int32.ofInt 9999), .inl (Int32.ofInt 1), .inl (x1)]) h rfl (Nat.le_of_ble_eq_true rfl) rfl rfl) rfl z163_at (Or.inr rfl)
  obtain ⟨v1, σ2, r3, f, g, h⟩ := h
  clear g
  have er3 := ro_run rfl r3
  rw [er3] at h r3
  have p4 := x163 hs r3
  refine ⟨v1, p4, ?_⟩
  replace h : EV F f 168 z168 8 [some (.inl (x1))] [.inl (v1)] σ (.inl (some (.inl w)), σ') := h
  have e := ei_iret h rfl
  cases e
  exact rfl
def z170 : mAl := ((yX11_isOrder, cX11_isOrder, 3, (some .boolean), { frames := 2, cells := 0, slots := 0, locals := 42 }, []), rw_X11_isOrder, false)
theorem z170_at : m_alF[170]? = some z170 := rfl
def P170 (σ : mS) (x1 : Int32) (x2 : Int32) (x3 : Int32) (w : Int32) : Prop := ∃ v1, P167 σ (x1) v1 ∧ (((v1).toInt = (0 : Int) ∧ w = (Int32.ofInt 0)) ∨ (¬ ((v1).toInt = (0 : Int)) ∧ ∃ v6, P168 σ (x2) v6 ∧ (((v6).toInt = (0 : Int) ∧ w = (Int32.ofInt 0)) ∨ (¬ ((v6).toInt = (0 : Int)) ∧ ∃ v11, P163 σ (x3) (Int32.ofInt 1) (Int32.ofInt 1000) v11 ∧ (((v11).toInt = (0 : Int) ∧ w = (Int32.ofInt 0)) ∨ (¬ ((v11).toInt = (0 : Int)) ∧ w = (Int32.ofInt 1)))))))
theorem x170 {σ σ' : mS} {x1 : Int32} {x2 : Int32} {x3 : Int32} {w : Int32} (hs : HS σ) (h : ev_run sm_all 170 [.inl (x1), .inl (x2), .inl (x3)] σ (.inl (some (.inl w))) σ') : P170 σ x1 x2 x3 w := by
  unfold P170
  obtain ⟨F, f, h⟩ := ei_go h z170_at
  replace h : EV F f 170 z170 0 [some (.inl (x1)), some (.inl (x2)), some (.inl (x3))] [] σ (.inl (some (.inl w)), σ') := h
  replace h := ei_p h rfl rfl rfl rfl
  obtain ⟨f, g, h⟩ := h
  clear g
  replace h : EV F f 170 z170 1 [some (.inl (x1)), some (.inl (x2)), some (.inl (x3))] [.inl (x1)] σ (.inl (some (.inl w)), σ') := h
  replace h := bk_I (ei_s (as := [.inl (x1)]) h rfl (Nat.le_of_ble_eq_true rfl) rfl rfl) rfl z167_at (Or.inr rfl)
  obtain ⟨v1, σ2, r3, f, g, h⟩ := h
  clear g
  have er3 := ro_run rfl r3
  rw [er3] at h r3
  have p4 := x167 hs r3
  refine ⟨v1, p4, ?_⟩
  replace h : EV F f 170 z170 4 [some (.inl (x1)), some (.inl (x2)), some (.inl (x3))] [.inl (v1)] σ (.inl (some (.inl w)), σ') := h
  replace h := ei_c h rfl rfl rfl
  rcases h with ⟨hp5, f, g, h⟩ | ⟨hp5, f, g, h⟩
  · skip
    replace hp5 : (v1).toInt = (0 : Int) := ic_eq.mp hp5
    refine Or.inl ⟨hp5, ?_⟩
    clear g
    replace h : EV F f 170 z170 29 [some (.inl (x1)), some (.inl (x2)), some (.inl (x3))] [] σ (.inl (some (.inl w)), σ') := h
    replace h := ei_p h rfl rfl rfl rfl
    obtain ⟨f, g, h⟩ := h
    clear g
    replace h : EV F f 170 z170 30 [some (.inl (x1)), some (.inl (x2)), some (.inl (x3))] [.inl (Int32.ofInt 0)] σ (.inl (some (.inl w)), σ') := h
    have e := ei_iret h rfl
    cases e
    exact rfl
  · skip
    replace hp5 : ¬ ((v1).toInt = (0 : Int)) := (not_congr ic_eq).mp hp5
    refine Or.inr ⟨hp5, ?_⟩
    clear g
    replace h : EV F f 170 z170 7 [some (.inl (x1)), some (.inl (x2)), some (.inl (x3))] [] σ (.inl (some (.inl w)), σ') := h
    replace h := ei_p h rfl rfl rfl rfl
    obtain ⟨f, g, h⟩ := h
    clear g
    replace h : EV F f 170 z170 8 [some (.inl (x1)), some (.inl (x2)), some (.inl (x3))] [.inl (x2)] σ (.inl (some (.inl w)), σ') := h
    replace h := bk_I (ei_s (as := [.inl (x2)]) h rfl (Nat.le_of_ble_eq_true rfl) rfl rfl) rfl z168_at (Or.inr rfl)
    obtain ⟨v6, σ7, r8, f, g, h⟩ := h
    clear g
    have er8 := ro_run rfl r8
    rw [er8] at h r8
    have p9 := x168 hs r8
    refine ⟨v6, p9, ?_⟩
    replace h : EV F f 170 z170 11 [some (.inl (x1)), some (.inl (x2)), some (.inl (x3))] [.inl (v6)] σ (.inl (some (.inl w)), σ') := h
    replace h := ei_c h rfl rfl rfl
    rcases h with ⟨hp10, f, g, h⟩ | ⟨hp10, f, g, h⟩
    · skip
      replace hp10 : (v6).toInt = (0 : Int) := ic_eq.mp hp10
      refine Or.inl ⟨hp10, ?_⟩
      clear g
      replace h : EV F f 170 z170 29 [some (.inl (x1)), some (.inl (x2)), some (.inl (x3))] [] σ (.inl (some (.inl w)), σ') := h
      replace h := ei_p h rfl rfl rfl rfl
      obtain ⟨f, g, h⟩ := h
      clear g
      replace h : EV F f 170 z170 30 [some (.inl (x1)), some (.inl (x2)), some (.inl (x3))] [.inl (Int32.ofInt 0)] σ (.inl (some (.inl w)), σ') := h
      have e := ei_iret h rfl
      cases e
      exact rfl
    · skip
      replace hp10 : ¬ ((v6).toInt = (0 : Int)) := (not_congr ic_eq).mp hp10
      refine Or.inr ⟨hp10, ?_⟩
      clear g
      replace h : EV F f 170 z170 14 [some (.inl (x1)), some (.inl (x2)), some (.inl (x3))] [] σ (.inl (some (.inl w)), σ') := h
      replace h := ei_p h rfl rfl rfl rfl
      obtain ⟨f, g, h⟩ := h
      clear g
      replace h : EV F f 170 z170 15 [some (.inl (x1)), some (.inl (x2)), some (.inl (x3))] [.inl (x3)] σ (.inl (some (.inl w)), σ') := h
      replace h := ei_p h rfl rfl rfl rfl
      obtain ⟨f, g, h⟩ := h
      clear g
      replace h : EV F f 170 z170 16 [some (.inl (x1)), some (.inl (x2)), some (.inl (x3))] [.inl (Int32.ofInt 1), .inl (x3)] σ (.inl (some (.inl w)), σ') := h
      replace h := ei_p h rfl rfl rfl rfl
      obtain ⟨f, g, h⟩ := h
      clear g
      replace h : EV F f 170 z170 19 [some (.inl (x1)), some (.inl (x2)), some (.inl (x3))] [.inl (Int32.ofInt 1000), .inl (Int32.ofInt 1), .inl (x3)] σ (.inl (some (.inl w)), σ') := h
      replace h := bk_I (ei_s (as := [.inl (Int32.ofInt 1000), .inl (Int32.ofInt 1), .inl (x3)]) h rfl (Nat.le_of_ble_eq_true rfl) rfl rfl) rfl z163_at (Or.inr rfl)
      obtain ⟨v11, σ12, r13, f, g, h⟩ := h
      clear g
      have er13 := ro_run rfl r13
      rw [er13] at h r13
      have p14 := x163 hs r13
      refine ⟨v11, p14, ?_⟩
      replace h : EV F f 170 z170 22 [some (.inl (x1)), some (.inl (x2)), some (.inl (x3))] [.inl (v11)] σ (.inl (some (.inl w)), σ') := h
      replace h := ei_c h rfl rfl rfl
      rcases h with ⟨hp15, f, g, h⟩ | ⟨hp15, f, g, h⟩
      · skip
        replace hp15 : (v11).toInt = (0 : Int) := ic_eq.mp hp15
        refine Or.inl ⟨hp15, ?_⟩
        clear g
        replace h : EV F f 170 z170 29 [some (.inl (x1)), some (.inl (x2)), some (.inl (x3))] [] σ (.inl (some (.inl w)), σ') := h
        replace h := ei_p h rfl rfl rfl rfl
        obtain ⟨f, g, h⟩ := h
        clear g
        replace h : EV F f 170 z170 30 [some (.inl (x1)), some (.inl (x2)), some (.inl (x3))] [.inl (Int32.ofInt 0)] σ (.inl (some (.inl w)), σ') := h
        have e := ei_iret h rfl
        cases e
        exact rfl
      · skip
        replace hp15 : ¬ ((v11).toInt = (0 : Int)) := (not_congr ic_eq).mp hp15
        refine Or.inr ⟨hp15, ?_⟩
        clear g
        replace h : EV F f 170 z170 25 [some (.inl (x1)), some (.inl (x2)), some (.inl (x3))] [] σ (.inl (some (.inl w)), σ') := h
        replace h := ei_p h rfl rfl rfl rfl
        obtain ⟨f, g, h⟩ := h
        clear g
        replace h : EV F f 170 z170 26 [some (.inl (x1)), some (.inl (x2)), some (.inl (x3))] [.inl (Int32.ofInt 1)] σ (.inl (some (.inl w)), σ') := h
        replace h := ei_p h rfl rfl rfl rfl
        obtain ⟨f, g, h⟩ := h
        clear g
        replace h : EV F f 170 z170 30 [some (.inl (x1)), some (.inl (x2)), some (.inl (x3))] [.inl (Int32.ofInt 1)] σ (.inl (some (.inl w)), σ') := h
        have e := ei_iret h rfl
        cases e
        exact rfl
def z126 : mAl := ((yX11_order, cX11_order, 9, (some .int), { frames := 7, cells := 5, slots := 33, locals := 190 }, []), rw_X11_order, false)
theorem z126_at : m_alF[126]? = some z126 := rfl
abbrev L126 : List (Nat × Nat) := [(0, 1), (0, 2), (1, 0), (1, 1), (1, 2), (1, 3), (1, 4), (1, 5), (1, 6), (1, 7), (1, 8), (1, 9), (1, 10), (1, 11), (1, 12), (1, 13), (1, 14), (1, 15), (2, 5), (2, 6), (2, 7), (2, 8), (2, 9), (2, 10), (3, 3), (3, 4), (3, 5), (5, 2), (6, 2), (6, 3), (6, 4), (6, 5), (6, 6), (6, 7), (6, 8), (6, 9), (6, 10), (7, 1), (7, 2), (7, 3), (7, 4), (7, 5), (7, 6), (7, 7), (7, 8), (7, 9), (7, 10), (7, 11), (7, 12), (8, 1), (8, 2), (8, 3), (8, 4), (8, 5), (8, 6), (8, 7), (8, 8), (10, 0), (10, 1), (10, 2), (10, 3), (10, 4), (10, 5), (10, 6), (10, 7), (10, 8), (10, 9), (11, 3), (11, 4), (11, 5), (13, 0), (14, 0)]
abbrev w126 : Nat → Nat → Bool := wl L126
def S126 : List Nat := [2, 3, 4, 5, 6, 8, 9, 10, 11, 12, 13, 14, 15, 16, 18, 19, 22, 23, 24, 25, 26, 27, 28, 29, 30, 31, 32, 34, 35, 36, 37, 38, 39, 40, 41, 42, 43, 44, 45, 46, 47, 48, 51, 53, 54, 61, 62, 63, 64, 65, 66, 67, 68, 69, 70, 71, 72, 73, 74, 75, 76, 78, 79, 80, 81, 82, 83, 85, 86, 90, 91, 92, 95, 99, 100, 102, 103, 104, 105, 106, 107, 112, 113, 114, 115, 116, 117, 126, 158, 159, 160, 161, 162, 163, 164, 166, 167, 168, 170, 190]
theorem W126 : fw_S w126 S126 = true := by decide +kernel
def J126_127 (u1 : Int32) (u2 : Int32) (u3 : Int32) (u4 : Int32) (u5 : Int32) (u6 : Int32) (u7 : Int32) (t0 : Int32) (τ : mS) (w : mX) (σ' : mS) : Prop := ((∃ σ2, fw_e w162 τ σ2 ∧ P162 τ (t0) (.inl none) σ2 ∧ ∃ σ5, σ5 = m_nu σ2 1 0 ∧ ∃ σ8, fw_e w18 σ5 σ8 ∧ P18 σ5 (σ2.1 1) (Int32.ofInt 2) (u1) (u2) (u3) σ8 ∧ ∃ v11 σ12, fw_e w19 σ8 σ12 ∧ P19 σ8 (σ2.1 1) (u4) (u5) (u6) (u7) v11 σ12 ∧ ∃ v15 σ16, fw_e w61 σ12 σ16 ∧ P61 σ12 (v11) v15 σ16 ∧ ∃ v19 σ20, fw_e w158 σ16 σ20 ∧ P158 σ16 (v11) (v15) v19 σ20 ∧ w = .inl (some (.inl ((v19).toInt32))) ∧ σ' = σ20) ∨ (∃ b, P162 τ (t0) (.inr b) σ' ∧ w = .inr b))
theorem j126_127 {F f : Nat} {σ' τ : mS} {u1 : Int32} {u2 : Int32} {u3 : Int32} {u4 : Int32} {u5 : Int32} {u6 : Int32} {u7 : Int32} {t0 : Int32} {y8 : Option mV} {w : mX} (hsτ : HS τ) (h : EV F f 126 z126 127 [some (rf 11 (0)), some (.inl (u1)), some (.inl (u2)), some (.inl (u3)), some (.inl (u4)), some (.inl (u5)), some (.inl (u6)), some (.inl (u7)), y8] [.inl (t0)] τ (w, σ')) : J126_127 u1 u2 u3 u4 u5 u6 u7 t0 τ w σ' := by
  unfold J126_127
  replace h := bx_0 (ei_s (as := [.inl (t0)]) h rfl (Nat.le_of_ble_eq_true rfl) rfl rfl) z162_at rfl
  rcases h with ⟨σ2, r3, f, g, h⟩ | ⟨b, σ2, r3, e⟩
  · skip
    clear g
    have p4 := x162 hsτ r3
    have hsσ2 : HS σ2 := HS_run rfl r3 hsτ
    refine Or.inl ⟨σ2, fw_run W162 rfl r3, p4, ?_⟩
    replace h : EV F f 126 z126 130 [some (rf 11 (0)), some (.inl (u1)), some (.inl (u2)), some (.inl (u3)), some (.inl (u4)), some (.inl (u5)), some (.inl (u6)), some (.inl (u7)), y8] [] σ2 (w, σ') := h
    replace h := ei_new h rfl (by decide)
    obtain ⟨f, g, h⟩ := h
    clear g
    obtain ⟨σ5, e6⟩ : ∃ s, s = m_nu σ2 1 0 := ⟨_, rfl⟩
    rw [← e6] at h
    have hsσ5 : HS σ5 := by rw [e6]; exact HS_nu hsσ2 (by decide)
    refine ⟨σ5, e6, ?_⟩
    replace h : EV F f 126 z126 133 [some (rf 11 (0)), some (.inl (u1)), some (.inl (u2)), some (.inl (u3)), some (.inl (u4)), some (.inl (u5)), some (.inl (u6)), some (.inl (u7)), y8] [rf 1 (σ2.1 1)] σ5 (w, σ') := h
    replace h := ei_p h rfl rfl rfl rfl
    obtain ⟨f, g, h⟩ := h
    clear g
    replace h : EV F f 126 z126 134 [some (rf 11 (0)), some (.inl (u1)), some (.inl (u2)), some (.inl (u3)), some (.inl (u4)), some (.inl (u5)), some (.inl (u6)), some (.inl (u7)), y8] [rf 1 (σ2.1 1), rf 1 (σ2.1 1)] σ5 (w, σ') := h
    replace h := ei_p h rfl rfl rfl rfl
    obtain ⟨f, g, h⟩ := h
    clear g
    replace h : EV F f 126 z126 135 [some (rf 11 (0)), some (.inl (u1)), some (.inl (u2)), some (.inl (u3)), some (.inl (u4)), some (.inl (u5)), some (.inl (u6)), some (.inl (u7)), y8] [.inl (Int32.ofInt 2), rf 1 (σ2.1 1), rf 1 (σ2.1 1)] σ5 (w, σ') := h
    replace h := ei_p h rfl rfl rfl rfl
    obtain ⟨f, g, h⟩ := h
    clear g
    replace h : EV F f 126 z126 136 [some (rf 11 (0)), some (.inl (u1)), some (.inl (u2)), some (.inl (u3)), some (.inl (u4)), some (.inl (u5)), some (.inl (u6)), some (.inl (u7)), y8] [.inl (u1), .inl (Int32.ofInt 2), rf 1 (σ2.1 1), rf 1 (σ2.1 1)] σ5 (w, σ') := h
    replace h := ei_p h rfl rfl rfl rfl
    obtain ⟨f, g, h⟩ := h
    clear g
    replace h : EV F f 126 z126 137 [some (rf 11 (0)), some (.inl (u1)), some (.inl (u2)), some (.inl (u3)), some (.inl (u4)), some (.inl (u5)), some (.inl (u6)), some (.inl (u7)), y8] [.inl (u2), .inl (u1), .inl (Int32.ofInt 2), rf 1 (σ2.1 1), rf 1 (σ2.1 1)] σ5 (w, σ') := h
    replace h := ei_p h rfl rfl rfl rfl
    obtain ⟨f, g, h⟩ := h
    clear g
    replace h : EV F f 126 z126 138 [some (rf 11 (0)), some (.inl (u1)), some (.inl (u2)), some (.inl (u3)), some (.inl (u4)), some (.inl (u5)), some (.inl (u6)), some (.inl (u7)), y8] [.inl (u3), .inl (u2), .inl (u1), .inl (Int32.ofInt 2), rf 1 (σ2.1 1), rf 1 (σ2.1 1)] σ5 (w, σ') := h
    replace h := bk_0 (ei_x (as := [.inl (u3), .inl (u2), .inl (u1), .inl (Int32.ofInt 2)]) h rfl rfl rfl) rfl z18_at rfl
    obtain ⟨σ8, r9, f, g, h⟩ := h
    clear g
    have p10 := x18 hsσ5 r9
    have hsσ8 : HS σ8 := HS_run rfl r9 hsσ5
    refine ⟨σ8, fw_run W18 rfl r9, p10, ?_⟩
    replace h : EV F f 126 z126 141 [some (rf 11 (0)), some (.inl (u1)), some (.inl (u2)), some (.inl (u3)), some (.inl (u4)), some (.inl (u5)), some (.inl (u6)), some (.inl (u7)), y8] [rf 1 (σ2.1 1)] σ8 (w, σ') := h
    replace h := ei_p h rfl rfl rfl rfl
    obtain ⟨f, g, h⟩ := h
    clear g
    replace h : EV F f 126 z126 143 [some (rf 11 (0)), some (.inl (u1)), some (.inl (u2)), some (.inl (u3)), some (.inl (u4)), some (.inl (u5)), some (.inl (u6)), some (.inl (u7)), y8] [.inl (u4), rf 1 (σ2.1 1)] σ8 (w, σ') := h
    replace h := ei_p h rfl rfl rfl rfl
    obtain ⟨f, g, h⟩ := h
    clear g
    replace h : EV F f 126 z126 145 [some (rf 11 (0)), some (.inl (u1)), some (.inl (u2)), some (.inl (u3)), some (.inl (u4)), some (.inl (u5)), some (.inl (u6)), some (.inl (u7)), y8] [.inl (u5), .inl (u4), rf 1 (σ2.1 1)] σ8 (w, σ') := h
    replace h := ei_p h rfl rfl rfl rfl
    obtain ⟨f, g, h⟩ := h
    clear g
    replace h : EV F f 126 z126 147 [some (rf 11 (0)), some (.inl (u1)), some (.inl (u2)), some (.inl (u3)), some (.inl (u4)), some (.inl (u5)), some (.inl (u6)), some (.inl (u7)), y8] [.inl (u6), .inl (u5), .inl (u4), rf 1 (σ2.1 1)] σ8 (w, σ') := h
    replace h := ei_p h rfl rfl rfl rfl
    obtain ⟨f, g, h⟩ := h
    clear g
    replace h : EV F f 126 z126 149 [some (rf 11 (0)), some (.inl (u1)), some (.inl (u2)), some (.inl (u3)), some (.inl (u4)), some (.inl (u5)), some (.inl (u6)), some (.inl (u7)), y8] [.inl (u7), .inl (u6), .inl (u5), .inl (u4), rf 1 (σ2.1 1)] σ8 (w, σ') := h
    replace h := bk_R (ei_v (as := [.inl (u7), .inl (u6), .inl (u5), .inl (u4)]) h rfl rfl rfl) rfl z19_at rfl
    obtain ⟨v11, σ12, r13, f, g, h⟩ := h
    clear g
    have p14 := x19 hsσ8 r13
    have hsσ12 : HS σ12 := HS_run rfl r13 hsσ8
    refine ⟨v11, σ12, fw_run W19 rfl r13, p14, ?_⟩
    replace h : EV F f 126 z126 152 [some (rf 11 (0)), some (.inl (u1)), some (.inl (u2)), some (.inl (u3)), some (.inl (u4)), some (.inl (u5)), some (.inl (u6)), some (.inl (u7)), y8] [.inr (.inr (v11))] σ12 (w, σ') := h
    replace h := ei_p h rfl rfl rfl rfl
    obtain ⟨f, g, h⟩ := h
    clear g
    replace h : EV F f 126 z126 154 [some (rf 11 (0)), some (.inl (u1)), some (.inl (u2)), some (.inl (u3)), some (.inl (u4)), some (.inl (u5)), some (.inl (u6)), some (.inl (u7)), some (.inr (.inr (v11)))] [] σ12 (w, σ') := h
    replace h := ei_p h rfl rfl rfl rfl
    obtain ⟨f, g, h⟩ := h
    clear g
    replace h : EV F f 126 z126 155 [some (rf 11 (0)), some (.inl (u1)), some (.inl (u2)), some (.inl (u3)), some (.inl (u4)), some (.inl (u5)), some (.inl (u6)), some (.inl (u7)), some (.inr (.inr (v11)))] [rf 11 (0)] σ12 (w, σ') := h
    replace h := ei_p h rfl rfl rfl rfl
    obtain ⟨f, g, h⟩ := h
    clear g
    replace h : EV F f 126 z126 157 [some (rf 11 (0)), some (.inl (u1)), some (.inl (u2)), some (.inl (u3)), some (.inl (u4)), some (.inl (u5)), some (.inl (u6)), some (.inl (u7)), some (.inr (.inr (v11)))] [.inr (.inr (v11)), rf 11 (0)] σ12 (w, σ') := h
    replace h := ei_p h rfl rfl rfl rfl
    obtain ⟨f, g, h⟩ := h
    clear g
    replace h : EV F f 126 z126 158 [some (rf 11 (0)), some (.inl (u1)), some (.inl (u2)), some (.inl (u3)), some (.inl (u4)), some (.inl (u5)), some (.inl (u6)), some (.inl (u7)), some (.inr (.inr (v11)))] [rf 11 (0), .inr (.inr (v11)), rf 11 (0)] σ12 (w, σ') := h
    replace h := ei_get h rfl (HS_g11_0 hsσ12)
    obtain ⟨f, g, h⟩ := h
    clear g
    replace h : EV F f 126 z126 161 [some (rf 11 (0)), some (.inl (u1)), some (.inl (u2)), some (.inl (u3)), some (.inl (u4)), some (.inl (u5)), some (.inl (u6)), some (.inl (u7)), some (.inr (.inr (v11)))] [rf 4 (0), .inr (.inr (v11)), rf 11 (0)] σ12 (w, σ') := h
    replace h := ei_p h rfl rfl rfl rfl
    obtain ⟨f, g, h⟩ := h
    clear g
    replace h : EV F f 126 z126 163 [some (rf 11 (0)), some (.inl (u1)), some (.inl (u2)), some (.inl (u3)), some (.inl (u4)), some (.inl (u5)), some (.inl (u6)), some (.inl (u7)), some (.inr (.inr (v11)))] [.inr (.inr (v11)), rf 4 (0), .inr (.inr (v11)), rf 11 (0)] σ12 (w, σ') := h
    replace h := bk_L (ei_v (as := [.inr (.inr (v11))]) h rfl rfl rfl) rfl z61_at rfl
    obtain ⟨v15, σ16, r17, f, g, h⟩ := h
    clear g
    have p18 := x61 hsσ12 r17
    have hsσ16 : HS σ16 := HS_run rfl r17 hsσ12
    refine ⟨v15, σ16, fw_run W61 rfl r17, p18, ?_⟩
    replace h : EV F f 126 z126 166 [some (rf 11 (0)), some (.inl (u1)), some (.inl (u2)), some (.inl (u3)), some (.inl (u4)), some (.inl (u5)), some (.inl (u6)), some (.inl (u7)), some (.inr (.inr (v11)))] [.inr (.inl (v15)), .inr (.inr (v11)), rf 11 (0)] σ16 (w, σ') := h
    replace h := bk_L (ei_v (as := [.inr (.inl (v15)), .inr (.inr (v11))]) h rfl rfl rfl) rfl z158_at rfl
    obtain ⟨v19, σ20, r21, f, g, h⟩ := h
    clear g
    have p22 := x158 hsσ16 r21
    have hsσ20 : HS σ20 := HS_run rfl r21 hsσ16
    refine ⟨v19, σ20, fw_run W158 rfl r21, p22, ?_⟩
    replace h : EV F f 126 z126 169 [some (rf 11 (0)), some (.inl (u1)), some (.inl (u2)), some (.inl (u3)), some (.inl (u4)), some (.inl (u5)), some (.inl (u6)), some (.inl (u7)), some (.inr (.inr (v11)))] [.inr (.inl (v19))] σ20 (w, σ') := h
    replace h := ei_p h rfl rfl rfl rfl
    obtain ⟨f, g, h⟩ := h
    clear g
    replace h : EV F f 126 z126 170 [some (rf 11 (0)), some (.inl (u1)), some (.inl (u2)), some (.inl (u3)), some (.inl (u4)), some (.inl (u5)), some (.inl (u6)), some (.inl (u7)), some (.inr (.inr (v11)))] [.inl ((v19).toInt32)] σ20 (w, σ') := h
    have e := ei_iret h rfl
    cases e
    exact ⟨rfl, rfl⟩
  · skip
    have p4 := x162 hsτ r3
    cases e
    exact Or.inr ⟨b, p4, rfl⟩
def J126_122 (u1 : Int32) (u2 : Int32) (u3 : Int32) (u4 : Int32) (u5 : Int32) (u6 : Int32) (u7 : Int32) (τ : mS) (w : mX) (σ' : mS) : Prop := J126_127 (u1) (u2) (u3) (u4) (u5) (u6) (u7) (Int32.ofInt 1) τ w σ'
theorem j126_122 {F f : Nat} {σ' τ : mS} {u1 : Int32} {u2 : Int32} {u3 : Int32} {u4 : Int32} {u5 : Int32} {u6 : Int32} {u7 : Int32} {y8 : Option mV} {w : mX} (hsτ : HS τ) (h : EV F f 126 z126 122 [some (rf 11 (0)), some (.inl (u1)), some (.inl (u2)), some (.inl (u3)), some (.inl (u4)), some (.inl (u5)), some (.inl (u6)), some (.inl (u7)), y8] [] τ (w, σ')) : J126_122 u1 u2 u3 u4 u5 u6 u7 τ w σ' := by
  unfold J126_122
  replace h := ei_p h rfl rfl rfl rfl
  obtain ⟨f, g, h⟩ := h
  clear g
  replace h : EV F f 126 z126 123 [some (rf 11 (0)), some (.inl (u1)), some (.inl (u2)), some (.inl (u3)), some (.inl (u4)), some (.inl (u5)), some (.inl (u6)), some (.inl (u7)), y8] [.inl (Int32.ofInt 1)] τ (w, σ') := h
  replace h := ei_p h rfl rfl rfl rfl
  obtain ⟨f, g, h⟩ := h
  clear g
  replace h : EV F f 126 z126 127 [some (rf 11 (0)), some (.inl (u1)), some (.inl (u2)), some (.inl (u3)), some (.inl (u4)), some (.inl (u5)), some (.inl (u6)), some (.inl (u7)), y8] [.inl (Int32.ofInt 1)] τ (w, σ') := h
  exact j126_127 hsτ h
def J126_94 (u1 : Int32) (u2 : Int32) (u3 : Int32) (u4 : Int32) (u5 : Int32) (u6 : Int32) (u7 : Int32) (t0 : Int32) (τ : mS) (w : mX) (σ' : mS) : Prop := ((∃ σ2, fw_e w162 τ σ2 ∧ P162 τ (t0) (.inl none) σ2 ∧ (((u7).toInt = (0 : Int) ∧ J126_122 (u1) (u2) (u3) (u4) (u5) (u6) (u7) σ2 w σ') ∨ (¬ ((u7).toInt = (0 : Int)) ∧ (((u7).toInt = (3 : Int) ∧ J126_122 (u1) (u2) (u3) (u4) (u5) (u6) (u7) σ2 w σ') ∨ (¬ ((u7).toInt = (3 : Int)) ∧ ∃ v7, P27 σ2 (u2) v7 ∧ (((v7).toInt = (0 : Int) ∧ J126_127 (u1) (u2) (u3) (u4) (u5) (u6) (u7) (Int32.ofInt 0) σ2 w σ') ∨ (¬ ((v7).toInt = (0 : Int)) ∧ J126_122 (u1) (u2) (u3) (u4) (u5) (u6) (u7) σ2 w σ'))))))) ∨ (∃ b, P162 τ (t0) (.inr b) σ' ∧ w = .inr b))
theorem j126_94 {F f : Nat} {σ' τ : mS} {u1 : Int32} {u2 : Int32} {u3 : Int32} {u4 : Int32} {u5 : Int32} {u6 : Int32} {u7 : Int32} {t0 : Int32} {y8 : Option mV} {w : mX} (hsτ : HS τ) (h : EV F f 126 z126 94 [some (rf 11 (0)), some (.inl (u1)), some (.inl (u2)), some (.inl (u3)), some (.inl (u4)), some (.inl (u5)), some (.inl (u6)), some (.inl (u7)), y8] [.inl (t0)] τ (w, σ')) : J126_94 u1 u2 u3 u4 u5 u6 u7 t0 τ w σ' := by
  unfold J126_94
  replace h := bx_0 (ei_s (as := [.inl (t0)]) h rfl (Nat.le_of_ble_eq_true rfl) rfl rfl) z162_at rfl
  rcases h with ⟨σ2, r3, f, g, h⟩ | ⟨b, σ2, r3, e⟩
  · skip
    clear g
    have p4 := x162 hsτ r3
    have hsσ2 : HS σ2 := HS_run rfl r3 hsτ
    refine Or.inl ⟨σ2, fw_run W162 rfl r3, p4, ?_⟩
    replace h : EV F f 126 z126 97 [some (rf 11 (0)), some (.inl (u1)), some (.inl (u2)), some (.inl (u3)), some (.inl (u4)), some (.inl (u5)), some (.inl (u6)), some (.inl (u7)), y8] [] σ2 (w, σ') := h
    replace h := ei_p h rfl rfl rfl rfl
    obtain ⟨f, g, h⟩ := h
    clear g
    replace h : EV F f 126 z126 99 [some (rf 11 (0)), some (.inl (u1)), some (.inl (u2)), some (.inl (u3)), some (.inl (u4)), some (.inl (u5)), some (.inl (u6)), some (.inl (u7)), y8] [.inl (u7)] σ2 (w, σ') := h
    replace h := ei_c h rfl rfl rfl
    rcases h with ⟨hp5, f, g, h⟩ | ⟨hp5, f, g, h⟩
    · skip
      replace hp5 : (u7).toInt = (0 : Int) := ic_eq.mp hp5
      refine Or.inl ⟨hp5, ?_⟩
      clear g
      replace h : EV F f 126 z126 122 [some (rf 11 (0)), some (.inl (u1)), some (.inl (u2)), some (.inl (u3)), some (.inl (u4)), some (.inl (u5)), some (.inl (u6)), some (.inl (u7)), y8] [] σ2 (w, σ') := h
      exact j126_122 hsσ2 h
    · skip
      replace hp5 : ¬ ((u7).toInt = (0 : Int)) := (not_congr ic_eq).mp hp5
      refine Or.inr ⟨hp5, ?_⟩
      clear g
      replace h : EV F f 126 z126 102 [some (rf 11 (0)), some (.inl (u1)), some (.inl (u2)), some (.inl (u3)), some (.inl (u4)), some (.inl (u5)), some (.inl (u6)), some (.inl (u7)), y8] [] σ2 (w, σ') := h
      replace h := ei_p h rfl rfl rfl rfl
      obtain ⟨f, g, h⟩ := h
      clear g
      replace h : EV F f 126 z126 104 [some (rf 11 (0)), some (.inl (u1)), some (.inl (u2)), some (.inl (u3)), some (.inl (u4)), some (.inl (u5)), some (.inl (u6)), some (.inl (u7)), y8] [.inl (u7)] σ2 (w, σ') := h
      replace h := ei_p h rfl rfl rfl rfl
      obtain ⟨f, g, h⟩ := h
      clear g
      replace h : EV F f 126 z126 105 [some (rf 11 (0)), some (.inl (u1)), some (.inl (u2)), some (.inl (u3)), some (.inl (u4)), some (.inl (u5)), some (.inl (u6)), some (.inl (u7)), y8] [.inl (Int32.ofInt 3), .inl (u7)] σ2 (w, σ') := h
      replace h := ei_c h rfl rfl rfl
      rcases h with ⟨hp6, f, g, h⟩ | ⟨hp6, f, g, h⟩
      · skip
        replace hp6 : (u7).toInt = (3 : Int) := ic_eq.mp hp6
        refine Or.inl ⟨hp6, ?_⟩
        clear g
        replace h : EV F f 126 z126 122 [some (rf 11 (0)), some (.inl (u1)), some (.inl (u2)), some (.inl (u3)), some (.inl (u4)), some (.inl (u5)), some (.inl (u6)), some (.inl (u7)), y8] [] σ2 (w, σ') := h
        exact j126_122 hsσ2 h
      · skip
        replace hp6 : ¬ ((u7).toInt = (3 : Int)) := (not_congr ic_eq).mp hp6
        refine Or.inr ⟨hp6, ?_⟩
        clear g
        replace h : EV F f 126 z126 108 [some (rf 11 (0)), some (.inl (u1)), some (.inl (u2)), some (.inl (u3)), some (.inl (u4)), some (.inl (u5)), some (.inl (u6)), some (.inl (u7)), y8] [] σ2 (w, σ') := h
        replace h := ei_p h rfl rfl rfl rfl
        obtain ⟨f, g, h⟩ := h
        clear g
        replace h : EV F f 126 z126 109 [some (rf 11 (0)), some (.inl (u1)), some (.inl (u2)), some (.inl (u3)), some (.inl (u4)), some (.inl (u5)), some (.inl (u6)), some (.inl (u7)), y8] [rf 11 (0)] σ2 (w, σ') := h
        replace h := ei_get h rfl (HS_g11_0 hsσ2)
        obtain ⟨f, g, h⟩ := h
        clear g
        replace h : EV F f 126 z126 112 [some (rf 11 (0)), some (.inl (u1)), some (.inl (u2)), some (.inl (u3)), some (.inl (u4)), some (.inl (u5)), some (.inl (u6)), some (.inl (u7)), y8] [rf 4 (0)] σ2 (w, σ') := h
        replace h := ei_get h rfl (HS_g4_1 hsσ2)
        obtain ⟨f, g, h⟩ := h
        clear g
        replace h : EV F f 126 z126 115 [some (rf 11 (0)), some (.inl (u1)), some (.inl (u2)), some (.inl (u3)), some (.inl (u4)), some (.inl (u5)), some (.inl (u6)), some (.inl (u7)), y8] [rf 2 (0)] σ2 (w, σ') := h
        replace h := ei_p h rfl rfl rfl rfl
        obtain ⟨f, g, h⟩ := h
        clear g
        replace h : EV F f 126 z126 116 [some (rf 11 (0)), some (.inl (u1)), some (.inl (u2)), some (.inl (u3)), some (.inl (u4)), some (.inl (u5)), some (.inl (u6)), some (.inl (u7)), y8] [.inl (u2), rf 2 (0)] σ2 (w, σ') := h
        replace h := bk_I (ei_v (as := [.inl (u2)]) h rfl rfl rfl) rfl z27_at (Or.inr rfl)
        obtain ⟨v7, σ8, r9, f, g, h⟩ := h
        clear g
        have er9 := ro_run rfl r9
        rw [er9] at h r9
        have p10 := x27 hsσ2 r9
        refine ⟨v7, p10, ?_⟩
        replace h : EV F f 126 z126 119 [some (rf 11 (0)), some (.inl (u1)), some (.inl (u2)), some (.inl (u3)), some (.inl (u4)), some (.inl (u5)), some (.inl (u6)), some (.inl (u7)), y8] [.inl (v7)] σ2 (w, σ') := h
        replace h := ei_c h rfl rfl rfl
        rcases h with ⟨hp11, f, g, h⟩ | ⟨hp11, f, g, h⟩
        · skip
          replace hp11 : (v7).toInt = (0 : Int) := ic_eq.mp hp11
          refine Or.inl ⟨hp11, ?_⟩
          clear g
          replace h : EV F f 126 z126 126 [some (rf 11 (0)), some (.inl (u1)), some (.inl (u2)), some (.inl (u3)), some (.inl (u4)), some (.inl (u5)), some (.inl (u6)), some (.inl (u7)), y8] [] σ2 (w, σ') := h
          replace h := ei_p h rfl rfl rfl rfl
          obtain ⟨f, g, h⟩ := h
          clear g
          replace h : EV F f 126 z126 127 [some (rf 11 (0)), some (.inl (u1)), some (.inl (u2)), some (.inl (u3)), some (.inl (u4)), some (.inl (u5)), some (.inl (u6)), some (.inl (u7)), y8] [.inl (Int32.ofInt 0)] σ2 (w, σ') := h
          exact j126_127 hsσ2 h
        · skip
          replace hp11 : ¬ ((v7).toInt = (0 : Int)) := (not_congr ic_eq).mp hp11
          refine Or.inr ⟨hp11, ?_⟩
          clear g
          replace h : EV F f 126 z126 122 [some (rf 11 (0)), some (.inl (u1)), some (.inl (u2)), some (.inl (u3)), some (.inl (u4)), some (.inl (u5)), some (.inl (u6)), some (.inl (u7)), y8] [] σ2 (w, σ') := h
          exact j126_122 hsσ2 h
  · skip
    have p4 := x162 hsτ r3
    cases e
    exact Or.inr ⟨b, p4, rfl⟩
def J126_93 (u1 : Int32) (u2 : Int32) (u3 : Int32) (u4 : Int32) (u5 : Int32) (u6 : Int32) (u7 : Int32) (τ : mS) (w : mX) (σ' : mS) : Prop := J126_94 (u1) (u2) (u3) (u4) (u5) (u6) (u7) (Int32.ofInt 0) τ w σ'
theorem j126_93 {F f : Nat} {σ' τ : mS} {u1 : Int32} {u2 : Int32} {u3 : Int32} {u4 : Int32} {u5 : Int32} {u6 : Int32} {u7 : Int32} {y8 : Option mV} {w : mX} (hsτ : HS τ) (h : EV F f 126 z126 93 [some (rf 11 (0)), some (.inl (u1)), some (.inl (u2)), some (.inl (u3)), some (.inl (u4)), some (.inl (u5)), some (.inl (u6)), some (.inl (u7)), y8] [] τ (w, σ')) : J126_93 u1 u2 u3 u4 u5 u6 u7 τ w σ' := by
  unfold J126_93
  replace h := ei_p h rfl rfl rfl rfl
  obtain ⟨f, g, h⟩ := h
  clear g
  replace h : EV F f 126 z126 94 [some (rf 11 (0)), some (.inl (u1)), some (.inl (u2)), some (.inl (u3)), some (.inl (u4)), some (.inl (u5)), some (.inl (u6)), some (.inl (u7)), y8] [.inl (Int32.ofInt 0)] τ (w, σ') := h
  exact j126_94 hsτ h
def J126_59 (u1 : Int32) (u2 : Int32) (u3 : Int32) (u4 : Int32) (u5 : Int32) (u6 : Int32) (u7 : Int32) (t0 : Int32) (τ : mS) (w : mX) (σ' : mS) : Prop := ((∃ σ2, fw_e w161 τ σ2 ∧ P161 τ (t0) (.inl none) σ2 ∧ ∃ v5, P26 σ2 (u1) v5 ∧ (((v5).toInt ≠ (0 : Int) ∧ J126_93 (u1) (u2) (u3) (u4) (u5) (u6) (u7) σ2 w σ') ∨ (¬ ((v5).toInt ≠ (0 : Int)) ∧ ∃ v10, P2 σ2 v10 ∧ (((v10).toInt = (0 : Int) ∧ J126_93 (u1) (u2) (u3) (u4) (u5) (u6) (u7) σ2 w σ') ∨ (¬ ((v10).toInt = (0 : Int)) ∧ J126_94 (u1) (u2) (u3) (u4) (u5) (u6) (u7) (Int32.ofInt 1) σ2 w σ'))))) ∨ (∃ b, P161 τ (t0) (.inr b) σ' ∧ w = .inr b))
theorem j126_59 {F f : Nat} {σ' τ : mS} {u1 : Int32} {u2 : Int32} {u3 : Int32} {u4 : Int32} {u5 : Int32} {u6 : Int32} {u7 : Int32} {t0 : Int32} {y8 : Option mV} {w : mX} (hsτ : HS τ) (h : EV F f 126 z126 59 [some (rf 11 (0)), some (.inl (u1)), some (.inl (u2)), some (.inl (u3)), some (.inl (u4)), some (.inl (u5)), some (.inl (u6)), some (.inl (u7)), y8] [.inl (t0)] τ (w, σ')) : J126_59 u1 u2 u3 u4 u5 u6 u7 t0 τ w σ' := by
  unfold J126_59
  replace h := bx_0 (ei_s (as := [.inl (t0)]) h rfl (Nat.le_of_ble_eq_true rfl) rfl rfl) z161_at rfl
  rcases h with ⟨σ2, r3, f, g, h⟩ | ⟨b, σ2, r3, e⟩
  · skip
    clear g
    have p4 := x161 hsτ r3
    have hsσ2 : HS σ2 := HS_run rfl r3 hsτ
    refine Or.inl ⟨σ2, fw_run W161 rfl r3, p4, ?_⟩
    replace h : EV F f 126 z126 62 [some (rf 11 (0)), some (.inl (u1)), some (.inl (u2)), some (.inl (u3)), some (.inl (u4)), some (.inl (u5)), some (.inl (u6)), some (.inl (u7)), y8] [] σ2 (w, σ') := h
    replace h := ei_p h rfl rfl rfl rfl
    obtain ⟨f, g, h⟩ := h
    clear g
    replace h : EV F f 126 z126 63 [some (rf 11 (0)), some (.inl (u1)), some (.inl (u2)), some (.inl (u3)), some (.inl (u4)), some (.inl (u5)), some (.inl (u6)), some (.inl (u7)), y8] [rf 11 (0)] σ2 (w, σ') := h
    replace h := ei_get h rfl (HS_g11_0 hsσ2)
    obtain ⟨f, g, h⟩ := h
    clear g
    replace h : EV F f 126 z126 66 [some (rf 11 (0)), some (.inl (u1)), some (.inl (u2)), some (.inl (u3)), some (.inl (u4)), some (.inl (u5)), some (.inl (u6)), some (.inl (u7)), y8] [rf 4 (0)] σ2 (w, σ') := h
    replace h := ei_get h rfl (HS_g4_1 hsσ2)
    obtain ⟨f, g, h⟩ := h
    clear g
    replace h : EV F f 126 z126 69 [some (rf 11 (0)), some (.inl (u1)), some (.inl (u2)), some (.inl (u3)), some (.inl (u4)), some (.inl (u5)), some (.inl (u6)), some (.inl (u7)), y8] [rf 2 (0)] σ2 (w, σ') := h
    replace h := ei_p h rfl rfl rfl rfl
    obtain ⟨f, g, h⟩ := h
    clear g
    replace h : EV F f 126 z126 70 [some (rf 11 (0)), some (.inl (u1)), some (.inl (u2)), some (.inl (u3)), some (.inl (u4)), some (.inl (u5)), some (.inl (u6)), some (.inl (u7)), y8] [.inl (u1), rf 2 (0)] σ2 (w, σ') := h
    replace h := bk_I (ei_v (as := [.inl (u1)]) h rfl rfl rfl) rfl z26_at (Or.inr rfl)
    obtain ⟨v5, σ6, r7, f, g, h⟩ := h
    clear g
    have er7 := ro_run rfl r7
    rw [er7] at h r7
    have p8 := x26 hsσ2 r7
    refine ⟨v5, p8, ?_⟩
    replace h : EV F f 126 z126 73 [some (rf 11 (0)), some (.inl (u1)), some (.inl (u2)), some (.inl (u3)), some (.inl (u4)), some (.inl (u5)), some (.inl (u6)), some (.inl (u7)), y8] [.inl (v5)] σ2 (w, σ') := h
    replace h := ei_c h rfl rfl rfl
    rcases h with ⟨hp9, f, g, h⟩ | ⟨hp9, f, g, h⟩
    · skip
      replace hp9 : (v5).toInt ≠ (0 : Int) := ic_ne.mp hp9
      refine Or.inl ⟨hp9, ?_⟩
      clear g
      replace h : EV F f 126 z126 93 [some (rf 11 (0)), some (.inl (u1)), some (.inl (u2)), some (.inl (u3)), some (.inl (u4)), some (.inl (u5)), some (.inl (u6)), some (.inl (u7)), y8] [] σ2 (w, σ') := h
      exact j126_93 hsσ2 h
    · skip
      replace hp9 : ¬ ((v5).toInt ≠ (0 : Int)) := (not_congr ic_ne).mp hp9
      refine Or.inr ⟨hp9, ?_⟩
      clear g
      replace h : EV F f 126 z126 76 [some (rf 11 (0)), some (.inl (u1)), some (.inl (u2)), some (.inl (u3)), some (.inl (u4)), some (.inl (u5)), some (.inl (u6)), some (.inl (u7)), y8] [] σ2 (w, σ') := h
      replace h := ei_p h rfl rfl rfl rfl
      obtain ⟨f, g, h⟩ := h
      clear g
      replace h : EV F f 126 z126 77 [some (rf 11 (0)), some (.inl (u1)), some (.inl (u2)), some (.inl (u3)), some (.inl (u4)), some (.inl (u5)), some (.inl (u6)), some (.inl (u7)), y8] [rf 11 (0)] σ2 (w, σ') := h
      replace h := ei_get h rfl (HS_g11_0 hsσ2)
      obtain ⟨f, g, h⟩ := h
      clear g
      replace h : EV F f 126 z126 80 [some (rf 11 (0)), some (.inl (u1)), some (.inl (u2)), some (.inl (u3)), some (.inl (u4)), some (.inl (u5)), some (.inl (u6)), some (.inl (u7)), y8] [rf 4 (0)] σ2 (w, σ') := h
      replace h := ei_get h rfl (HS_g4_0 hsσ2)
      obtain ⟨f, g, h⟩ := h
      clear g
      replace h : EV F f 126 z126 83 [some (rf 11 (0)), some (.inl (u1)), some (.inl (u2)), some (.inl (u3)), some (.inl (u4)), some (.inl (u5)), some (.inl (u6)), some (.inl (u7)), y8] [rf 0 (0)] σ2 (w, σ') := h
      replace h := bk_I (ei_v (as := []) h rfl rfl rfl) rfl z2_at (Or.inr rfl)
      obtain ⟨v10, σ11, r12, f, g, h⟩ := h
      clear g
      have er12 := ro_run rfl r12
      rw [er12] at h r12
      have p13 := x2 hsσ2 r12
      refine ⟨v10, p13, ?_⟩
      replace h : EV F f 126 z126 86 [some (rf 11 (0)), some (.inl (u1)), some (.inl (u2)), some (.inl (u3)), some (.inl (u4)), some (.inl (u5)), some (.inl (u6)), some (.inl (u7)), y8] [.inl (v10)] σ2 (w, σ') := h
      replace h := ei_c h rfl rfl rfl
      rcases h with ⟨hp14, f, g, h⟩ | ⟨hp14, f, g, h⟩
      · skip
        replace hp14 : (v10).toInt = (0 : Int) := ic_eq.mp hp14
        refine Or.inl ⟨hp14, ?_⟩
        clear g
        replace h : EV F f 126 z126 93 [some (rf 11 (0)), some (.inl (u1)), some (.inl (u2)), some (.inl (u3)), some (.inl (u4)), some (.inl (u5)), some (.inl (u6)), some (.inl (u7)), y8] [] σ2 (w, σ') := h
        exact j126_93 hsσ2 h
      · skip
        replace hp14 : ¬ ((v10).toInt = (0 : Int)) := (not_congr ic_eq).mp hp14
        refine Or.inr ⟨hp14, ?_⟩
        clear g
        replace h : EV F f 126 z126 89 [some (rf 11 (0)), some (.inl (u1)), some (.inl (u2)), some (.inl (u3)), some (.inl (u4)), some (.inl (u5)), some (.inl (u6)), some (.inl (u7)), y8] [] σ2 (w, σ') := h
        replace h := ei_p h rfl rfl rfl rfl
        obtain ⟨f, g, h⟩ := h
        clear g
        replace h : EV F f 126 z126 90 [some (rf 11 (0)), some (.inl (u1)), some (.inl (u2)), some (.inl (u3)), some (.inl (u4)), some (.inl (u5)), some (.inl (u6)), some (.inl (u7)), y8] [.inl (Int32.ofInt 1)] σ2 (w, σ') := h
        replace h := ei_p h rfl rfl rfl rfl
        obtain ⟨f, g, h⟩ := h
        clear g
        replace h : EV F f 126 z126 94 [some (rf 11 (0)), some (.inl (u1)), some (.inl (u2)), some (.inl (u3)), some (.inl (u4)), some (.inl (u5)), some (.inl (u6)), some (.inl (u7)), y8] [.inl (Int32.ofInt 1)] σ2 (w, σ') := h
        exact j126_94 hsσ2 h
  · skip
    have p4 := x161 hsτ r3
    cases e
    exact Or.inr ⟨b, p4, rfl⟩
def J126_58 (u1 : Int32) (u2 : Int32) (u3 : Int32) (u4 : Int32) (u5 : Int32) (u6 : Int32) (u7 : Int32) (τ : mS) (w : mX) (σ' : mS) : Prop := J126_59 (u1) (u2) (u3) (u4) (u5) (u6) (u7) (Int32.ofInt 0) τ w σ'
theorem j126_58 {F f : Nat} {σ' τ : mS} {u1 : Int32} {u2 : Int32} {u3 : Int32} {u4 : Int32} {u5 : Int32} {u6 : Int32} {u7 : Int32} {y8 : Option mV} {w : mX} (hsτ : HS τ) (h : EV F f 126 z126 58 [some (rf 11 (0)), some (.inl (u1)), some (.inl (u2)), some (.inl (u3)), some (.inl (u4)), some (.inl (u5)), some (.inl (u6)), some (.inl (u7)), y8] [] τ (w, σ')) : J126_58 u1 u2 u3 u4 u5 u6 u7 τ w σ' := by
  unfold J126_58
  replace h := ei_p h rfl rfl rfl rfl
  obtain ⟨f, g, h⟩ := h
  clear g
  replace h : EV F f 126 z126 59 [some (rf 11 (0)), some (.inl (u1)), some (.inl (u2)), some (.inl (u3)), some (.inl (u4)), some (.inl (u5)), some (.inl (u6)), some (.inl (u7)), y8] [.inl (Int32.ofInt 0)] τ (w, σ') := h
  exact j126_59 hsτ h
def J126_19 (u1 : Int32) (u2 : Int32) (u3 : Int32) (u4 : Int32) (u5 : Int32) (u6 : Int32) (u7 : Int32) (t0 : Int32) (τ : mS) (w : mX) (σ' : mS) : Prop := ((∃ σ2, fw_e w160 τ σ2 ∧ P160 τ (t0) (.inl none) σ2 ∧ ∃ v5, P170 σ2 (u3) (u4) (u5) v5 ∧ (((v5).toInt = (0 : Int) ∧ J126_58 (u1) (u2) (u3) (u4) (u5) (u6) (u7) σ2 w σ') ∨ (¬ ((v5).toInt = (0 : Int)) ∧ ∃ v10, P163 σ2 (u6) (Int32.ofInt 0) (u5) v10 ∧ (((v10).toInt = (0 : Int) ∧ J126_58 (u1) (u2) (u3) (u4) (u5) (u6) (u7) σ2 w σ') ∨ (¬ ((v10).toInt = (0 : Int)) ∧ ∃ v15, P163 σ2 (u7) (Int32.ofInt 0) (Int32.ofInt 3) v15 ∧ (((v15).toInt = (0 : Int) ∧ J126_58 (u1) (u2) (u3) (u4) (u5) (u6) (u7) σ2 w σ') ∨ (¬ ((v15).toInt = (0 : Int)) ∧ J126_59 (u1) (u2) (u3) (u4) (u5) (u6) (u7) (Int32.ofInt 1) σ2 w σ'))))))) ∨ (∃ b, P160 τ (t0) (.inr b) σ' ∧ w = .inr b))
theorem j126_19 {F f : Nat} {σ' τ : mS} {u1 : Int32} {u2 : Int32} {u3 : Int32} {u4 : Int32} {u5 : Int32} {u6 : Int32} {u7 : Int32} {t0 : Int32} {y8 : Option mV} {w : mX} (hsτ : HS τ) (h : EV F f 126 z126 19 [some (rf 11 (0)), some (.inl (u1)), some (.inl (u2)), some (.inl (u3)), some (.inl (u4)), some (.inl (u5)), some (.inl (u6)), some (.inl (u7)), y8] [.inl (t0)] τ (w, σ')) : J126_19 u1 u2 u3 u4 u5 u6 u7 t0 τ w σ' := by
  unfold J126_19
  replace h := bx_0 (ei_s (as := [.inl (t0)]) h rfl (Nat.le_of_ble_eq_true rfl) rfl rfl) z160_at rfl
  rcases h with ⟨σ2, r3, f, g, h⟩ | ⟨b, σ2, r3, e⟩
  · skip
    clear g
    have p4 := x160 hsτ r3
    have hsσ2 : HS σ2 := HS_run rfl r3 hsτ
    refine Or.inl ⟨σ2, fw_run W160 rfl r3, p4, ?_⟩
    replace h : EV F f 126 z126 22 [some (rf 11 (0)), some (.inl (u1)), some (.inl (u2)), some (.inl (u3)), some (.inl (u4)), some (.inl (u5)), some (.inl (u6)), some (.inl (u7)), y8] [] σ2 (w, σ') := h
    replace h := ei_p h rfl rfl rfl rfl
    obtain ⟨f, g, h⟩ := h
    clear g
    replace h : EV F f 126 z126 23 [some (rf 11 (0)), some (.inl (u1)), some (.inl (u2)), some (.inl (u3)), some (.inl (u4)), some (.inl (u5)), some (.inl (u6)), some (.inl (u7)), y8] [.inl (u3)] σ2 (w, σ') := h
    replace h := ei_p h rfl rfl rfl rfl
    obtain ⟨f, g, h⟩ := h
    clear g
    replace h : EV F f 126 z126 25 [some (rf 11 (0)), some (.inl (u1)), some (.inl (u2)), some (.inl (u3)), some (.inl (u4)), some (.inl (u5)), some (.inl (u6)), some (.inl (u7)), y8] [.inl (u4), .inl (u3)] σ2 (w, σ') := h
    replace h := ei_p h rfl rfl rfl rfl
    obtain ⟨f, g, h⟩ := h
    clear g
    replace h : EV F f 126 z126 27 [some (rf 11 (0)), some (.inl (u1)), some (.inl (u2)), some (.inl (u3)), some (.inl (u4)), some (.inl (u5)), some (.inl (u6)), some (.inl (u7)), y8] [.inl (u5), .inl (u4), .inl (u3)] σ2 (w, σ') := h
    replace h := bk_I (ei_s (as := [.inl (u5), .inl (u4), .inl (u3)]) h rfl (Nat.le_of_ble_eq_true rfl) rfl rfl) rfl z170_at (Or.inr rfl)
    obtain ⟨v5, σ6, r7, f, g, h⟩ := h
    clear g
    have er7 := ro_run rfl r7
    rw [er7] at h r7
    have p8 := x170 hsσ2 r7
    refine ⟨v5, p8, ?_⟩
    replace h : EV F f 126 z126 30 [some (rf 11 (0)), some (.inl (u1)), some (.inl (u2)), some (.inl (u3)), some (.inl (u4)), some (.inl (u5)), some (.inl (u6)), some (.inl (u7)), y8] [.inl (v5)] σ2 (w, σ') := h
    replace h := ei_c h rfl rfl rfl
    rcases h with ⟨hp9, f, g, h⟩ | ⟨hp9, f, g, h⟩
    · skip
      replace hp9 : (v5).toInt = (0 : Int) := ic_eq.mp hp9
      refine Or.inl ⟨hp9, ?_⟩
      clear g
      replace h : EV F f 126 z126 58 [some (rf 11 (0)), some (.inl (u1)), some (.inl (u2)), some (.inl (u3)), some (.inl (u4)), some (.inl (u5)), some (.inl (u6)), some (.inl (u7)), y8] [] σ2 (w, σ') := h
      exact j126_58 hsσ2 h
    · skip
      replace hp9 : ¬ ((v5).toInt = (0 : Int)) := (not_congr ic_eq).mp hp9
      refine Or.inr ⟨hp9, ?_⟩
      clear g
      replace h : EV F f 126 z126 33 [some (rf 11 (0)), some (.inl (u1)), some (.inl (u2)), some (.inl (u3)), some (.inl (u4)), some (.inl (u5)), some (.inl (u6)), some (.inl (u7)), y8] [] σ2 (w, σ') := h
      replace h := ei_p h rfl rfl rfl rfl
      obtain ⟨f, g, h⟩ := h
      clear g
      replace h : EV F f 126 z126 35 [some (rf 11 (0)), some (.inl (u1)), some (.inl (u2)), some (.inl (u3)), some (.inl (u4)), some (.inl (u5)), some (.inl (u6)), some (.inl (u7)), y8] [.inl (u6)] σ2 (w, σ') := h
      replace h := ei_p h rfl rfl rfl rfl
      obtain ⟨f, g, h⟩ := h
      clear g
      replace h : EV F f 126 z126 36 [some (rf 11 (0)), some (.inl (u1)), some (.inl (u2)), some (.inl (u3)), some (.inl (u4)), some (.inl (u5)), some (.inl (u6)), some (.inl (u7)), y8] [.inl (Int32.ofInt 0), .inl (u6)] σ2 (w, σ') := h
      replace h := ei_p h rfl rfl rfl rfl
      obtain ⟨f, g, h⟩ := h
      clear g
      replace h : EV F f 126 z126 38 [some (rf 11 (0)), some (.inl (u1)), some (.inl (u2)), some (.inl (u3)), some (.inl (u4)), some (.inl (u5)), some (.inl (u6)), some (.inl (u7)), y8] [.inl (u5), .inl (Int32.ofInt 0), .inl (u6)] σ2 (w, σ') := h
      replace h := bk_I (ei_s (as := [.inl (u5), .inl (Int32.ofInt 0), .inl (u6)]) h rfl (Nat.le_of_ble_eq_true rfl) rfl rfl) rfl z163_at (Or.inr rfl)
      obtain ⟨v10, σ11, r12, f, g, h⟩ := h
      clear g
      have er12 := ro_run rfl r12
      rw [er12] at h r12
      have p13 := x163 hsσ2 r12
      refine ⟨v10, p13, ?_⟩
      replace h : EV F f 126 z126 41 [some (rf 11 (0)), some (.inl (u1)), some (.inl (u2)), some (.inl (u3)), some (.inl (u4)), some (.inl (u5)), some (.inl (u6)), some (.inl (u7)), y8] [.inl (v10)] σ2 (w, σ') := h
      replace h := ei_c h rfl rfl rfl
      rcases h with ⟨hp14, f, g, h⟩ | ⟨hp14, f, g, h⟩
      · skip
        replace hp14 : (v10).toInt = (0 : Int) := ic_eq.mp hp14
        refine Or.inl ⟨hp14, ?_⟩
        clear g
        replace h : EV F f 126 z126 58 [some (rf 11 (0)), some (.inl (u1)), some (.inl (u2)), some (.inl (u3)), some (.inl (u4)), some (.inl (u5)), some (.inl (u6)), some (.inl (u7)), y8] [] σ2 (w, σ') := h
        exact j126_58 hsσ2 h
      · skip
        replace hp14 : ¬ ((v10).toInt = (0 : Int)) := (not_congr ic_eq).mp hp14
        refine Or.inr ⟨hp14, ?_⟩
        clear g
        replace h : EV F f 126 z126 44 [some (rf 11 (0)), some (.inl (u1)), some (.inl (u2)), some (.inl (u3)), some (.inl (u4)), some (.inl (u5)), some (.inl (u6)), some (.inl (u7)), y8] [] σ2 (w, σ') := h
        replace h := ei_p h rfl rfl rfl rfl
        obtain ⟨f, g, h⟩ := h
        clear g
        replace h : EV F f 126 z126 46 [some (rf 11 (0)), some (.inl (u1)), some (.inl (u2)), some (.inl (u3)), some (.inl (u4)), some (.inl (u5)), some (.inl (u6)), some (.inl (u7)), y8] [.inl (u7)] σ2 (w, σ') := h
        replace h := ei_p h rfl rfl rfl rfl
        obtain ⟨f, g, h⟩ := h
        clear g
        replace h : EV F f 126 z126 47 [some (rf 11 (0)), some (.inl (u1)), some (.inl (u2)), some (.inl (u3)), some (.inl (u4)), some (.inl (u5)), some (.inl (u6)), some (.inl (u7)), y8] [.inl (Int32.ofInt 0), .inl (u7)] σ2 (w, σ') := h
        replace h := ei_p h rfl rfl rfl rfl
        obtain ⟨f, g, h⟩ := h
        clear g
        replace h : EV F f 126 z126 48 [some (rf 11 (0)), some (.inl (u1)), some (.inl (u2)), some (.inl (u3)), some (.inl (u4)), some (.inl (u5)), some (.inl (u6)), some (.inl (u7)), y8] [.inl (Int32.ofInt 3), .inl (Int32.ofInt 0), .inl (u7)] σ2 (w, σ') := h
        replace h := bk_I (ei_s (as := [.inl (Int32.ofInt 3), .inl (Int32.ofInt 0), .inl (u7)]) h rfl (Nat.le_of_ble_eq_true rfl) rfl rfl) rfl z163_at (Or.inr rfl)
        obtain ⟨v15, σ16, r17, f, g, h⟩ := h
        clear g
        have er17 := ro_run rfl r17
        rw [er17] at h r17
        have p18 := x163 hsσ2 r17
        refine ⟨v15, p18, ?_⟩
        replace h : EV F f 126 z126 51 [some (rf 11 (0)), some (.inl (u1)), some (.inl (u2)), some (.inl (u3)), some (.inl (u4)), some (.inl (u5)), some (.inl (u6)), some (.inl (u7)), y8] [.inl (v15)] σ2 (w, σ') := h
        replace h := ei_c h rfl rfl rfl
        rcases h with ⟨hp19, f, g, h⟩ | ⟨hp19, f, g, h⟩
        · skip
          replace hp19 : (v15).toInt = (0 : Int) := ic_eq.mp hp19
          refine Or.inl ⟨hp19, ?_⟩
          clear g
          replace h : EV F f 126 z126 58 [some (rf 11 (0)), some (.inl (u1)), some (.inl (u2)), some (.inl (u3)), some (.inl (u4)), some (.inl (u5)), some (.inl (u6)), some (.inl (u7)), y8] [] σ2 (w, σ') := h
          exact j126_58 hsσ2 h
        · skip
          replace hp19 : ¬ ((v15).toInt = (0 : Int)) := (not_congr ic_eq).mp hp19
          refine Or.inr ⟨hp19, ?_⟩
          clear g
          replace h : EV F f 126 z126 54 [some (rf 11 (0)), some (.inl (u1)), some (.inl (u2)), some (.inl (u3)), some (.inl (u4)), some (.inl (u5)), some (.inl (u6)), some (.inl (u7)), y8] [] σ2 (w, σ') := h
          replace h := ei_p h rfl rfl rfl rfl
          obtain ⟨f, g, h⟩ := h
          clear g
          replace h : EV F f 126 z126 55 [some (rf 11 (0)), some (.inl (u1)), some (.inl (u2)), some (.inl (u3)), some (.inl (u4)), some (.inl (u5)), some (.inl (u6)), some (.inl (u7)), y8] [.inl (Int32.ofInt 1)] σ2 (w, σ') := h
          replace h := ei_p h rfl rfl rfl rfl
          obtain ⟨f, g, h⟩ := h
          clear g
          replace h : EV F f 126 z126 59 [some (rf 11 (0)), some (.inl (u1)), some (.inl (u2)), some (.inl (u3)), some (.inl (u4)), some (.inl (u5)), some (.inl (u6)), some (.inl (u7)), y8] [.inl (Int32.ofInt 1)] σ2 (w, σ') := h
          exact j126_59 hsσ2 h
  · skip
    have p4 := x160 hsτ r3
    cases e
    exact Or.inr ⟨b, p4, rfl⟩
def J126_18 (u1 : Int32) (u2 : Int32) (u3 : Int32) (u4 : Int32) (u5 : Int32) (u6 : Int32) (u7 : Int32) (τ : mS) (w : mX) (σ' : mS) : Prop := J126_19 (u1) (u2) (u3) (u4) (u5) (u6) (u7) (Int32.ofInt 0) τ w σ'
theorem j126_18 {F f : Nat} {σ' τ : mS} {u1 : Int32} {u2 : Int32} {u3 : Int32} {u4 : Int32} {u5 : Int32} {u6 : Int32} {u7 : Int32} {y8 : Option mV} {w : mX} (hsτ : HS τ) (h : EV F f 126 z126 18 [some (rf 11 (0)), some (.inl (u1)), some (.inl (u2)), some (.inl (u3)), some (.inl (u4)), some (.inl (u5)), some (.inl (u6)), some (.inl (u7)), y8] [] τ (w, σ')) : J126_18 u1 u2 u3 u4 u5 u6 u7 τ w σ' := by
  unfold J126_18
  replace h := ei_p h rfl rfl rfl rfl
  obtain ⟨f, g, h⟩ := h
  clear g
  replace h : EV F f 126 z126 19 [some (rf 11 (0)), some (.inl (u1)), some (.inl (u2)), some (.inl (u3)), some (.inl (u4)), some (.inl (u5)), some (.inl (u6)), some (.inl (u7)), y8] [.inl (Int32.ofInt 0)] τ (w, σ') := h
  exact j126_19 hsτ h
def P126 (σ : mS) (x1 : Int32) (x2 : Int32) (x3 : Int32) (x4 : Int32) (x5 : Int32) (x6 : Int32) (x7 : Int32) (w : mX) (σ' : mS) : Prop := ∃ v1, P164 σ (x1) v1 ∧ (((v1).toInt = (0 : Int) ∧ J126_18 (x1) (x2) (x3) (x4) (x5) (x6) (x7) σ w σ') ∨ (¬ ((v1).toInt = (0 : Int)) ∧ ∃ v6, P166 σ (x2) v6 ∧ (((v6).toInt = (0 : Int) ∧ J126_18 (x1) (x2) (x3) (x4) (x5) (x6) (x7) σ w σ') ∨ (¬ ((v6).toInt = (0 : Int)) ∧ J126_19 (x1) (x2) (x3) (x4) (x5) (x6) (x7) (Int32.ofInt 1) σ w σ'))))
theorem x126 {σ σ' : mS} {x1 : Int32} {x2 : Int32} {x3 : Int32} {x4 : Int32} {x5 : Int32} {x6 : Int32} {x7 : Int32} {w : mX} (hs : HS σ) (h : ev_run sm_all 126 [rf 11 (0), .inl (x1), .inl (x2), .inl (x3), .inl (x4), .inl (x5), .inl (x6), .inl (x7)] σ (w) σ') : P126 σ x1 x2 x3 x4 x5 x6 x7 w σ' := by
  unfold P126
  obtain ⟨F, f, h⟩ := ei_go h z126_at
  replace h : EV F f 126 z126 0 [some (rf 11 (0)), some (.inl (x1)), some (.inl (x2)), some (.inl (x3)), some (.inl (x4)), some (.inl (x5)), some (.inl (x6)), some (.inl (x7)), none] [] σ (w, σ') := h
  replace h := ei_p h rfl rfl rfl rfl
  obtain ⟨f, g, h⟩ := h
  clear g
  replace h : EV F f 126 z126 1 [some (rf 11 (0)), some (.inl (x1)), some (.inl (x2)), some (.inl (x3)), some (.inl (x4)), some (.inl (x5)), some (.inl (x6)), some (.inl (x7)), none] [.inl (x1)] σ (w, σ') := h
  replace h := bk_I (ei_s (as := [.inl (x1)]) h rfl (Nat.le_of_ble_eq_true rfl) rfl rfl) rfl z164_at (Or.inr rfl)
  obtain ⟨v1, σ2, r3, f, g, h⟩ := h
  clear g
  have er3 := ro_run rfl r3
  rw [er3] at h r3
  have p4 := x164 hs r3
  refine ⟨v1, p4, ?_⟩
  replace h : EV F f 126 z126 4 [some (rf 11 (0)), some (.inl (x1)), some (.inl (x2)), some (.inl (x3)), some (.inl (x4)), some (.inl (x5)), some (.inl (x6)), some (.inl (x7)), none] [.inl (v1)] σ (w, σ') := h
  replace h := ei_c h rfl rfl rfl
  rcases h with ⟨hp5, f, g, h⟩ | ⟨hp5, f, g, h⟩
  · skip
    replace hp5 : (v1).toInt = (0 : Int) := ic_eq.mp hp5
    refine Or.inl ⟨hp5, ?_⟩
    clear g
    replace h : EV F f 126 z126 18 [some (rf 11 (0)), some (.inl (x1)), some (.inl (x2)), some (.inl (x3)), some (.inl (x4)), some (.inl (x5)), some (.inl (x6)), some (.inl (x7)), none] [] σ (w, σ') := h
    exact j126_18 hs h
  · skip
    replace hp5 : ¬ ((v1).toInt = (0 : Int)) := (not_congr ic_eq).mp hp5
    refine Or.inr ⟨hp5, ?_⟩
    clear g
    replace h : EV F f 126 z126 7 [some (rf 11 (0)), some (.inl (x1)), some (.inl (x2)), some (.inl (x3)), some (.inl (x4)), some (.inl (x5)), some (.inl (x6)), some (.inl (x7)), none] [] σ (w, σ') := h
    replace h := ei_p h rfl rfl rfl rfl
    obtain ⟨f, g, h⟩ := h
    clear g
    replace h : EV F f 126 z126 8 [some (rf 11 (0)), some (.inl (x1)), some (.inl (x2)), some (.inl (x3)), some (.inl (x4)), some (.inl (x5)), some (.inl (x6)), some (.inl (x7)), none] [.inl (x2)] σ (w, σ') := h
    replace h := bk_I (ei_s (as := [.inl (x2)]) h rfl (Nat.le_of_ble_eq_true rfl) rfl rfl) rfl z166_at (Or.inr rfl)
    obtain ⟨v6, σ7, r8, f, g, h⟩ := h
    clear g
    have er8 := ro_run rfl r8
    rw [er8] at h r8
    have p9 := x166 hs r8
    refine ⟨v6, p9, ?_⟩
    replace h : EV F f 126 z126 11 [some (rf 11 (0)), some (.inl (x1)), some (.inl (x2)), some (.inl (x3)), some (.inl (x4)), some (.inl (x5)), some (.inl (x6)), some (.inl (x7)), none] [.inl (v6)] σ (w, σ') := h
    replace h := ei_c h rfl rfl rfl
    rcases h with ⟨hp10, f, g, h⟩ | ⟨hp10, f, g, h⟩
    · skip
      replace hp10 : (v6).toInt = (0 : Int) := ic_eq.mp hp10
      refine Or.inl ⟨hp10, ?_⟩
      clear g
      replace h : EV F f 126 z126 18 [some (rf 11 (0)), some (.inl (x1)), some (.inl (x2)), some (.inl (x3)), some (.inl (x4)), some (.inl (x5)), some (.inl (x6)), some (.inl (x7)), none] [] σ (w, σ') := h
      exact j126_18 hs h
    · skip
      replace hp10 : ¬ ((v6).toInt = (0 : Int)) := (not_congr ic_eq).mp hp10
      refine Or.inr ⟨hp10, ?_⟩
      clear g
      replace h : EV F f 126 z126 14 [some (rf 11 (0)), some (.inl (x1)), some (.inl (x2)), some (.inl (x3)), some (.inl (x4)), some (.inl (x5)), some (.inl (x6)), some (.inl (x7)), none] [] σ (w, σ') := h
      replace h := ei_p h rfl rfl rfl rfl
      obtain ⟨f, g, h⟩ := h
      clear g
      replace h : EV F f 126 z126 15 [some (rf 11 (0)), some (.inl (x1)), some (.inl (x2)), some (.inl (x3)), some (.inl (x4)), some (.inl (x5)), some (.inl (x6)), some (.inl (x7)), none] [.inl (Int32.ofInt 1)] σ (w, σ') := h
      replace h := ei_p h rfl rfl rfl rfl
      obtain ⟨f, g, h⟩ := h
      clear g
      replace h : EV F f 126 z126 19 [some (rf 11 (0)), some (.inl (x1)), some (.inl (x2)), some (.inl (x3)), some (.inl (x4)), some (.inl (x5)), some (.inl (x6)), some (.inl (x7)), none] [.inl (Int32.ofInt 1)] σ (w, σ') := h
      exact j126_19 hs h
def z127 : mAl := ((yX11_stop, cX11_stop, 8, (some .int), { frames := 7, cells := 4, slots := 27, locals := 190 }, []), rw_X11_stop, false)
theorem z127_at : m_alF[127]? = some z127 := rfl
abbrev L127 : List (Nat × Nat) := [(0, 1), (0, 2), (1, 0), (1, 1), (1, 2), (1, 3), (1, 4), (1, 5), (1, 6), (1, 7), (1, 8), (1, 9), (1, 10), (1, 11), (1, 12), (1, 13), (1, 14), (1, 15), (2, 5), (2, 6), (2, 7), (2, 8), (2, 9), (2, 10), (3, 3), (3, 4), (3, 5), (5, 2), (6, 2), (6, 3), (6, 4), (6, 5), (6, 6), (6, 7), (6, 8), (6, 9), (6, 10), (7, 1), (7, 2), (7, 3), (7, 4), (7, 5), (7, 6), (7, 7), (7, 8), (7, 9), (7, 10), (7, 11), (7, 12), (8, 1), (8, 2), (8, 3), (8, 4), (8, 5), (8, 6), (8, 7), (8, 8), (10, 0), (10, 1), (10, 2), (10, 3), (10, 4), (10, 5), (10, 6), (10, 7), (10, 8), (10, 9), (11, 3), (11, 4), (11, 5), (13, 0), (14, 0)]
abbrev w127 : Nat → Nat → Bool := wl L127
def S127 : List Nat := [2, 3, 4, 5, 6, 8, 9, 10, 11, 12, 13, 14, 15, 16, 18, 19, 22, 23, 24, 25, 26, 27, 28, 29, 30, 31, 32, 34, 35, 36, 37, 38, 39, 40, 41, 42, 43, 44, 45, 46, 47, 48, 51, 53, 54, 61, 62, 63, 64, 65, 66, 67, 68, 69, 70, 71, 72, 73, 74, 75, 76, 78, 79, 80, 81, 82, 83, 85, 86, 90, 91, 92, 95, 99, 100, 102, 103, 104, 105, 106, 107, 112, 113, 114, 115, 116, 117, 127, 158, 159, 160, 161, 162, 163, 164, 166, 167, 168, 170, 190]
theorem W127 : fw_S w127 S127 = true := by decide +kernel
def J127_81 (u1 : Int32) (u2 : Int32) (u3 : Int32) (u4 : Int32) (u5 : Int32) (u6 : Int32) (t0 : Int32) (τ : mS) (w : mX) (σ' : mS) : Prop := ((∃ σ2, fw_e w162 τ σ2 ∧ P162 τ (t0) (.inl none) σ2 ∧ ∃ σ5, σ5 = m_nu σ2 1 0 ∧ ∃ σ8, fw_e w18 σ5 σ8 ∧ P18 σ5 (σ2.1 1) (Int32.ofInt 3) (u1) (u2) (u3) σ8 ∧ ∃ v11 σ12, fw_e w19 σ8 σ12 ∧ P19 σ8 (σ2.1 1) (u4) (u5) (u6) (Int32.ofInt 0) v11 σ12 ∧ ∃ v15 σ16, fw_e w61 σ12 σ16 ∧ P61 σ12 (v11) v15 σ16 ∧ ∃ v19 σ20, fw_e w158 σ16 σ20 ∧ P158 σ16 (v11) (v15) v19 σ20 ∧ w = .inl (some (.inl ((v19).toInt32))) ∧ σ' = σ20) ∨ (∃ b, P162 τ (t0) (.inr b) σ' ∧ w = .inr b))
theorem j127_81 {F f : Nat} {σ' τ : mS} {u1 : Int32} {u2 : Int32} {u3 : Int32} {u4 : Int32} {u5 : Int32} {u6 : Int32} {t0 : Int32} {y7 : Option mV} {w : mX} (hsτ : HS τ) (h : EV F f 127 z127 81 [some (rf 11 (0)), some (.inl (u1)), some (.inl (u2)), some (.inl (u3)), some (.inl (u4)), some (.inl (u5)), some (.inl (u6)), y7] [.inl (t0)] τ (w, σ')) : J127_81 u1 u2 u3 u4 u5 u6 t0 τ w σ' := by
  unfold J127_81
  replace h := bx_0 (ei_s (as := [.inl (t0)]) h rfl (Nat.le_of_ble_eq_true rfl) rfl rfl) z162_at rfl
  rcases h with ⟨σ2, r3, f, g, h⟩ | ⟨b, σ2, r3, e⟩
  · skip
    clear g
    have p4 := x162 hsτ r3
    have hsσ2 : HS σ2 := HS_run rfl r3 hsτ
    refine Or.inl ⟨σ2, fw_run W162 rfl r3, p4, ?_⟩
    replace h : EV F f 127 z127 84 [some (rf 11 (0)), some (.inl (u1)), some (.inl (u2)), some (.inl (u3)), some (.inl (u4)), some (.inl (u5)), some (.inl (u6)), y7] [] σ2 (w, σ') := h
    replace h := ei_new h rfl (by decide)
    obtain ⟨f, g, h⟩ := h
    clear g
    obtain ⟨σ5, e6⟩ : ∃ s, s = m_nu σ2 1 0 := ⟨_, rfl⟩
    rw [← e6] at h
    have hsσ5 : HS σ5 := by rw [e6]; exact HS_nu hsσ2 (by decide)
    refine ⟨σ5, e6, ?_⟩
    replace h : EV F f 127 z127 87 [some (rf 11 (0)), some (.inl (u1)), some (.inl (u2)), some (.inl (u3)), some (.inl (u4)), some (.inl (u5)), some (.inl (u6)), y7] [rf 1 (σ2.1 1)] σ5 (w, σ') := h
    replace h := ei_p h rfl rfl rfl rfl
    obtain ⟨f, g, h⟩ := h
    clear g
    replace h : EV F f 127 z127 88 [some (rf 11 (0)), some (.inl (u1)), some (.inl (u2)), some (.inl (u3)), some (.inl (u4)), some (.inl (u5)), some (.inl (u6)), y7] [rf 1 (σ2.1 1), rf 1 (σ2.1 1)] σ5 (w, σ') := h
    replace h := ei_p h rfl rfl rfl rfl
    obtain ⟨f, g, h⟩ := h
    clear g
    replace h : EV F f 127 z127 89 [some (rf 11 (0)), some (.inl (u1)), some (.inl (u2)), some (.inl (u3)), some (.inl (u4)), some (.inl (u5)), some (.inl (u6)), y7] [.inl (Int32.ofInt 3), rf 1 (σ2.1 1), rf 1 (σ2.1 1)] σ5 (w, σ') := h
    replace h := ei_p h rfl rfl rfl rfl
    obtain ⟨f, g, h⟩ := h
    clear g
    replace h : EV F f 127 z127 90 [some (rf 11 (0)), some (.inl (u1)), some (.inl (u2)), some (.inl (u3)), some (.inl (u4)), some (.inl (u5)), some (.inl (u6)), y7] [.inl (u1), .inl (Int32.ofInt 3), rf 1 (σ2.1 1), rf 1 (σ2.1 1)] σ5 (w, σ') := h
    replace h := ei_p h rfl rfl rfl rfl
    obtain ⟨f, g, h⟩ := h
    clear g
    replace h : EV F f 127 z127 91 [some (rf 11 (0)), some (.inl (u1)), some (.inl (u2)), some (.inl (u3)), some (.inl (u4)), some (.inl (u5)), some (.inl (u6)), y7] [.inl (u2), .inl (u1), .inl (Int32.ofInt 3), rf 1 (σ2.1 1), rf 1 (σ2.1 1)] σ5 (w, σ') := h
    replace h := ei_p h rfl rfl rfl rfl
    obtain ⟨f, g, h⟩ := h
    clear g
    replace h : EV F f 127 z127 92 [some (rf 11 (0)), some (.inl (u1)), some (.inl (u2)), some (.inl (u3)), some (.inl (u4)), some (.inl (u5)), some (.inl (u6)), y7] [.inl (u3), .inl (u2), .inl (u1), .inl (Int32.ofInt 3), rf 1 (σ2.1 1), rf 1 (σ2.1 1)] σ5 (w, σ') := h
    replace h := bk_0 (ei_x (as := [.inl (u3), .inl (u2), .inl (u1), .inl (Int32.ofInt 3)]) h rfl rfl rfl) rfl z18_at rfl
    obtain ⟨σ8, r9, f, g, h⟩ := h
    clear g
    have p10 := x18 hsσ5 r9
    have hsσ8 : HS σ8 := HS_run rfl r9 hsσ5
    refine ⟨σ8, fw_run W18 rfl r9, p10, ?_⟩
    replace h : EV F f 127 z127 95 [some (rf 11 (0)), some (.inl (u1)), some (.inl (u2)), some (.inl (u3)), some (.inl (u4)), some (.inl (u5)), some (.inl (u6)), y7] [rf 1 (σ2.1 1)] σ8 (w, σ') := h
    replace h := ei_p h rfl rfl rfl rfl
    obtain ⟨f, g, h⟩ := h
    clear g
    replace h : EV F f 127 z127 97 [some (rf 11 (0)), some (.inl (u1)), some (.inl (u2)), some (.inl (u3)), some (.inl (u4)), some (.inl (u5)), some (.inl (u6)), y7] [.inl (u4), rf 1 (σ2.1 1)] σ8 (w, σ') := h
    replace h := ei_p h rfl rfl rfl rfl
    obtain ⟨f, g, h⟩ := h
    clear g
    replace h : EV F f 127 z127 99 [some (rf 11 (0)), some (.inl (u1)), some (.inl (u2)), some (.inl (u3)), some (.inl (u4)), some (.inl (u5)), some (.inl (u6)), y7] [.inl (u5), .inl (u4), rf 1 (σ2.1 1)] σ8 (w, σ') := h
    replace h := ei_p h rfl rfl rfl rfl
    obtain ⟨f, g, h⟩ := h
    clear g
    replace h : EV F f 127 z127 101 [some (rf 11 (0)), some (.inl (u1)), some (.inl (u2)), some (.inl (u3)), some (.inl (u4)), some (.inl (u5)), some (.inl (u6)), y7] [.inl (u6), .inl (u5), .inl (u4), rf 1 (σ2.1 1)] σ8 (w, σ') := h
    replace h := ei_p h rfl rfl rfl rfl
    obtain ⟨f, g, h⟩ := h
    clear g
    replace h : EV F f 127 z127 102 [some (rf 11 (0)), some (.inl (u1)), some (.inl (u2)), some (.inl (u3)), some (.inl (u4)), some (.inl (u5)), some (.inl (u6)), y7] [.inl (Int32.ofInt 0), .inl (u6), .inl (u5), .inl (u4), rf 1 (σ2.1 1)] σ8 (w, σ') := h
    replace h := bk_R (ei_v (as := [.inl (Int32.ofInt 0), .inl (u6), .inl (u5), .inl (u4)]) h rfl rfl rfl) rfl z19_at rfl
    obtain ⟨v11, σ12, r13, f, g, h⟩ := h
    clear g
    have p14 := x19 hsσ8 r13
    have hsσ12 : HS σ12 := HS_run rfl r13 hsσ8
    refine ⟨v11, σ12, fw_run W19 rfl r13, p14, ?_⟩
    replace h : EV F f 127 z127 105 [some (rf 11 (0)), some (.inl (u1)), some (.inl (u2)), some (.inl (u3)), some (.inl (u4)), some (.inl (u5)), some (.inl (u6)), y7] [.inr (.inr (v11))] σ12 (w, σ') := h
    replace h := ei_p h rfl rfl rfl rfl
    obtain ⟨f, g, h⟩ := h
    clear g
    replace h : EV F f 127 z127 107 [some (rf 11 (0)), some (.inl (u1)), some (.inl (u2)), some (.inl (u3)), some (.inl (u4)), some (.inl (u5)), some (.inl (u6)), some (.inr (.inr (v11)))] [] σ12 (w, σ') := h
    replace h := ei_p h rfl rfl rfl rfl
    obtain ⟨f, g, h⟩ := h
    clear g
    replace h : EV F f 127 z127 108 [some (rf 11 (0)), some (.inl (u1)), some (.inl (u2)), some (.inl (u3)), some (.inl (u4)), some (.inl (u5)), some (.inl (u6)), some (.inr (.inr (v11)))] [rf 11 (0)] σ12 (w, σ') := h
    replace h := ei_p h rfl rfl rfl rfl
    obtain ⟨f, g, h⟩ := h
    clear g
    replace h : EV F f 127 z127 110 [some (rf 11 (0)), some (.inl (u1)), some (.inl (u2)), some (.inl (u3)), some (.inl (u4)), some (.inl (u5)), some (.inl (u6)), some (.inr (.inr (v11)))] [.inr (.inr (v11)), rf 11 (0)] σ12 (w, σ') := h
    replace h := ei_p h rfl rfl rfl rfl
    obtain ⟨f, g, h⟩ := h
    clear g
    replace h : EV F f 127 z127 111 [some (rf 11 (0)), some (.inl (u1)), some (.inl (u2)), some (.inl (u3)), some (.inl (u4)), some (.inl (u5)), some (.inl (u6)), some (.inr (.inr (v11)))] [rf 11 (0), .inr (.inr (v11)), rf 11 (0)] σ12 (w, σ') := h
    replace h := ei_get h rfl (HS_g11_0 hsσ12)
    obtain ⟨f, g, h⟩ := h
    clear g
    replace h : EV F f 127 z127 114 [some (rf 11 (0)), some (.inl (u1)), some (.inl (u2)), some (.inl (u3)), some (.inl (u4)), some (.inl (u5)), some (.inl (u6)), some (.inr (.inr (v11)))] [rf 4 (0), .inr (.inr (v11)), rf 11 (0)] σ12 (w, σ') := h
    replace h := ei_p h rfl rfl rfl rfl
    obtain ⟨f, g, h⟩ := h
    clear g
    replace h : EV F f 127 z127 116 [some (rf 11 (0)), some (.inl (u1)), some (.inl (u2)), some (.inl (u3)), some (.inl (u4)), some (.inl (u5)), some (.inl (u6)), some (.inr (.inr (v11)))] [.inr (.inr (v11)), rf 4 (0), .inr (.inr (v11)), rf 11 (0)] σ12 (w, σ') := h
    replace h := bk_L (ei_v (as := [.inr (.inr (v11))]) h rfl rfl rfl) rfl z61_at rfl
    obtain ⟨v15, σ16, r17, f, g, h⟩ := h
    clear g
    have p18 := x61 hsσ12 r17
    have hsσ16 : HS σ16 := HS_run rfl r17 hsσ12
    refine ⟨v15, σ16, fw_run W61 rfl r17, p18, ?_⟩
    replace h : EV F f 127 z127 119 [some (rf 11 (0)), some (.inl (u1)), some (.inl (u2)), some (.inl (u3)), some (.inl (u4)), some (.inl (u5)), some (.inl (u6)), some (.inr (.inr (v11)))] [.inr (.inl (v15)), .inr (.inr (v11)), rf 11 (0)] σ16 (w, σ') := h
    replace h := bk_L (ei_v (as := [.inr (.inl (v15)), .inr (.inr (v11))]) h rfl rfl rfl) rfl z158_at rfl
    obtain ⟨v19, σ20, r21, f, g, h⟩ := h
    clear g
    have p22 := x158 hsσ16 r21
    have hsσ20 : HS σ20 := HS_run rfl r21 hsσ16
    refine ⟨v19, σ20, fw_run W158 rfl r21, p22, ?_⟩
    replace h : EV F f 127 z127 122 [some (rf 11 (0)), some (.inl (u1)), some (.inl (u2)), some (.inl (u3)), some (.inl (u4)), some (.inl (u5)), some (.inl (u6)), some (.inr (.inr (v11)))] [.inr (.inl (v19))] σ20 (w, σ') := h
    replace h := ei_p h rfl rfl rfl rfl
    obtain ⟨f, g, h⟩ := h
    clear g
    replace h : EV F f 127 z127 123 [some (rf 11 (0)), some (.inl (u1)), some (.inl (u2)), some (.inl (u3)), some (.inl (u4)), some (.inl (u5)), some (.inl (u6)), some (.inr (.inr (v11)))] [.inl ((v19).toInt32)] σ20 (w, σ') := h
    have e := ei_iret h rfl
    cases e
    exact ⟨rfl, rfl⟩
  · skip
    have p4 := x162 hsτ r3
    cases e
    exact Or.inr ⟨b, p4, rfl⟩
def J127_80 (u1 : Int32) (u2 : Int32) (u3 : Int32) (u4 : Int32) (u5 : Int32) (u6 : Int32) (τ : mS) (w : mX) (σ' : mS) : Prop := J127_81 (u1) (u2) (u3) (u4) (u5) (u6) (Int32.ofInt 0) τ w σ'
theorem j127_80 {F f : Nat} {σ' τ : mS} {u1 : Int32} {u2 : Int32} {u3 : Int32} {u4 : Int32} {u5 : Int32} {u6 : Int32} {y7 : Option mV} {w : mX} (hsτ : HS τ) (h : EV F f 127 z127 80 [some (rf 11 (0)), some (.inl (u1)), some (.inl (u2)), some (.inl (u3)), some (.inl (u4)), some (.inl (u5)), some (.inl (u6)), y7] [] τ (w, σ')) : J127_80 u1 u2 u3 u4 u5 u6 τ w σ' := by
  unfold J127_80
  replace h := ei_p h rfl rfl rfl rfl
  obtain ⟨f, g, h⟩ := h
  clear g
  replace h : EV F f 127 z127 81 [some (rf 11 (0)), some (.inl (u1)), some (.inl (u2)), some (.inl (u3)), some (.inl (u4)), some (.inl (u5)), some (.inl (u6)), y7] [.inl (Int32.ofInt 0)] τ (w, σ') := h
  exact j127_81 hsτ h
def J127_46 (u1 : Int32) (u2 : Int32) (u3 : Int32) (u4 : Int32) (u5 : Int32) (u6 : Int32) (t0 : Int32) (τ : mS) (w : mX) (σ' : mS) : Prop := ((∃ σ2, fw_e w161 τ σ2 ∧ P161 τ (t0) (.inl none) σ2 ∧ ∃ v5, P26 σ2 (u1) v5 ∧ (((v5).toInt ≠ (0 : Int) ∧ J127_80 (u1) (u2) (u3) (u4) (u5) (u6) σ2 w σ') ∨ (¬ ((v5).toInt ≠ (0 : Int)) ∧ ∃ v10, P2 σ2 v10 ∧ (((v10).toInt = (0 : Int) ∧ J127_80 (u1) (u2) (u3) (u4) (u5) (u6) σ2 w σ') ∨ (¬ ((v10).toInt = (0 : Int)) ∧ J127_81 (u1) (u2) (u3) (u4) (u5) (u6) (Int32.ofInt 1) σ2 w σ'))))) ∨ (∃ b, P161 τ (t0) (.inr b) σ' ∧ w = .inr b))
theorem j127_46 {F f : Nat} {σ' τ : mS} {u1 : Int32} {u2 : Int32} {u3 : Int32} {u4 : Int32} {u5 : Int32} {u6 : Int32} {t0 : Int32} {y7 : Option mV} {w : mX} (hsτ : HS τ) (h : EV F f 127 z127 46 [some (rf 11 (0)), some (.inl (u1)), some (.inl (u2)), some (.inl (u3)), some (.inl (u4)), some (.inl (u5)), some (.inl (u6)), y7] [.inl (t0)] τ (w, σ')) : J127_46 u1 u2 u3 u4 u5 u6 t0 τ w σ' := by
  unfold J127_46
  replace h := bx_0 (ei_s (as := [.inl (t0)]) h rfl (Nat.le_of_ble_eq_true rfl) rfl rfl) z161_at rfl
  rcases h with ⟨σ2, r3, f, g, h⟩ | ⟨b, σ2, r3, e⟩
  · skip
    clear g
    have p4 := x161 hsτ r3
    have hsσ2 : HS σ2 := HS_run rfl r3 hsτ
    refine Or.inl ⟨σ2, fw_run W161 rfl r3, p4, ?_⟩
    replace h : EV F f 127 z127 49 [some (rf 11 (0)), some (.inl (u1)), some (.inl (u2)), some (.inl (u3)), some (.inl (u4)), some (.inl (u5)), some (.inl (u6)), y7] [] σ2 (w, σ') := h
    replace h := ei_p h rfl rfl rfl rfl
    obtain ⟨f, g, h⟩ := h
    clear g
    replace h : EV F f 127 z127 50 [some (rf 11 (0)), some (.inl (u1)), some (.inl (u2)), some (.inl (u3)), some (.inl (u4)), some (.inl (u5)), some (.inl (u6)), y7] [rf 11 (0)] σ2 (w, σ') := h
    replace h := ei_get h rfl (HS_g11_0 hsσ2)
    obtain ⟨f, g, h⟩ := h
    clear g
    replace h : EV F f 127 z127 53 [some (rf 11 (0)), some (.inl (u1)), some (.inl (u2)), some (.inl (u3)), some (.inl (u4)), some (.inl (u5)), some (.inl (u6)), y7] [rf 4 (0)] σ2 (w, σ') := h
    replace h := ei_get h rfl (HS_g4_1 hsσ2)
    obtain ⟨f, g, h⟩ := h
    clear g
    replace h : EV F f 127 z127 56 [some (rf 11 (0)), some (.inl (u1)), some (.inl (u2)), some (.inl (u3)), some (.inl (u4)), some (.inl (u5)), some (.inl (u6)), y7] [rf 2 (0)] σ2 (w, σ') := h
    replace h := ei_p h rfl rfl rfl rfl
    obtain ⟨f, g, h⟩ := h
    clear g
    replace h : EV F f 127 z127 57 [some (rf 11 (0)), some (.inl (u1)), some (.inl (u2)), some (.inl (u3)), some (.inl (u4)), some (.inl (u5)), some (.inl (u6)), y7] [.inl (u1), rf 2 (0)] σ2 (w, σ') := h
    replace h := bk_I (ei_v (as := [.inl (u1)]) h rfl rfl rfl) rfl z26_at (Or.inr rfl)
    obtain ⟨v5, σ6, r7, f, g, h⟩ := h
    clear g
    have er7 := ro_run rfl r7
    rw [er7] at h r7
    have p8 := x26 hsσ2 r7
    refine ⟨v5, p8, ?_⟩
    replace h : EV F f 127 z127 60 [some (rf 11 (0)), some (.inl (u1)), some (.inl (u2)), some (.inl (u3)), some (.inl (u4)), some (.inl (u5)), some (.inl (u6)), y7] [.inl (v5)] σ2 (w, σ') := h
    replace h := ei_c h rfl rfl rfl
    rcases h with ⟨hp9, f, g, h⟩ | ⟨hp9, f, g, h⟩
    · skip
      replace hp9 : (v5).toInt ≠ (0 : Int) := ic_ne.mp hp9
      refine Or.inl ⟨hp9, ?_⟩
      clear g
      replace h : EV F f 127 z127 80 [some (rf 11 (0)), some (.inl (u1)), some (.inl (u2)), some (.inl (u3)), some (.inl (u4)), some (.inl (u5)), some (.inl (u6)), y7] [] σ2 (w, σ') := h
      exact j127_80 hsσ2 h
    · skip
      replace hp9 : ¬ ((v5).toInt ≠ (0 : Int)) := (not_congr ic_ne).mp hp9
      refine Or.inr ⟨hp9, ?_⟩
      clear g
      replace h : EV F f 127 z127 63 [some (rf 11 (0)), some (.inl (u1)), some (.inl (u2)), some (.inl (u3)), some (.inl (u4)), some (.inl (u5)), some (.inl (u6)), y7] [] σ2 (w, σ') := h
      replace h := ei_p h rfl rfl rfl rfl
      obtain ⟨f, g, h⟩ := h
      clear g
      replace h : EV F f 127 z127 64 [some (rf 11 (0)), some (.inl (u1)), some (.inl (u2)), some (.inl (u3)), some (.inl (u4)), some (.inl (u5)), some (.inl (u6)), y7] [rf 11 (0)] σ2 (w, σ') := h
      replace h := ei_get h rfl (HS_g11_0 hsσ2)
      obtain ⟨f, g, h⟩ := h
      clear g
      replace h : EV F f 127 z127 67 [some (rf 11 (0)), some (.inl (u1)), some (.inl (u2)), some (.inl (u3)), some (.inl (u4)), some (.inl (u5)), some (.inl (u6)), y7] [rf 4 (0)] σ2 (w, σ') := h
      replace h := ei_get h rfl (HS_g4_0 hsσ2)
      obtain ⟨f, g, h⟩ := h
      clear g
      replace h : EV F f 127 z127 70 [some (rf 11 (0)), some (.inl (u1)), some (.inl (u2)), some (.inl (u3)), some (.inl (u4)), some (.inl (u5)), some (.inl (u6)), y7] [rf 0 (0)] σ2 (w, σ') := h
      replace h := bk_I (ei_v (as := []) h rfl rfl rfl) rfl z2_at (Or.inr rfl)
      obtain ⟨v10, σ11, r12, f, g, h⟩ := h
      clear g
      have er12 := ro_run rfl r12
      rw [er12] at h r12
      have p13 := x2 hsσ2 r12
      refine ⟨v10, p13, ?_⟩
      replace h : EV F f 127 z127 73 [some (rf 11 (0)), some (.inl (u1)), some (.inl (u2)), some (.inl (u3)), some (.inl (u4)), some (.inl (u5)), some (.inl (u6)), y7] [.inl (v10)] σ2 (w, σ') := h
      replace h := ei_c h rfl rfl rfl
      rcases h with ⟨hp14, f, g, h⟩ | ⟨hp14, f, g, h⟩
      · skip
        replace hp14 : (v10).toInt = (0 : Int) := ic_eq.mp hp14
        refine Or.inl ⟨hp14, ?_⟩
        clear g
        replace h : EV F f 127 z127 80 [some (rf 11 (0)), some (.inl (u1)), some (.inl (u2)), some (.inl (u3)), some (.inl (u4)), some (.inl (u5)), some (.inl (u6)), y7] [] σ2 (w, σ') := h
        exact j127_80 hsσ2 h
      · skip
        replace hp14 : ¬ ((v10).toInt = (0 : Int)) := (not_congr ic_eq).mp hp14
        refine Or.inr ⟨hp14, ?_⟩
        clear g
        replace h : EV F f 127 z127 76 [some (rf 11 (0)), some (.inl (u1)), some (.inl (u2)), some (.inl (u3)), some (.inl (u4)), some (.inl (u5)), some (.inl (u6)), y7] [] σ2 (w, σ') := h
        replace h := ei_p h rfl rfl rfl rfl
        obtain ⟨f, g, h⟩ := h
        clear g
        replace h : EV F f 127 z127 77 [some (rf 11 (0)), some (.inl (u1)), some (.inl (u2)), some (.inl (u3)), some (.inl (u4)), some (.inl (u5)), some (.inl (u6)), y7] [.inl (Int32.ofInt 1)] σ2 (w, σ') := h
        replace h := ei_p h rfl rfl rfl rfl
        obtain ⟨f, g, h⟩ := h
        clear g
        replace h : EV F f 127 z127 81 [some (rf 11 (0)), some (.inl (u1)), some (.inl (u2)), some (.inl (u3)), some (.inl (u4)), some (.inl (u5)), some (.inl (u6)), y7] [.inl (Int32.ofInt 1)] σ2 (w, σ') := h
        exact j127_81 hsσ2 h
  · skip
    have p4 := x161 hsτ r3
    cases e
    exact Or.inr ⟨b, p4, rfl⟩
def J127_45 (u1 : Int32) (u2 : Int32) (u3 : Int32) (u4 : Int32) (u5 : Int32) (u6 : Int32) (τ : mS) (w : mX) (σ' : mS) : Prop := J127_46 (u1) (u2) (u3) (u4) (u5) (u6) (Int32.ofInt 0) τ w σ'
theorem j127_45 {F f : Nat} {σ' τ : mS} {u1 : Int32} {u2 : Int32} {u3 : Int32} {u4 : Int32} {u5 : Int32} {u6 : Int32} {y7 : Option mV} {w : mX} (hsτ : HS τ) (h : EV F f 127 z127 45 [some (rf 11 (0)), some (.inl (u1)), some (.inl (u2)), some (.inl (u3)), some (.inl (u4)), some (.inl (u5)), some (.inl (u6)), y7] [] τ (w, σ')) : J127_45 u1 u2 u3 u4 u5 u6 τ w σ' := by
  unfold J127_45
  replace h := ei_p h rfl rfl rfl rfl
  obtain ⟨f, g, h⟩ := h
  clear g
  replace h : EV F f 127 z127 46 [some (rf 11 (0)), some (.inl (u1)), some (.inl (u2)), some (.inl (u3)), some (.inl (u4)), some (.inl (u5)), some (.inl (u6)), y7] [.inl (Int32.ofInt 0)] τ (w, σ') := h
  exact j127_46 hsτ h
def J127_19 (u1 : Int32) (u2 : Int32) (u3 : Int32) (u4 : Int32) (u5 : Int32) (u6 : Int32) (t0 : Int32) (τ : mS) (w : mX) (σ' : mS) : Prop := ((∃ σ2, fw_e w160 τ σ2 ∧ P160 τ (t0) (.inl none) σ2 ∧ ∃ v5, P170 σ2 (u3) (u4) (u5) v5 ∧ (((v5).toInt = (0 : Int) ∧ J127_45 (u1) (u2) (u3) (u4) (u5) (u6) σ2 w σ') ∨ (¬ ((v5).toInt = (0 : Int)) ∧ ∃ v10, P168 σ2 (u6) v10 ∧ (((v10).toInt = (0 : Int) ∧ J127_45 (u1) (u2) (u3) (u4) (u5) (u6) σ2 w σ') ∨ (¬ ((v10).toInt = (0 : Int)) ∧ J127_46 (u1) (u2) (u3) (u4) (u5) (u6) (Int32.ofInt 1) σ2 w σ'))))) ∨ (∃ b, P160 τ (t0) (.inr b) σ' ∧ w = .inr b))
theorem j127_19 {F f : Nat} {σ' τ : mS} {u1 : Int32} {u2 : Int32} {u3 : Int32} {u4 : Int32} {u5 : Int32} {u6 : Int32} {t0 : Int32} {y7 : Option mV} {w : mX} (hsτ : HS τ) (h : EV F f 127 z127 19 [some (rf 11 (0)), some (.inl (u1)), some (.inl (u2)), some (.inl (u3)), some (.inl (u4)), some (.inl (u5)), some (.inl (u6)), y7] [.inl (t0)] τ (w, σ')) : J127_19 u1 u2 u3 u4 u5 u6 t0 τ w σ' := by
  unfold J127_19
  replace h := bx_0 (ei_s (as := [.inl (t0)]) h rfl (Nat.le_of_ble_eq_true rfl) rfl rfl) z160_at rfl
  rcases h with ⟨σ2, r3, f, g, h⟩ | ⟨b, σ2, r3, e⟩
  · skip
    clear g
    have p4 := x160 hsτ r3
    have hsσ2 : HS σ2 := HS_run rfl r3 hsτ
    refine Or.inl ⟨σ2, fw_run W160 rfl r3, p4, ?_⟩
    replace h : EV F f 127 z127 22 [some (rf 11 (0)), some (.inl (u1)), some (.inl (u2)), some (.inl (u3)), some (.inl (u4)), some (.inl (u5)), some (.inl (u6)), y7] [] σ2 (w, σ') := h
    replace h := ei_p h rfl rfl rfl rfl
    obtain ⟨f, g, h⟩ := h
    clear g
    replace h : EV F f 127 z127 23 [some (rf 11 (0)), some (.inl (u1)), some (.inl (u2)), some (.inl (u3)), some (.inl (u4)), some (.inl (u5)), some (.inl (u6)), y7] [.inl (u3)] σ2 (w, σ') := h
    replace h := ei_p h rfl rfl rfl rfl
    obtain ⟨f, g, h⟩ := h
    clear g
    replace h : EV F f 127 z127 25 [some (rf 11 (0)), some (.inl (u1)), some (.inl (u2)), some (.inl (u3)), some (.inl (u4)), some (.inl (u5)), some (.inl (u6)), y7] [.inl (u4), .inl (u3)] σ2 (w, σ') := h
    replace h := ei_p h rfl rfl rfl rfl
    obtain ⟨f, g, h⟩ := h
    clear g
    replace h : EV F f 127 z127 27 [some (rf 11 (0)), some (.inl (u1)), some (.inl (u2)), some (.inl (u3)), some (.inl (u4)), some (.inl (u5)), some (.inl (u6)), y7] [.inl (u5), .inl (u4), .inl (u3)] σ2 (w, σ') := h
    replace h := bk_I (ei_s (as := [.inl (u5), .inl (u4), .inl (u3)]) h rfl (Nat.le_of_ble_eq_true rfl) rfl rfl) rfl z170_at (Or.inr rfl)
    obtain ⟨v5, σ6, r7, f, g, h⟩ := h
    clear g
    have er7 := ro_run rfl r7
    rw [er7] at h r7
    have p8 := x170 hsσ2 r7
    refine ⟨v5, p8, ?_⟩
    replace h : EV F f 127 z127 30 [some (rf 11 (0)), some (.inl (u1)), some (.inl (u2)), some (.inl (u3)), some (.inl (u4)), some (.inl (u5)), some (.inl (u6)), y7] [.inl (v5)] σ2 (w, σ') := h
    replace h := ei_c h rfl rfl rfl
    rcases h with ⟨hp9, f, g, h⟩ | ⟨hp9, f, g, h⟩
    · skip
      replace hp9 : (v5).toInt = (0 : Int) := ic_eq.mp hp9
      refine Or.inl ⟨hp9, ?_⟩
      clear g
      replace h : EV F f 127 z127 45 [some (rf 11 (0)), some (.inl (u1)), some (.inl (u2)), some (.inl (u3)), some (.inl (u4)), some (.inl (u5)), some (.inl (u6)), y7] [] σ2 (w, σ') := h
      exact j127_45 hsσ2 h
    · skip
      replace hp9 : ¬ ((v5).toInt = (0 : Int)) := (not_congr ic_eq).mp hp9
      refine Or.inr ⟨hp9, ?_⟩
      clear g
      replace h : EV F f 127 z127 33 [some (rf 11 (0)), some (.inl (u1)), some (.inl (u2)), some (.inl (u3)), some (.inl (u4)), some (.inl (u5)), some (.inl (u6)), y7] [] σ2 (w, σ') := h
      replace h := ei_p h rfl rfl rfl rfl
      obtain ⟨f, g, h⟩ := h
      clear g
      replace h : EV F f 127 z127 35 [some (rf 11 (0)), some (.inl (u1)), some (.inl (u2)), some (.inl (u3)), some (.inl (u4)), some (.inl (u5)), some (.inl (u6)), y7] [.inl (u6)] σ2 (w, σ') := h
      replace h := bk_I (ei_s (as := [.inl (u6)]) h rfl (Nat.le_of_ble_eq_true rfl) rfl rfl) rfl z168_at (Or.inr rfl)
      obtain ⟨v10, σ11, r12, f, g, h⟩ := h
      clear g
      have er12 := ro_run rfl r12
      rw [er12] at h r12
      have p13 := x168 hsσ2 r12
      refine ⟨v10, p13, ?_⟩
      replace h : EV F f 127 z127 38 [some (rf 11 (0)), some (.inl (u1)), some (.inl (u2)), some (.inl (u3)), some (.inl (u4)), some (.inl (u5)), some (.inl (u6)), y7] [.inl (v10)] σ2 (w, σ') := h
      replace h := ei_c h rfl rfl rfl
      rcases h with ⟨hp14, f, g, h⟩ | ⟨hp14, f, g, h⟩
      · skip
        replace hp14 : (v10).toInt = (0 : Int) := ic_eq.mp hp14
        refine Or.inl ⟨hp14, ?_⟩
        clear g
        replace h : EV F f 127 z127 45 [some (rf 11 (0)), some (.inl (u1)), some (.inl (u2)), some (.inl (u3)), some (.inl (u4)), some (.inl (u5)), some (.inl (u6)), y7] [] σ2 (w, σ') := h
        exact j127_45 hsσ2 h
      · skip
        replace hp14 : ¬ ((v10).toInt = (0 : Int)) := (not_congr ic_eq).mp hp14
        refine Or.inr ⟨hp14, ?_⟩
        clear g
        replace h : EV F f 127 z127 41 [some (rf 11 (0)), some (.inl (u1)), some (.inl (u2)), some (.inl (u3)), some (.inl (u4)), some (.inl (u5)), some (.inl (u6)), y7] [] σ2 (w, σ') := h
        replace h := ei_p h rfl rfl rfl rfl
        obtain ⟨f, g, h⟩ := h
        clear g
        replace h : EV F f 127 z127 42 [some (rf 11 (0)), some (.inl (u1)), some (.inl (u2)), some (.inl (u3)), some (.inl (u4)), some (.inl (u5)), some (.inl (u6)), y7] [.inl (Int32.ofInt 1)] σ2 (w, σ') := h
        replace h := ei_p h rfl rfl rfl rfl
        obtain ⟨f, g, h⟩ := h
        clear g
        replace h : EV F f 127 z127 46 [some (rf 11 (0)), some (.inl (u1)), some (.inl (u2)), some (.inl (u3)), some (.inl (u4)), some (.inl (u5)), some (.inl (u6)), y7] [.inl (Int32.ofInt 1)] σ2 (w, σ') := h
        exact j127_46 hsσ2 h
  · skip
    have p4 := x160 hsτ r3
    cases e
    exact Or.inr ⟨b, p4, rfl⟩
def J127_18 (u1 : Int32) (u2 : Int32) (u3 : Int32) (u4 : Int32) (u5 : Int32) (u6 : Int32) (τ : mS) (w : mX) (σ' : mS) : Prop := J127_19 (u1) (u2) (u3) (u4) (u5) (u6) (Int32.ofInt 0) τ w σ'
theorem j127_18 {F f : Nat} {σ' τ : mS} {u1 : Int32} {u2 : Int32} {u3 : Int32} {u4 : Int32} {u5 : Int32} {u6 : Int32} {y7 : Option mV} {w : mX} (hsτ : HS τ) (h : EV F f 127 z127 18 [some (rf 11 (0)), some (.inl (u1)), some (.inl (u2)), some (.inl (u3)), some (.inl (u4)), some (.inl (u5)), some (.inl (u6)), y7] [] τ (w, σ')) : J127_18 u1 u2 u3 u4 u5 u6 τ w σ' := by
  unfold J127_18
  replace h := ei_p h rfl rfl rfl rfl
  obtain ⟨f, g, h⟩ := h
  clear g
  replace h : EV F f 127 z127 19 [some (rf 11 (0)), some (.inl (u1)), some (.inl (u2)), some (.inl (u3)), some (.inl (u4)), some (.inl (u5)), some (.inl (u6)), y7] [.inl (Int32.ofInt 0)] τ (w, σ') := h
  exact j127_19 hsτ h
def P127 (σ : mS) (x1 : Int32) (x2 : Int32) (x3 : Int32) (x4 : Int32) (x5 : Int32) (x6 : Int32) (w : mX) (σ' : mS) : Prop := ∃ v1, P164 σ (x1) v1 ∧ (((v1).toInt = (0 : Int) ∧ J127_18 (x1) (x2) (x3) (x4) (x5) (x6) σ w σ') ∨ (¬ ((v1).toInt = (0 : Int)) ∧ ∃ v6, P166 σ (x2) v6 ∧ (((v6).toInt = (0 : Int) ∧ J127_18 (x1) (x2) (x3) (x4) (x5) (x6) σ w σ') ∨ (¬ ((v6).toInt = (0 : Int)) ∧ J127_19 (x1) (x2) (x3) (x4) (x5) (x6) (Int32.ofInt 1) σ w σ'))))
theorem x127 {σ σ' : mS} {x1 : Int32} {x2 : Int32} {x3 : Int32} {x4 : Int32} {x5 : Int32} {x6 : Int32} {w : mX} (hs : HS σ) (h : ev_run sm_all 127 [rf 11 (0), .inl (x1), .inl (x2), .inl (x3), .inl (x4), .inl (x5), .inl (x6)] σ (w) σ') : P127 σ x1 x2 x3 x4 x5 x6 w σ' := by
  unfold P127
  obtain ⟨F, f, h⟩ := ei_go h z127_at
  replace h : EV F f 127 z127 0 [some (rf 11 (0)), some (.inl (x1)), some (.inl (x2)), some (.inl (x3)), some (.inl (x4)), some (.inl (x5)), some (.inl (x6)), none] [] σ (w, σ') := h
  replace h := ei_p h rfl rfl rfl rfl
  obtain ⟨f, g, h⟩ := h
  clear g
  replace h : EV F f 127 z127 1 [some (rf 11 (0)), some (.inl (x1)), some (.inl (x2)), some (.inl (x3)), some (.inl (x4)), some (.inl (x5)), some (.inl (x6)), none] [.inl (x1)] σ (w, σ') := h
  replace h := bk_I (ei_s (as := [.inl (x1)]) h rfl (Nat.le_of_ble_eq_true rfl) rfl rfl) rfl z164_at (Or.inr rfl)
  obtain ⟨v1, σ2, r3, f, g, h⟩ := h
  clear g
  have er3 := ro_run rfl r3
  rw [er3] at h r3
  have p4 := x164 hs r3
  refine ⟨v1, p4, ?_⟩
  replace h : EV F f 127 z127 4 [some (rf 11 (0)), some (.inl (x1)), some (.inl (x2)), some (.inl (x3)), some (.inl (x4)), some (.inl (x5)), some (.inl (x6)), none] [.inl (v1)] σ (w, σ') := h
  replace h := ei_c h rfl rfl rfl
  rcases h with ⟨hp5, f, g, h⟩ | ⟨hp5, f, g, h⟩
  · skip
    replace hp5 : (v1).toInt = (0 : Int) := ic_eq.mp hp5
    refine Or.inl ⟨hp5, ?_⟩
    clear g
    replace h : EV F f 127 z127 18 [some (rf 11 (0)), some (.inl (x1)), some (.inl (x2)), some (.inl (x3)), some (.inl (x4)), some (.inl (x5)), some (.inl (x6)), none] [] σ (w, σ') := h
    exact j127_18 hs h
  · skip
    replace hp5 : ¬ ((v1).toInt = (0 : Int)) := (not_congr ic_eq).mp hp5
    refine Or.inr ⟨hp5, ?_⟩
    clear g
    replace h : EV F f 127 z127 7 [some (rf 11 (0)), some (.inl (x1)), some (.inl (x2)), some (.inl (x3)), some (.inl (x4)), some (.inl (x5)), some (.inl (x6)), none] [] σ (w, σ') := h
    replace h := ei_p h rfl rfl rfl rfl
    obtain ⟨f, g, h⟩ := h
    clear g
    replace h : EV F f 127 z127 8 [some (rf 11 (0)), some (.inl (x1)), some (.inl (x2)), some (.inl (x3)), some (.inl (x4)), some (.inl (x5)), some (.inl (x6)), none] [.inl (x2)] σ (w, σ') := h
    replace h := bk_I (ei_s (as := [.inl (x2)]) h rfl (Nat.le_of_ble_eq_true rfl) rfl rfl) rfl z166_at (Or.inr rfl)
    obtain ⟨v6, σ7, r8, f, g, h⟩ := h
    clear g
    have er8 := ro_run rfl r8
    rw [er8] at h r8
    have p9 := x166 hs r8
    refine ⟨v6, p9, ?_⟩
    replace h : EV F f 127 z127 11 [some (rf 11 (0)), some (.inl (x1)), some (.inl (x2)), some (.inl (x3)), some (.inl (x4)), some (.inl (x5)), some (.inl (x6)), none] [.inl (v6)] σ (w, σ') := h
    replace h := ei_c h rfl rfl rfl
    rcases h with ⟨hp10, f, g, h⟩ | ⟨hp10, f, g, h⟩
    · skip
      replace hp10 : (v6).toInt = (0 : Int) := ic_eq.mp hp10
      refine Or.inl ⟨hp10, ?_⟩
      clear g
      replace h : EV F f 127 z127 18 [some (rf 11 (0)), some (.inl (x1)), some (.inl (x2)), some (.inl (x3)), some (.inl (x4)), some (.inl (x5)), some (.inl (x6)), none] [] σ (w, σ') := h
      exact j127_18 hs h
    · skip
      replace hp10 : ¬ ((v6).toInt = (0 : Int)) := (not_congr ic_eq).mp hp10
      refine Or.inr ⟨hp10, ?_⟩
      clear g
      replace h : EV F f 127 z127 14 [some (rf 11 (0)), some (.inl (x1)), some (.inl (x2)), some (.inl (x3)), some (.inl (x4)), some (.inl (x5)), some (.inl (x6)), none] [] σ (w, σ') := h
      replace h := ei_p h rfl rfl rfl rfl
      obtain ⟨f, g, h⟩ := h
      clear g
      replace h : EV F f 127 z127 15 [some (rf 11 (0)), some (.inl (x1)), some (.inl (x2)), some (.inl (x3)), some (.inl (x4)), some (.inl (x5)), some (.inl (x6)), none] [.inl (Int32.ofInt 1)] σ (w, σ') := h
      replace h := ei_p h rfl rfl rfl rfl
      obtain ⟨f, g, h⟩ := h
      clear g
      replace h : EV F f 127 z127 19 [some (rf 11 (0)), some (.inl (x1)), some (.inl (x2)), some (.inl (x3)), some (.inl (x4)), some (.inl (x5)), some (.inl (x6)), none] [.inl (Int32.ofInt 1)] σ (w, σ') := h
      exact j127_19 hs h
def z128 : mAl := ((yX11_tie, cX11_tie, 6, none, { frames := 7, cells := 4, slots := 27, locals := 190 }, []), rw_X11_tie, false)
theorem z128_at : m_alF[128]? = some z128 := rfl
abbrev L128 : List (Nat × Nat) := [(0, 1), (0, 2), (1, 0), (1, 1), (1, 2), (1, 3), (1, 4), (1, 5), (1, 6), (1, 7), (1, 8), (1, 9), (1, 10), (1, 11), (1, 12), (1, 13), (1, 14), (1, 15), (2, 5), (2, 6), (2, 7), (2, 8), (2, 9), (2, 10), (3, 3), (3, 4), (3, 5), (5, 2), (6, 2), (6, 3), (6, 4), (6, 5), (6, 6), (6, 7), (6, 8), (6, 9), (6, 10), (7, 1), (7, 2), (7, 3), (7, 4), (7, 5), (7, 6), (7, 7), (7, 8), (7, 9), (7, 10), (7, 11), (7, 12), (8, 1), (8, 2), (8, 3), (8, 4), (8, 5), (8, 6), (8, 7), (8, 8), (10, 0), (10, 1), (10, 2), (10, 3), (10, 4), (10, 5), (10, 6), (10, 7), (10, 8), (10, 9), (11, 3), (11, 4), (11, 5), (13, 0), (14, 0)]
abbrev w128 : Nat → Nat → Bool := wl L128
def S128 : List Nat := [3, 4, 5, 6, 8, 9, 10, 11, 12, 13, 14, 15, 16, 18, 22, 23, 24, 25, 27, 28, 29, 30, 31, 32, 34, 35, 36, 37, 38, 39, 40, 41, 42, 43, 44, 45, 46, 47, 48, 51, 53, 54, 61, 62, 63, 64, 65, 66, 67, 68, 69, 70, 71, 72, 73, 74, 75, 76, 78, 79, 80, 81, 82, 83, 85, 86, 90, 91, 92, 95, 99, 100, 101, 102, 103, 104, 105, 106, 107, 112, 113, 114, 115, 116, 117, 128, 158, 159, 161, 162, 190]
theorem W128 : fw_S w128 S128 = true := by decide +kernel
def J128_34 (τ : mS) (w : mX) (σ' : mS) : Prop := (w = .inr 0 ∧ σ' = τ)
theorem j128_34 {F f : Nat} {σ' τ : mS} {y0 : Option mV} {y1 : Option mV} {y2 : Option mV} {y3 : Option mV} {y4 : Option mV} {y5 : Option mV} {w : mX} (hsτ : HS τ) (h : EV F f 128 z128 34 [y0, y1, y2, y3, y4, y5] [] τ (w, σ')) : J128_34 τ w σ' := by
  unfold J128_34
  have e := ei_thr h rfl (by decide)
  cases e
  exact ⟨rfl, rfl⟩
def J128_89 (u1 : Int32) (u2 : Int32) (t0 : Int32) (τ : mS) (w : mX) (σ' : mS) : Prop := ((∃ σ2, fw_e w162 τ σ2 ∧ P162 τ (t0) (.inl none) σ2 ∧ ∃ σ5, σ5 = m_nu σ2 1 0 ∧ ∃ σ8, fw_e w18 σ5 σ8 ∧ P18 σ5 (σ2.1 1) (Int32.ofInt 4) (u1) (u2) (Int32.ofInt 0) σ8 ∧ ∃ v13 σ14, fw_e w61 σ8 σ14 ∧ P61 σ8 (some (1, σ2.1 1)) v13 σ14 ∧ ∃ v17 σ18, fw_e w158 σ14 σ18 ∧ P158 σ14 (some (1, σ2.1 1)) (v13) v17 σ18 ∧ w = .inl none ∧ σ' = σ18) ∨ (∃ b, P162 τ (t0) (.inr b) σ' ∧ w = .inr b))
theorem j128_89 {F f : Nat} {σ' τ : mS} {u1 : Int32} {u2 : Int32} {t0 : Int32} {y3 : Option mV} {y4 : Option mV} {y5 : Option mV} {w : mX} (hsτ : HS τ) (h : EV F f 128 z128 89 [some (rf 11 (0)), some (.inl (u1)), some (.inl (u2)), y3, y4, y5] [.inl (t0)] τ (w, σ')) : J128_89 u1 u2 t0 τ w σ' := by
  unfold J128_89
  replace h := bx_0 (ei_s (as := [.inl (t0)]) h rfl (Nat.le_of_ble_eq_true rfl) rfl rfl) z162_at rfl
  rcases h with ⟨σ2, r3, f, g, h⟩ | ⟨b, σ2, r3, e⟩
  · skip
    clear g
    have p4 := x162 hsτ r3
    have hsσ2 : HS σ2 := HS_run rfl r3 hsτ
    refine Or.inl ⟨σ2, fw_run W162 rfl r3, p4, ?_⟩
    replace h : EV F f 128 z128 92 [some (rf 11 (0)), some (.inl (u1)), some (.inl (u2)), y3, y4, y5] [] σ2 (w, σ') := h
    replace h := ei_new h rfl (by decide)
    obtain ⟨f, g, h⟩ := h
    clear g
    obtain ⟨σ5, e6⟩ : ∃ s, s = m_nu σ2 1 0 := ⟨_, rfl⟩
    rw [← e6] at h
    have hsσ5 : HS σ5 := by rw [e6]; exact HS_nu hsσ2 (by decide)
    refine ⟨σ5, e6, ?_⟩
    replace h : EV F f 128 z128 95 [some (rf 11 (0)), some (.inl (u1)), some (.inl (u2)), y3, y4, y5] [rf 1 (σ2.1 1)] σ5 (w, σ') := h
    replace h := ei_p h rfl rfl rfl rfl
    obtain ⟨f, g, h⟩ := h
    clear g
    replace h : EV F f 128 z128 96 [some (rf 11 (0)), some (.inl (u1)), some (.inl (u2)), y3, y4, y5] [rf 1 (σ2.1 1), rf 1 (σ2.1 1)] σ5 (w, σ') := h
    replace h := ei_p h rfl rfl rfl rfl
    obtain ⟨f, g, h⟩ := h
    clear g
    replace h : EV F f 128 z128 97 [some (rf 11 (0)), some (.inl (u1)), some (.inl (u2)), y3, y4, y5] [.inl (Int32.ofInt 4), rf 1 (σ2.1 1), rf 1 (σ2.1 1)] σ5 (w, σ') := h
    replace h := ei_p h rfl rfl rfl rfl
    obtain ⟨f, g, h⟩ := h
    clear g
    replace h : EV F f 128 z128 98 [some (rf 11 (0)), some (.inl (u1)), some (.inl (u2)), y3, y4, y5] [.inl (u1), .inl (Int32.ofInt 4), rf 1 (σ2.1 1), rf 1 (σ2.1 1)] σ5 (w, σ') := h
    replace h := ei_p h rfl rfl rfl rfl
    obtain ⟨f, g, h⟩ := h
    clear g
    replace h : EV F f 128 z128 99 [some (rf 11 (0)), some (.inl (u1)), some (.inl (u2)), y3, y4, y5] [.inl (u2), .inl (u1), .inl (Int32.ofInt 4), rf 1 (σ2.1 1), rf 1 (σ2.1 1)] σ5 (w, σ') := h
    replace h := ei_p h rfl rfl rfl rfl
    obtain ⟨f, g, h⟩ := h
    clear g
    replace h : EV F f 128 z128 100 [some (rf 11 (0)), some (.inl (u1)), some (.inl (u2)), y3, y4, y5] [.inl (Int32.ofInt 0), .inl (u2), .inl (u1), .inl (Int32.ofInt 4), rf 1 (σ2.1 1), rf 1 (σ2.1 1)] σ5 (w, σ') := h
    replace h := bk_0 (ei_x (as := [.inl (Int32.ofInt 0), .inl (u2), .inl (u1), .inl (Int32.ofInt 4)]) h rfl rfl rfl) rfl z18_at rfl
    obtain ⟨σ8, r9, f, g, h⟩ := h
    clear g
    have p10 := x18 hsσ5 r9
    have hsσ8 : HS σ8 := HS_run rfl r9 hsσ5
    refine ⟨σ8, fw_run W18 rfl r9, p10, ?_⟩
    replace h : EV F f 128 z128 103 [some (rf 11 (0)), some (.inl (u1)), some (.inl (u2)), y3, y4, y5] [rf 1 (σ2.1 1)] σ8 (w, σ') := h
    replace h := ei_p h rfl rfl rfl rfl
    obtain ⟨f, g, h⟩ := h
    clear g
    replace h : EV F f 128 z128 105 (m_sto [some (rf 11 (0)), some (.inl (u1)), some (.inl (u2)), y3, y4, y5] 5 (rf 1 (σ2.1 1))) [] σ8 (w, σ') := h
    obtain ⟨y_11, e12⟩ := sto_ex [some (rf 11 (0)), some (.inl (u1)), some (.inl (u2)), y3, y4, y5] 5 (rf 1 (σ2.1 1)) (by decide)
    rw [e12] at h
    replace h : EV F f 128 z128 105 [some (rf 11 (0)), some (.inl (u1)), some (.inl (u2)), y3, y_11, some (rf 1 (σ2.1 1))] [] σ8 (w, σ') := h
    replace h := ei_p h rfl rfl rfl rfl
    obtain ⟨f, g, h⟩ := h
    clear g
    replace h : EV F f 128 z128 106 [some (rf 11 (0)), some (.inl (u1)), some (.inl (u2)), y3, y_11, some (rf 1 (σ2.1 1))] [rf 11 (0)] σ8 (w, σ') := h
    replace h := ei_p h rfl rfl rfl rfl
    obtain ⟨f, g, h⟩ := h
    clear g
    replace h : EV F f 128 z128 108 [some (rf 11 (0)), some (.inl (u1)), some (.inl (u2)), y3, y_11, some (rf 1 (σ2.1 1))] [rf 1 (σ2.1 1), rf 11 (0)] σ8 (w, σ') := h
    replace h := ei_p h rfl rfl rfl rfl
    obtain ⟨f, g, h⟩ := h
    clear g
    replace h : EV F f 128 z128 109 [some (rf 11 (0)), some (.inl (u1)), some (.inl (u2)), y3, y_11, some (rf 1 (σ2.1 1))] [rf 11 (0), rf 1 (σ2.1 1), rf 11 (0)] σ8 (w, σ') := h
    replace h := ei_get h rfl (HS_g11_0 hsσ8)
    obtain ⟨f, g, h⟩ := h
    clear g
    replace h : EV F f 128 z128 112 [some (rf 11 (0)), some (.inl (u1)), some (.inl (u2)), y3, y_11, some (rf 1 (σ2.1 1))] [rf 4 (0), rf 1 (σ2.1 1), rf 11 (0)] σ8 (w, σ') := h
    replace h := ei_p h rfl rfl rfl rfl
    obtain ⟨f, g, h⟩ := h
    clear g
    replace h : EV F f 128 z128 114 [some (rf 11 (0)), some (.inl (u1)), some (.inl (u2)), y3, y_11, some (rf 1 (σ2.1 1))] [rf 1 (σ2.1 1), rf 4 (0), rf 1 (σ2.1 1), rf 11 (0)] σ8 (w, σ') := h
    replace h := bk_L (ei_v (as := [rf 1 (σ2.1 1)]) h rfl rfl rfl) rfl z61_at rfl
    obtain ⟨v13, σ14, r15, f, g, h⟩ := h
    clear g
    have p16 := x61 hsσ8 r15
    have hsσ14 : HS σ14 := HS_run rfl r15 hsσ8
    refine ⟨v13, σ14, fw_run W61 rfl r15, p16, ?_⟩
    replace h : EV F f 128 z128 117 [some (rf 11 (0)), some (.inl (u1)), some (.inl (u2)), y3, y_11, some (rf 1 (σ2.1 1))] [.inr (.inl (v13)), rf 1 (σ2.1 1), rf 11 (0)] σ14 (w, σ') := h
    replace h := bk_L (ei_v (as := [.inr (.inl (v13)), rf 1 (σ2.1 1)]) h rfl rfl rfl) rfl z158_at rfl
    obtain ⟨v17, σ18, r19, f, g, h⟩ := h
    clear g
    have p20 := x158 hsσ14 r19
    have hsσ18 : HS σ18 := HS_run rfl r19 hsσ14
    refine ⟨v17, σ18, fw_run W158 rfl r19, p20, ?_⟩
    replace h : EV F f 128 z128 120 [some (rf 11 (0)), some (.inl (u1)), some (.inl (u2)), y3, y_11, some (rf 1 (σ2.1 1))] [.inr (.inl (v17))] σ18 (w, σ') := h
    replace h := ei_p h rfl rfl rfl rfl
    obtain ⟨f, g, h⟩ := h
    clear g
    replace h : EV F f 128 z128 121 [some (rf 11 (0)), some (.inl (u1)), some (.inl (u2)), y3, y_11, some (rf 1 (σ2.1 1))] [] σ18 (w, σ') := h
    have e := ei_ret h rfl
    cases e
    exact ⟨rfl, rfl⟩
  · skip
    have p4 := x162 hsτ r3
    cases e
    exact Or.inr ⟨b, p4, rfl⟩
def J128_88 (u1 : Int32) (u2 : Int32) (τ : mS) (w : mX) (σ' : mS) : Prop := J128_89 (u1) (u2) (Int32.ofInt 0) τ w σ'
theorem j128_88 {F f : Nat} {σ' τ : mS} {u1 : Int32} {u2 : Int32} {y3 : Option mV} {y4 : Option mV} {y5 : Option mV} {w : mX} (hsτ : HS τ) (h : EV F f 128 z128 88 [some (rf 11 (0)), some (.inl (u1)), some (.inl (u2)), y3, y4, y5] [] τ (w, σ')) : J128_88 u1 u2 τ w σ' := by
  unfold J128_88
  replace h := ei_p h rfl rfl rfl rfl
  obtain ⟨f, g, h⟩ := h
  clear g
  replace h : EV F f 128 z128 89 [some (rf 11 (0)), some (.inl (u1)), some (.inl (u2)), y3, y4, y5] [.inl (Int32.ofInt 0)] τ (w, σ') := h
  exact j128_89 hsτ h
def J128_66 (u1 : Int32) (u2 : Int32) (u3 : mR) (u4 : mR) (t0 : Int32) (τ : mS) (w : mX) (σ' : mS) : Prop := ((∃ σ2, fw_e w161 τ σ2 ∧ P161 τ (t0) (.inl none) σ2 ∧ ∃ i5, u3 = some (7, i5) ∧ ∃ v7, P101 σ2 (i5) v7 ∧ (((v7).toInt = (0 : Int) ∧ J128_88 (u1) (u2) σ2 w σ') ∨ (¬ ((v7).toInt = (0 : Int)) ∧ ∃ i12, u4 = some (7, i12) ∧ ∃ v14, P101 σ2 (i12) v14 ∧ (((v14).toInt = (0 : Int) ∧ J128_88 (u1) (u2) σ2 w σ') ∨ (¬ ((v14).toInt = (0 : Int)) ∧ J128_89 (u1) (u2) (Int32.ofInt 1) σ2 w σ'))))) ∨ (∃ b, P161 τ (t0) (.inr b) σ' ∧ w = .inr b))
theorem j128_66 {F f : Nat} {σ' τ : mS} {u1 : Int32} {u2 : Int32} {u3 : mR} {u4 : mR} {t0 : Int32} {y5 : Option mV} {w : mX} (hsτ : HS τ) (h : EV F f 128 z128 66 [some (rf 11 (0)), some (.inl (u1)), some (.inl (u2)), some (.inr (.inr (u3))), some (.inr (.inr (u4))), y5] [.inl (t0)] τ (w, σ')) : J128_66 u1 u2 u3 u4 t0 τ w σ' := by
  unfold J128_66
  replace h := bx_0 (ei_s (as := [.inl (t0)]) h rfl (Nat.le_of_ble_eq_true rfl) rfl rfl) z161_at rfl
  rcases h with ⟨σ2, r3, f, g, h⟩ | ⟨b, σ2, r3, e⟩
  · skip
    clear g
    have p4 := x161 hsτ r3
    have hsσ2 : HS σ2 := HS_run rfl r3 hsτ
    refine Or.inl ⟨σ2, fw_run W161 rfl r3, p4, ?_⟩
    replace h : EV F f 128 z128 69 [some (rf 11 (0)), some (.inl (u1)), some (.inl (u2)), some (.inr (.inr (u3))), some (.inr (.inr (u4))), y5] [] σ2 (w, σ') := h
    replace h := ei_p h rfl rfl rfl rfl
    obtain ⟨f, g, h⟩ := h
    clear g
    replace h : EV F f 128 z128 70 [some (rf 11 (0)), some (.inl (u1)), some (.inl (u2)), some (.inr (.inr (u3))), some (.inr (.inr (u4))), y5] [.inr (.inr (u3))] σ2 (w, σ') := h
    obtain ⟨i5, e6⟩ := ei_vp (as := []) h rfl rfl
    rw [e6] at h
    refine ⟨i5, e6, ?_⟩
    replace h : EV F f 128 z128 70 [some (rf 11 (0)), some (.inl (u1)), some (.inl (u2)), some (rf 7 (i5)), some (.inr (.inr (u4))), y5] [rf 7 (i5)] σ2 (w, σ') := h
    replace h := bk_I (ei_v (as := []) h rfl rfl rfl) rfl z101_at (Or.inr rfl)
    obtain ⟨v7, σ8, r9, f, g, h⟩ := h
    clear g
    have er9 := ro_run rfl r9
    rw [er9] at h r9
    have p10 := x101 hsσ2 r9
    refine ⟨v7, p10, ?_⟩
    replace h : EV F f 128 z128 73 [some (rf 11 (0)), some (.inl (u1)), some (.inl (u2)), some (rf 7 (i5)), some (.inr (.inr (u4))), y5] [.inl (v7)] σ2 (w, σ') := h
    replace h := ei_c h rfl rfl rfl
    rcases h with ⟨hp11, f, g, h⟩ | ⟨hp11, f, g, h⟩
    · skip
      replace hp11 : (v7).toInt = (0 : Int) := ic_eq.mp hp11
      refine Or.inl ⟨hp11, ?_⟩
      clear g
      replace h : EV F f 128 z128 88 [some (rf 11 (0)), some (.inl (u1)), some (.inl (u2)), some (rf 7 (i5)), some (.inr (.inr (u4))), y5] [] σ2 (w, σ') := h
      exact j128_88 hsσ2 h
    · skip
      replace hp11 : ¬ ((v7).toInt = (0 : Int)) := (not_congr ic_eq).mp hp11
      refine Or.inr ⟨hp11, ?_⟩
      clear g
      replace h : EV F f 128 z128 76 [some (rf 11 (0)), some (.inl (u1)), some (.inl (u2)), some (rf 7 (i5)), some (.inr (.inr (u4))), y5] [] σ2 (w, σ') := h
      replace h := ei_p h rfl rfl rfl rfl
      obtain ⟨f, g, h⟩ := h
      clear g
      replace h : EV F f 128 z128 78 [some (rf 11 (0)), some (.inl (u1)), some (.inl (u2)), some (rf 7 (i5)), some (.inr (.inr (u4))), y5] [.inr (.inr (u4))] σ2 (w, σ') := h
      obtain ⟨i12, e13⟩ := ei_vp (as := []) h rfl rfl
      rw [e13] at h
      refine ⟨i12, e13, ?_⟩
      replace h : EV F f 128 z128 78 [some (rf 11 (0)), some (.inl (u1)), some (.inl (u2)), some (rf 7 (i5)), some (rf 7 (i12)), y5] [rf 7 (i12)] σ2 (w, σ') := h
      replace h := bk_I (ei_v (as := []) h rfl rfl rfl) rfl z101_at (Or.inr rfl)
      obtain ⟨v14, σ15, r16, f, g, h⟩ := h
      clear g
      have er16 := ro_run rfl r16
      rw [er16] at h r16
      have p17 := x101 hsσ2 r16
      refine ⟨v14, p17, ?_⟩
      replace h : EV F f 128 z128 81 [some (rf 11 (0)), some (.inl (u1)), some (.inl (u2)), some (rf 7 (i5)), some (rf 7 (i12)), y5] [.inl (v14)] σ2 (w, σ') := h
      replace h := ei_c h rfl rfl rfl
      rcases h with ⟨hp18, f, g, h⟩ | ⟨hp18, f, g, h⟩
      · skip
        replace hp18 : (v14).toInt = (0 : Int) := ic_eq.mp hp18
        refine Or.inl ⟨hp18, ?_⟩
        clear g
        replace h : EV F f 128 z128 88 [some (rf 11 (0)), some (.inl (u1)), some (.inl (u2)), some (rf 7 (i5)), some (rf 7 (i12)), y5] [] σ2 (w, σ') := h
        exact j128_88 hsσ2 h
      · skip
        replace hp18 : ¬ ((v14).toInt = (0 : Int)) := (not_congr ic_eq).mp hp18
        refine Or.inr ⟨hp18, ?_⟩
        clear g
        replace h : EV F f 128 z128 84 [some (rf 11 (0)), some (.inl (u1)), some (.inl (u2)), some (rf 7 (i5)), some (rf 7 (i12)), y5] [] σ2 (w, σ') := h
        replace h := ei_p h rfl rfl rfl rfl
        obtain ⟨f, g, h⟩ := h
        clear g
        replace h : EV F f 128 z128 85 [some (rf 11 (0)), some (.inl (u1)), some (.inl (u2)), some (rf 7 (i5)), some (rf 7 (i12)), y5] [.inl (Int32.ofInt 1)] σ2 (w, σ') := h
        replace h := ei_p h rfl rfl rfl rfl
        obtain ⟨f, g, h⟩ := h
        clear g
        replace h : EV F f 128 z128 89 [some (rf 11 (0)), some (.inl (u1)), some (.inl (u2)), some (rf 7 (i5)), some (rf 7 (i12)), y5] [.inl (Int32.ofInt 1)] σ2 (w, σ') := h
        exact j128_89 hsσ2 h
  · skip
    have p4 := x161 hsτ r3
    cases e
    exact Or.inr ⟨b, p4, rfl⟩
def J128_65 (u1 : Int32) (u2 : Int32) (u3 : mR) (u4 : mR) (τ : mS) (w : mX) (σ' : mS) : Prop := J128_66 (u1) (u2) (u3) (u4) (Int32.ofInt 0) τ w σ'
theorem j128_65 {F f : Nat} {σ' τ : mS} {u1 : Int32} {u2 : Int32} {u3 : mR} {u4 : mR} {y5 : Option mV} {w : mX} (hsτ : HS τ) (h : EV F f 128 z128 65 [some (rf 11 (0)), some (.inl (u1)), some (.inl (u2)), some (.inr (.inr (u3))), some (.inr (.inr (u4))), y5] [] τ (w, σ')) : J128_65 u1 u2 u3 u4 τ w σ' := by
  unfold J128_65
  replace h := ei_p h rfl rfl rfl rfl
  obtain ⟨f, g, h⟩ := h
  clear g
  replace h : EV F f 128 z128 66 [some (rf 11 (0)), some (.inl (u1)), some (.inl (u2)), some (.inr (.inr (u3))), some (.inr (.inr (u4))), y5] [.inl (Int32.ofInt 0)] τ (w, σ') := h
  exact j128_66 hsτ h
def P128 (σ : mS) (x1 : Int32) (x2 : Int32) (w : mX) (σ' : mS) : Prop := ∃ v1, P3 σ (x1) v1 ∧ ∃ v5, P3 σ (x2) v5 ∧ ((v1 = none ∧ J128_34 σ w σ') ∨ (∃ q10, v1 = some q10 ∧ ((v5 = none ∧ J128_34 σ w σ') ∨ (∃ q14, v5 = some q14 ∧ (((x1).toInt = (x2).toInt ∧ J128_65 (x1) (x2) (some q10) (some q14) σ w σ') ∨ (¬ ((x1).toInt = (x2).toInt) ∧ ∃ i18, (some q10 : mR) = some (7, i18) ∧ ∃ i20, (some q14 : mR) = some (7, i20) ∧ (((m_i σ 7 (i18) 1).toInt ≠ (m_i σ 7 (i20) 1).toInt ∧ J128_65 (x1) (x2) (some (7, i18)) (some (7, i20)) σ w σ') ∨ (¬ ((m_i σ 7 (i18) 1).toInt ≠ (m_i σ 7 (i20) 1).toInt) ∧ J128_66 (x1) (x2) (some (7, i18)) (some (7, i20)) (Int32.ofInt 1) σ w σ'))))))))
theorem x128 {σ σ' : mS} {x1 : Int32} {x2 : Int32} {w : mX} (hs : HS σ) (h : ev_run sm_all 128 [rf 11 (0), .inl (x1), .inl (x2)] σ (w) σ') : P128 σ x1 x2 w σ' := by
  unfold P128
  obtain ⟨F, f, h⟩ := ei_go h z128_at
  replace h : EV F f 128 z128 0 [some (rf 11 (0)), some (.inl (x1)), some (.inl (x2)), none, none, none] [] σ (w, σ') := h
  replace h := ei_p h rfl rfl rfl rfl
  obtain ⟨f, g, h⟩ := h
  clear g
  replace h : EV F f 128 z128 1 [some (rf 11 (0)), some (.inl (x1)), some (.inl (x2)), none, none, none] [rf 11 (0)] σ (w, σ') := h
  replace h := ei_get h rfl (HS_g11_0 hs)
  obtain ⟨f, g, h⟩ := h
  clear g
  replace h : EV F f 128 z128 4 [some (rf 11 (0)), some (.inl (x1)), some (.inl (x2)), none, none, none] [rf 4 (0)] σ (w, σ') := h
  replace h := ei_get h rfl (HS_g4_0 hs)
  obtain ⟨f, g, h⟩ := h
  clear g
  replace h : EV F f 128 z128 7 [some (rf 11 (0)), some (.inl (x1)), some (.inl (x2)), none, none, none] [rf 0 (0)] σ (w, σ') := h
  replace h := ei_p h rfl rfl rfl rfl
  obtain ⟨f, g, h⟩ := h
  clear g
  replace h : EV F f 128 z128 8 [some (rf 11 (0)), some (.inl (x1)), some (.inl (x2)), none, none, none] [.inl (x1), rf 0 (0)] σ (w, σ') := h
  replace h := bk_R (ei_v (as := [.inl (x1)]) h rfl rfl rfl) rfl z3_at rfl
  obtain ⟨v1, σ2, r3, f, g, h⟩ := h
  clear g
  have er3 := ro_run rfl r3
  rw [er3] at h r3
  have p4 := x3 hs r3
  refine ⟨v1, p4, ?_⟩
  replace h : EV F f 128 z128 11 [some (rf 11 (0)), some (.inl (x1)), some (.inl (x2)), none, none, none] [.inr (.inr (v1))] σ (w, σ') := h
  replace h := ei_p h rfl rfl rfl rfl
  obtain ⟨f, g, h⟩ := h
  clear g
  replace h : EV F f 128 z128 12 [some (rf 11 (0)), some (.inl (x1)), some (.inl (x2)), some (.inr (.inr (v1))), none, none] [] σ (w, σ') := h
  replace h := ei_p h rfl rfl rfl rfl
  obtain ⟨f, g, h⟩ := h
  clear g
  replace h : EV F f 128 z128 13 [some (rf 11 (0)), some (.inl (x1)), some (.inl (x2)), some (.inr (.inr (v1))), none, none] [rf 11 (0)] σ (w, σ') := h
  replace h := ei_get h rfl (HS_g11_0 hs)
  obtain ⟨f, g, h⟩ := h
  clear g
  replace h : EV F f 128 z128 16 [some (rf 11 (0)), some (.inl (x1)), some (.inl (x2)), some (.inr (.inr (v1))), none, none] [rf 4 (0)] σ (w, σ') := h
  replace h := ei_get h rfl (HS_g4_0 hs)
  obtain ⟨f, g, h⟩ := h
  clear g
  replace h : EV F f 128 z128 19 [some (rf 11 (0)), some (.inl (x1)), some (.inl (x2)), some (.inr (.inr (v1))), none, none] [rf 0 (0)] σ (w, σ') := h
  replace h := ei_p h rfl rfl rfl rfl
  obtain ⟨f, g, h⟩ := h
  clear g
  replace h : EV F f 128 z128 20 [some (rf 11 (0)), some (.inl (x1)), some (.inl (x2)), some (.inr (.inr (v1))), none, none] [.inl (x2), rf 0 (0)] σ (w, σ') := h
  replace h := bk_R (ei_v (as := [.inl (x2)]) h rfl rfl rfl) rfl z3_at rfl
  obtain ⟨v5, σ6, r7, f, g, h⟩ := h
  clear g
  have er7 := ro_run rfl r7
  rw [er7] at h r7
  have p8 := x3 hs r7
  refine ⟨v5, p8, ?_⟩
  replace h : EV F f 128 z128 23 [some (rf 11 (0)), some (.inl (x1)), some (.inl (x2)), some (.inr (.inr (v1))), none, none] [.inr (.inr (v5))] σ (w, σ') := h
  replace h := ei_p h rfl rfl rfl rfl
  obtain ⟨f, g, h⟩ := h
  clear g
  replace h : EV F f 128 z128 25 [some (rf 11 (0)), some (.inl (x1)), some (.inl (x2)), some (.inr (.inr (v1))), some (.inr (.inr (v5))), none] [] σ (w, σ') := h
  replace h := ei_p h rfl rfl rfl rfl
  obtain ⟨f, g, h⟩ := h
  clear g
  replace h : EV F f 128 z128 26 [some (rf 11 (0)), some (.inl (x1)), some (.inl (x2)), some (.inr (.inr (v1))), some (.inr (.inr (v5))), none] [.inr (.inr (v1))] σ (w, σ') := h
  rcases r_cs (v1) with e9 | ⟨q10, e9⟩
  · skip
    rw [e9] at h
    refine Or.inl ⟨e9, ?_⟩
    replace h : EV F f 128 z128 26 [some (rf 11 (0)), some (.inl (x1)), some (.inl (x2)), some (.inr (.inr none)), some (.inr (.inr (v5))), none] [.inr (.inr none)] σ (w, σ') := h
    replace h := ei_c h rfl rfl rfl
    rcases h with ⟨hp11, f, g, h⟩ | ⟨hp11, f, g, h⟩
    · skip
      clear g
      replace h : EV F f 128 z128 34 [some (rf 11 (0)), some (.inl (x1)), some (.inl (x2)), some (.inr (.inr none)), some (.inr (.inr (v5))), none] [] σ (w, σ') := h
      exact j128_34 hs h
    · exact absurd rfl hp11
  · skip
    rw [e9] at h
    refine Or.inr ⟨q10, e9, ?_⟩
    replace h : EV F f 128 z128 26 [some (rf 11 (0)), some (.inl (x1)), some (.inl (x2)), some (.inr (.inr (some q10))), some (.inr (.inr (v5))), none] [.inr (.inr (some q10))] σ (w, σ') := h
    replace h := ei_c h rfl rfl rfl
    rcases h with ⟨hp12, f, g, h⟩ | ⟨hp12, f, g, h⟩
    · exact absurd hp12 (fun z => by cases z)
    · skip
      clear g
      replace h : EV F f 128 z128 29 [some (rf 11 (0)), some (.inl (x1)), some (.inl (x2)), some (.inr (.inr (some q10))), some (.inr (.inr (v5))), none] [] σ (w, σ') := h
      replace h := ei_p h rfl rfl rfl rfl
      obtain ⟨f, g, h⟩ := h
      clear g
      replace h : EV F f 128 z128 31 [some (rf 11 (0)), some (.inl (x1)), some (.inl (x2)), some (.inr (.inr (some q10))), some (.inr (.inr (v5))), none] [.inr (.inr (v5))] σ (w, σ') := h
      rcases r_cs (v5) with e13 | ⟨q14, e13⟩
      · skip
        rw [e13] at h
        refine Or.inl ⟨e13, ?_⟩
        replace h : EV F f 128 z128 31 [some (rf 11 (0)), some (.inl (x1)), some (.inl (x2)), some (.inr (.inr (some q10))), some (.inr (.inr none)), none] [.inr (.inr none)] σ (w, σ') := h
        replace h := ei_c h rfl rfl rfl
        rcases h with ⟨hp15, f, g, h⟩ | ⟨hp15, f, g, h⟩
        · exact absurd rfl hp15
        · skip
          clear g
          replace h : EV F f 128 z128 34 [some (rf 11 (0)), some (.inl (x1)), some (.inl (x2)), some (.inr (.inr (some q10))), some (.inr (.inr none)), none] [] σ (w, σ') := h
          exact j128_34 hs h
      · skip
        rw [e13] at h
        refine Or.inr ⟨q14, e13, ?_⟩
        replace h : EV F f 128 z128 31 [some (rf 11 (0)), some (.inl (x1)), some (.inl (x2)), some (.inr (.inr (some q10))), some (.inr (.inr (some q14))), none] [.inr (.inr (some q14))] σ (w, σ') := h
        replace h := ei_c h rfl rfl rfl
        rcases h with ⟨hp16, f, g, h⟩ | ⟨hp16, f, g, h⟩
        · skip
          clear g
          replace h : EV F f 128 z128 44 [some (rf 11 (0)), some (.inl (x1)), some (.inl (x2)), some (.inr (.inr (some q10))), some (.inr (.inr (some q14))), none] [] σ (w, σ') := h
          replace h := ei_p h rfl rfl rfl rfl
          obtain ⟨f, g, h⟩ := h
          clear g
          replace h : EV F f 128 z128 45 [some (rf 11 (0)), some (.inl (x1)), some (.inl (x2)), some (.inr (.inr (some q10))), some (.inr (.inr (some q14))), none] [.inl (x1)] σ (w, σ') := h
          replace h := ei_p h rfl rfl rfl rfl
          obtain ⟨f, g, h⟩ := h
          clear g
          replace h : EV F f 128 z128 46 [some (rf 11 (0)), some (.inl (x1)), some (.inl (x2)), some (.inr (.inr (some q10))), some (.inr (.inr (some q14))), none] [.inl (x2), .inl (x1)] σ (w, σ') := h
          replace h := ei_c h rfl rfl rfl
          rcases h with ⟨hp17, f, g, h⟩ | ⟨hp17, f, g, h⟩
          · skip
            replace hp17 : (x1).toInt = (x2).toInt := ic_eq.mp hp17
            refine Or.inl ⟨hp17, ?_⟩
            clear g
            replace h : EV F f 128 z128 65 [some (rf 11 (0)), some (.inl (x1)), some (.inl (x2)), some (.inr (.inr (some q10))), some (.inr (.inr (some q14))), none] [] σ (w, σ') := h
            exact j128_65 hs h
          · skip
            replace hp17 : ¬ ((x1).toInt = (x2).toInt) := (not_congr ic_eq).mp hp17
            refine Or.inr ⟨hp17, ?_⟩
            clear g
            replace h : EV F f 128 z128 49 [some (rf 11 (0)), some (.inl (x1)), some (.inl (x2)), some (.inr (.inr (some q10))), some (.inr (.inr (some q14))), none] [] σ (w, σ') := h
            replace h := ei_p h rfl rfl rfl rfl
            obtain ⟨f, g, h⟩ := h
            clear g
            replace h : EV F f 128 z128 50 [some (rf 11 (0)), some (.inl (x1)), some (.inl (x2)), some (.inr (.inr (some q10))), some (.inr (.inr (some q14))), none] [.inr (.inr (some q10))] σ (w, σ') := h
            obtain ⟨i18, e19⟩ := ei_gp h rfl
            rw [Option.some.inj e19] at h
            refine ⟨i18, e19, ?_⟩
            replace h : EV F f 128 z128 50 [some (rf 11 (0)), some (.inl (x1)), some (.inl (x2)), some (rf 7 (i18)), some (.inr (.inr (some q14))), none] [rf 7 (i18)] σ (w, σ') := h
            replace h := ei_get h rfl rfl
            obtain ⟨f, g, h⟩ := h
            clear g
            replace h : EV F f 128 z128 53 [some (rf 11 (0)), some (.inl (x1)), some (.inl (x2)), some (rf 7 (i18)), some (.inr (.inr (some q14))), none] [.inl (m_i σ 7 (i18) 1)] σ (w, σ') := h
            replace h := ei_p h rfl rfl rfl rfl
            obtain ⟨f, g, h⟩ := h
            clear g
            replace h : EV F f 128 z128 55 [some (rf 11 (0)), some (.inl (x1)), some (.inl (x2)), some (rf 7 (i18)), some (.inr (.inr (some q14))), none] [.inr (.inr (some q14)), .inl (m_i σ 7 (i18) 1)] σ (w, σ') := h
            obtain ⟨i20, e21⟩ := ei_gp h rfl
            rw [Option.some.inj e21] at h
            refine ⟨i20, e21, ?_⟩
            replace h : EV F f 128 z128 55 [some (rf 11 (0)), some (.inl (x1)), some (.inl (x2)), some (rf 7 (i18)), some (rf 7 (i20)), none] [rf 7 (i20), .inl (m_i σ 7 (i18) 1)] σ (w, σ') := h
            replace h := ei_get h rfl rfl
            obtain ⟨f, g, h⟩ := h
            clear g
            replace h : EV F f 128 z128 58 [some (rf 11 (0)), some (.inl (x1)), some (.inl (x2)), some (rf 7 (i18)), some (rf 7 (i20)), none] [.inl (m_i σ 7 (i20) 1), .inl (m_i σ 7 (i18) 1)] σ (w, σ') := h
            replace h := ei_c h rfl rfl rfl
            rcases h with ⟨hp22, f, g, h⟩ | ⟨hp22, f, g, h⟩
            · skip
              replace hp22 : (m_i σ 7 (i18) 1).toInt ≠ (m_i σ 7 (i20) 1).toInt := ic_ne.mp hp22
              refine Or.inl ⟨hp22, ?_⟩
              clear g
              replace h : EV F f 128 z128 65 [some (rf 11 (0)), some (.inl (x1)), some (.inl (x2)), some (rf 7 (i18)), some (rf 7 (i20)), none] [] σ (w, σ') := h
              exact j128_65 hs h
            · skip
              replace hp22 : ¬ ((m_i σ 7 (i18) 1).toInt ≠ (m_i σ 7 (i20) 1).toInt) := (not_congr ic_ne).mp hp22
              refine Or.inr ⟨hp22, ?_⟩
              clear g
              replace h : EV F f 128 z128 61 [some (rf 11 (0)), some (.inl (x1)), some (.inl (x2)), some (rf 7 (i18)), some (rf 7 (i20)), none] [] σ (w, σ') := h
              replace h := ei_p h rfl rfl rfl rfl
              obtain ⟨f, g, h⟩ := h
              clear g
              replace h : EV F f 128 z128 62 [some (rf 11 (0)), some (.inl (x1)), some (.inl (x2)), some (rf 7 (i18)), some (rf 7 (i20)), none] [.inl (Int32.ofInt 1)] σ (w, σ') := h
              replace h := ei_p h rfl rfl rfl rfl
              obtain ⟨f, g, h⟩ := h
              clear g
              replace h : EV F f 128 z128 66 [some (rf 11 (0)), some (.inl (x1)), some (.inl (x2)), some (rf 7 (i18)), some (rf 7 (i20)), none] [.inl (Int32.ofInt 1)] σ (w, σ') := h
              exact j128_66 hs h
        · exact absurd (fun z => by cases z) hp16
def z129 : mAl := ((yX11_cancel, cX11_cancel, 4, (some .int), { frames := 7, cells := 3, slots := 21, locals := 190 }, []), rw_X11_cancel, false)
theorem z129_at : m_alF[129]? = some z129 := rfl
abbrev L129 : List (Nat × Nat) := [(0, 1), (0, 2), (1, 0), (1, 1), (1, 2), (1, 3), (1, 4), (1, 5), (1, 6), (1, 7), (1, 8), (1, 9), (1, 10), (1, 11), (1, 12), (1, 13), (1, 14), (1, 15), (2, 5), (2, 6), (2, 7), (2, 8), (2, 9), (2, 10), (3, 3), (3, 4), (3, 5), (5, 2), (6, 2), (6, 3), (6, 4), (6, 5), (6, 6), (6, 7), (6, 8), (6, 9), (6, 10), (7, 1), (7, 2), (7, 3), (7, 4), (7, 5), (7, 6), (7, 7), (7, 8), (7, 9), (7, 10), (7, 11), (7, 12), (8, 1), (8, 2), (8, 3), (8, 4), (8, 5), (8, 6), (8, 7), (8, 8), (10, 0), (10, 1), (10, 2), (10, 3), (10, 4), (10, 5), (10, 6), (10, 7), (10, 8), (10, 9), (11, 3), (11, 4), (11, 5), (13, 0), (14, 0)]
abbrev w129 : Nat → Nat → Bool := wl L129
def S129 : List Nat := [3, 4, 5, 6, 8, 9, 10, 11, 12, 13, 14, 15, 16, 18, 22, 23, 24, 25, 27, 28, 29, 30, 31, 32, 34, 35, 36, 37, 38, 39, 40, 41, 42, 43, 44, 45, 46, 47, 48, 51, 53, 54, 61, 62, 63, 64, 65, 66, 67, 68, 69, 70, 71, 72, 73, 74, 75, 76, 78, 79, 80, 81, 82, 83, 85, 86, 90, 91, 92, 95, 98, 99, 100, 102, 103, 104, 105, 106, 107, 112, 113, 114, 115, 116, 117, 129, 158, 159, 162, 190]
theorem W129 : fw_S w129 S129 = true := by decide +kernel
def P129 (σ : mS) (x1 : Int32) (w : mX) (σ' : mS) : Prop := ∃ v1, P3 σ (x1) v1 ∧ ((v1 = none ∧ (w = .inr 0 ∧ σ' = σ)) ∨ (∃ q6, v1 = some q6 ∧ ∃ i9, (some q6 : mR) = some (7, i9) ∧ ∃ v11, P98 σ (i9) v11 ∧ (((v11).toInt ≠ (0 : Int) ∧ ((∃ σ17, fw_e w162 σ σ17 ∧ P162 σ (Int32.ofInt 0) (.inl none) σ17 ∧ ∃ σ20, σ20 = m_nu σ17 1 0 ∧ ∃ σ23, fw_e w18 σ20 σ23 ∧ P18 σ20 (σ17.1 1) (Int32.ofInt 5) (x1) (Int32.ofInt 0) (Int32.ofInt 0) σ23 ∧ ∃ v26 σ27, fw_e w61 σ23 σ27 ∧ P61 σ23 (some (1, σ17.1 1)) v26 σ27 ∧ ∃ v30 σ31, fw_e w158 σ27 σ31 ∧ P158 σ27 (some (1, σ17.1 1)) (v26) v30 σ31 ∧ w = .inl (some (.inl ((v30).toInt32))) ∧ σ' = σ31) ∨ (∃ b, P162 σ (Int32.ofInt 0) (.inr b) σ' ∧ w = .inr b))) ∨ (¬ ((v11).toInt ≠ (0 : Int)) ∧ ((∃ σ35, fw_e w162 σ σ35 ∧ P162 σ (Int32.ofInt 1) (.inl none) σ35 ∧ ∃ σ38, σ38 = m_nu σ35 1 0 ∧ ∃ σ41, fw_e w18 σ38 σ41 ∧ P18 σ38 (σ35.1 1) (Int32.ofInt 5) (x1) (Int32.ofInt 0) (Int32.ofInt 0) σ41 ∧ ∃ v44 σ45, fw_e w61 σ41 σ45 ∧ P61 σ41 (some (1, σ35.1 1)) v44 σ45 ∧ ∃ v48 σ49, fw_e w158 σ45 σ49 ∧ P158 σ45 (some (1, σ35.1 1)) (v44) v48 σ49 ∧ w = .inl (some (.inl ((v48).toInt32))) ∧ σ' = σ49) ∨ (∃ b, P162 σ (Int32.ofInt 1) (.inr b) σ' ∧ w = .inr b))))))
theorem x129 {σ σ' : mS} {x1 : Int32} {w : mX} (hs : HS σ) (h : ev_run sm_all 129 [rf 11 (0), .inl (x1)] σ (w) σ') : P129 σ x1 w σ' := by
  unfold P129
  obtain ⟨F, f, h⟩ := ei_go h z129_at
  replace h : EV F f 129 z129 0 [some (rf 11 (0)), some (.inl (x1)), none, none] [] σ (w, σ') := h
  replace h := ei_p h rfl rfl rfl rfl
  obtain ⟨f, g, h⟩ := h
  clear g
  replace h : EV F f 129 z129 1 [some (rf 11 (0)), some (.inl (x1)), none, none] [rf 11 (0)] σ (w, σ') := h
  replace h := ei_get h rfl (HS_g11_0 hs)
  obtain ⟨f, g, h⟩ := h
  clear g
  replace h : EV F f 129 z129 4 [some (rf 11 (0)), some (.inl (x1)), none, none] [rf 4 (0)] σ (w, σ') := h
  replace h := ei_get h rfl (HS_g4_0 hs)
  obtain ⟨f, g, h⟩ := h
  clear g
  replace h : EV F f 129 z129 7 [some (rf 11 (0)), some (.inl (x1)), none, none] [rf 0 (0)] σ (w, σ') := h
  replace h := ei_p h rfl rfl rfl rfl
  obtain ⟨f, g, h⟩ := h
  clear g
  replace h : EV F f 129 z129 8 [some (rf 11 (0)), some (.inl (x1)), none, none] [.inl (x1), rf 0 (0)] σ (w, σ') := h
  replace h := bk_R (ei_v (as := [.inl (x1)]) h rfl rfl rfl) rfl z3_at rfl
  obtain ⟨v1, σ2, r3, f, g, h⟩ := h
  clear g
  have er3 := ro_run rfl r3
  rw [er3] at h r3
  have p4 := x3 hs r3
  refine ⟨v1, p4, ?_⟩
  replace h : EV F f 129 z129 11 [some (rf 11 (0)), some (.inl (x1)), none, none] [.inr (.inr (v1))] σ (w, σ') := h
  replace h := ei_p h rfl rfl rfl rfl
  obtain ⟨f, g, h⟩ := h
  clear g
  replace h : EV F f 129 z129 12 [some (rf 11 (0)), some (.inl (x1)), some (.inr (.inr (v1))), none] [] σ (w, σ') := h
  replace h := ei_p h rfl rfl rfl rfl
  obtain ⟨f, g, h⟩ := h
  clear g
  replace h : EV F f 129 z129 13 [some (rf 11 (0)), some (.inl (x1)), some (.inr (.inr (v1))), none] [.inr (.inr (v1))] σ (w, σ') := h
  rcases r_cs (v1) with e5 | ⟨q6, e5⟩
  · skip
    rw [e5] at h
    refine Or.inl ⟨e5, ?_⟩
    replace h : EV F f 129 z129 13 [some (rf 11 (0)), some (.inl (x1)), some (.inr (.inr none)), none] [.inr (.inr none)] σ (w, σ') := h
    replace h := ei_c h rfl rfl rfl
    rcases h with ⟨hp7, f, g, h⟩ | ⟨hp7, f, g, h⟩
    · exact absurd rfl hp7
    · skip
      clear g
      replace h : EV F f 129 z129 16 [some (rf 11 (0)), some (.inl (x1)), some (.inr (.inr none)), none] [] σ (w, σ') := h
      have e := ei_thr h rfl (by decide)
      cases e
      exact ⟨rfl, rfl⟩
  · skip
    rw [e5] at h
    refine Or.inr ⟨q6, e5, ?_⟩
    replace h : EV F f 129 z129 13 [some (rf 11 (0)), some (.inl (x1)), some (.inr (.inr (some q6))), none] [.inr (.inr (some q6))] σ (w, σ') := h
    replace h := ei_c h rfl rfl rfl
    rcases h with ⟨hp8, f, g, h⟩ | ⟨hp8, f, g, h⟩
    · skip
      clear g
      replace h : EV F f 129 z129 26 [some (rf 11 (0)), some (.inl (x1)), some (.inr (.inr (some q6))), none] [] σ (w, σ') := h
      replace h := ei_p h rfl rfl rfl rfl
      obtain ⟨f, g, h⟩ := h
      clear g
      replace h : EV F f 129 z129 27 [some (rf 11 (0)), some (.inl (x1)), some (.inr (.inr (some q6))), none] [.inr (.inr (some q6))] σ (w, σ') := h
      obtain ⟨i9, e10⟩ := ei_vp (as := []) h rfl rfl
      rw [Option.some.inj e10] at h
      refine ⟨i9, e10, ?_⟩
      replace h : EV F f 129 z129 27 [some (rf 11 (0)), some (.inl (x1)), some (rf 7 (i9)), none] [rf 7 (i9)] σ (w, σ') := h
      replace h := bk_I (ei_v (as := []) h rfl rfl rfl) rfl z98_at (Or.inr rfl)
      obtain ⟨v11, σ12, r13, f, g, h⟩ := h
      clear g
      have er13 := ro_run rfl r13
      rw [er13] at h r13
      have p14 := x98 hs r13
      refine ⟨v11, p14, ?_⟩
      replace h : EV F f 129 z129 30 [some (rf 11 (0)), some (.inl (x1)), some (rf 7 (i9)), none] [.inl (v11)] σ (w, σ') := h
      replace h := ei_c h rfl rfl rfl
      rcases h with ⟨hp15, f, g, h⟩ | ⟨hp15, f, g, h⟩
      · skip
        replace hp15 : (v11).toInt ≠ (0 : Int) := ic_ne.mp hp15
        refine Or.inl ⟨hp15, ?_⟩
        clear g
        replace h : EV F f 129 z129 37 [some (rf 11 (0)), some (.inl (x1)), some (rf 7 (i9)), none] [] σ (w, σ') := h
        replace h := ei_p h rfl rfl rfl rfl
        obtain ⟨f, g, h⟩ := h
        clear g
        replace h : EV F f 129 z129 38 [some (rf 11 (0)), some (.inl (x1)), some (rf 7 (i9)), none] [.inl (Int32.ofInt 0)] σ (w, σ') := h
        replace h := bx_0 (ei_s (as := [.inl (Int32.ofInt 0)]) h rfl (Nat.le_of_ble_eq_true rfl) rfl rfl) z162_at rfl
        rcases h with ⟨σ17, r18, f, g, h⟩ | ⟨b, σ17, r18, e⟩
        · skip
          clear g
          have p19 := x162 hs r18
          have hsσ17 : HS σ17 := HS_run rfl r18 hs
          refine Or.inl ⟨σ17, fw_run W162 rfl r18, p19, ?_⟩
          replace h : EV F f 129 z129 41 [some (rf 11 (0)), some (.inl (x1)), some (rf 7 (i9)), none] [] σ17 (w, σ') := h
          replace h := ei_new h rfl (by decide)
          obtain ⟨f, g, h⟩ := h
          clear g
          obtain ⟨σ20, e21⟩ : ∃ s, s = m_nu σ17 1 0 := ⟨_, rfl⟩
          rw [← e21] at h
          have hsσ20 : HS σ20 := by rw [e21]; exact HS_nu hsσ17 (by decide)
          refine ⟨σ20, e21, ?_⟩
          replace h : EV F f 129 z129 44 [some (rf 11 (0)), some (.inl (x1)), some (rf 7 (i9)), none] [rf 1 (σ17.1 1)] σ20 (w, σ') := h
          replace h := ei_p h rfl rfl rfl rfl
          obtain ⟨f, g, h⟩ := h
          clear g
          replace h : EV F f 129 z129 45 [some (rf 11 (0)), some (.inl (x1)), some (rf 7 (i9)), none] [rf 1 (σ17.1 1), rf 1 (σ17.1 1)] σ20 (w, σ') := h
          replace h := ei_p h rfl rfl rfl rfl
          obtain ⟨f, g, h⟩ := h
          clear g
          replace h : EV F f 129 z129 46 [some (rf 11 (0)), some (.inl (x1)), some (rf 7 (i9)), none] [.inl (Int32.ofInt 5), rf 1 (σ17.1 1), rf 1 (σ17.1 1)] σ20 (w, σ') := h
          replace h := ei_p h rfl rfl rfl rfl
          obtain ⟨f, g, h⟩ := h
          clear g
          replace h : EV F f 129 z129 47 [some (rf 11 (0)), some (.inl (x1)), some (rf 7 (i9)), none] [.inl (x1), .inl (Int32.ofInt 5), rf 1 (σ17.1 1), rf 1 (σ17.1 1)] σ20 (w, σ') := h
          replace h := ei_p h rfl rfl rfl rfl
          obtain ⟨f, g, h⟩ := h
          clear g
          replace h : EV F f 129 z129 48 [some (rf 11 (0)), some (.inl (x1)), some (rf 7 (i9)), none] [.inl (Int32.ofInt 0), .inl (x1), .inl (Int32.ofInt 5), rf 1 (σ17.1 1), rf 1 (σ17.1 1)] σ20 (w, σ') := h
          replace h := ei_p h rfl rfl rfl rfl
          obtain ⟨f, g, h⟩ := h
          clear g
          replace h : EV F f 129 z129 49 [some (rf 11 (0)), some (.inl (x1)), some (rf 7 (i9)), none] [.inl (Int32.ofInt 0), .inl (Int32.ofInt 0), .inl (x1), .inl (Int32.ofInt 5), rf 1 (σ17.1 1), rf 1 (σ17.1 1)] σ20 (w, σ') := h
          replace h := bk_0 (ei_x (as := [.inl (Int32.ofInt 0), .inl (Int32.ofInt 0), .inl (x1), .inl (Int32.ofInt 5)]) h rfl rfl rfl) rfl z18_at rfl
          obtain ⟨σ23, r24, f, g, h⟩ := h
          clear g
          have p25 := x18 hsσ20 r24
          have hsσ23 : HS σ23 := HS_run rfl r24 hsσ20
          refine ⟨σ23, fw_run W18 rfl r24, p25, ?_⟩
          replace h : EV F f 129 z129 52 [some (rf 11 (0)), some (.inl (x1)), some (rf 7 (i9)), none] [rf 1 (σ17.1 1)] σ23 (w, σ') := h
          replace h := ei_p h rfl rfl rfl rfl
          obtain ⟨f, g, h⟩ := h
          clear g
          replace h : EV F f 129 z129 53 [some (rf 11 (0)), some (.inl (x1)), some (rf 7 (i9)), some (rf 1 (σ17.1 1))] [] σ23 (w, σ') := h
          replace h := ei_p h rfl rfl rfl rfl
          obtain ⟨f, g, h⟩ := h
          clear g
          replace h : EV F f 129 z129 54 [some (rf 11 (0)), some (.inl (x1)), some (rf 7 (i9)), some (rf 1 (σ17.1 1))] [rf 11 (0)] σ23 (w, σ') := h
          replace h := ei_p h rfl rfl rfl rfl
          obtain ⟨f, g, h⟩ := h
          clear g
          replace h : EV F f 129 z129 55 [some (rf 11 (0)), some (.inl (x1)), some (rf 7 (i9)), some (rf 1 (σ17.1 1))] [rf 1 (σ17.1 1), rf 11 (0)] σ23 (w, σ') := h
          replace h := ei_p h rfl rfl rfl rfl
          obtain ⟨f, g, h⟩ := h
          clear g
          replace h : EV F f 129 z129 56 [some (rf 11 (0)), some (.inl (x1)), some (rf 7 (i9)), some (rf 1 (σ17.1 1))] [rf 11 (0), rf 1 (σ17.1 1), rf 11 (0)] σ23 (w, σ') := h
          replace h := ei_get h rfl (HS_g11_0 hsσ23)
          obtain ⟨f, g, h⟩ := h
          clear g
          replace h : EV F f 129 z129 59 [some (rf 11 (0)), some (.inl (x1)), some (rf 7 (i9)), some (rf 1 (σ17.1 1))] [rf 4 (0), rf 1 (σ17.1 1), rf 11 (0)] σ23 (w, σ') := h
          replace h := ei_p h rfl rfl rfl rfl
          obtain ⟨f, g, h⟩ := h
          clear g
          replace h : EV F f 129 z129 60 [some (rf 11 (0)), some (.inl (x1)), some (rf 7 (i9)), some (rf 1 (σ17.1 1))] [rf 1 (σ17.1 1), rf 4 (0), rf 1 (σ17.1 1), rf 11 (0)] σ23 (w, σ') := h
          replace h := bk_L (ei_v (as := [rf 1 (σ17.1 1)]) h rfl rfl rfl) rfl z61_at rfl
          obtain ⟨v26, σ27, r28, f, g, h⟩ := h
          clear g
          have p29 := x61 hsσ23 r28
          have hsσ27 : HS σ27 := HS_run rfl r28 hsσ23
          refine ⟨v26, σ27, fw_run W61 rfl r28, p29, ?_⟩
          replace h : EV F f 129 z129 63 [some (rf 11 (0)), some (.inl (x1)), some (rf 7 (i9)), some (rf 1 (σ17.1 1))] [.inr (.inl (v26)), rf 1 (σ17.1 1), rf 11 (0)] σ27 (w, σ') := h
          replace h := bk_L (ei_v (as := [.inr (.inl (v26)), rf 1 (σ17.1 1)]) h rfl rfl rfl) rfl z158_at rfl
          obtain ⟨v30, σ31, r32, f, g, h⟩ := h
          clear g
          have p33 := x158 hsσ27 r32
          have hsσ31 : HS σ31 := HS_run rfl r32 hsσ27
          refine ⟨v30, σ31, fw_run W158 rfl r32, p33, ?_⟩
          replace h : EV F f 129 z129 66 [some (rf 11 (0)), some (.inl (x1)), some (rf 7 (i9)), some (rf 1 (σ17.1 1))] [.inr (.inl (v30))] σ31 (w, σ') := h
          replace h := ei_p h rfl rfl rfl rfl
          obtain ⟨f, g, h⟩ := h
          clear g
          replace h : EV F f 129 z129 67 [some (rf 11 (0)), some (.inl (x1)), some (rf 7 (i9)), some (rf 1 (σ17.1 1))] [.inl ((v30).toInt32)] σ31 (w, σ') := h
          have e := ei_iret h rfl
          cases e
          exact ⟨rfl, rfl⟩
        · skip
          have p19 := x162 hs r18
          cases e
          exact Or.inr ⟨b, p19, rfl⟩
      · skip
        replace hp15 : ¬ ((v11).toInt ≠ (0 : Int)) := (not_congr ic_ne).mp hp15
        refine Or.inr ⟨hp15, ?_⟩
        clear g
        replace h : EV F f 129 z129 33 [some (rf 11 (0)), some (.inl (x1)), some (rf 7 (i9)), none] [] σ (w, σ') := h
        replace h := ei_p h rfl rfl rfl rfl
        obtain ⟨f, g, h⟩ := h
        clear g
        replace h : EV F f 129 z129 34 [some (rf 11 (0)), some (.inl (x1)), some (rf 7 (i9)), none] [.inl (Int32.ofInt 1)] σ (w, σ') := h
        replace h := ei_p h rfl rfl rfl rfl
        obtain ⟨f, g, h⟩ := h
        clear g
        replace h : EV F f 129 z129 38 [some (rf 11 (0)), some (.inl (x1)), some (rf 7 (i9)), none] [.inl (Int32.ofInt 1)] σ (w, σ') := h
        replace h := bx_0 (ei_s (as := [.inl (Int32.ofInt 1)]) h rfl (Nat.le_of_ble_eq_true rfl) rfl rfl) z162_at rfl
        rcases h with ⟨σ35, r36, f, g, h⟩ | ⟨b, σ35, r36, e⟩
        · skip
          clear g
          have p37 := x162 hs r36
          have hsσ35 : HS σ35 := HS_run rfl r36 hs
          refine Or.inl ⟨σ35, fw_run W162 rfl r36, p37, ?_⟩
          replace h : EV F f 129 z129 41 [some (rf 11 (0)), some (.inl (x1)), some (rf 7 (i9)), none] [] σ35 (w, σ') := h
          replace h := ei_new h rfl (by decide)
          obtain ⟨f, g, h⟩ := h
          clear g
          obtain ⟨σ38, e39⟩ : ∃ s, s = m_nu σ35 1 0 := ⟨_, rfl⟩
          rw [← e39] at h
          have hsσ38 : HS σ38 := by rw [e39]; exact HS_nu hsσ35 (by decide)
          refine ⟨σ38, e39, ?_⟩
          replace h : EV F f 129 z129 44 [some (rf 11 (0)), some (.inl (x1)), some (rf 7 (i9)), none] [rf 1 (σ35.1 1)] σ38 (w, σ') := h
          replace h := ei_p h rfl rfl rfl rfl
          obtain ⟨f, g, h⟩ := h
          clear g
          replace h : EV F f 129 z129 45 [some (rf 11 (0)), some (.inl (x1)), some (rf 7 (i9)), none] [rf 1 (σ35.1 1), rf 1 (σ35.1 1)] σ38 (w, σ') := h
          replace h := ei_p h rfl rfl rfl rfl
          obtain ⟨f, g, h⟩ := h
          clear g
          replace h : EV F f 129 z129 46 [some (rf 11 (0)), some (.inl (x1)), some (rf 7 (i9)), none] [.inl (Int32.ofInt 5), rf 1 (σ35.1 1), rf 1 (σ35.1 1)] σ38 (w, σ') := h
          replace h := ei_p h rfl rfl rfl rfl
          obtain ⟨f, g, h⟩ := h
          clear g
          replace h : EV F f 129 z129 47 [some (rf 11 (0)), some (.inl (x1)), some (rf 7 (i9)), none] [.inl (x1), .inl (Int32.ofInt 5), rf 1 (σ35.1 1), rf 1 (σ35.1 1)] σ38 (w, σ') := h
          replace h := ei_p h rfl rfl rfl rfl
          obtain ⟨f, g, h⟩ := h
          clear g
          replace h : EV F f 129 z129 48 [some (rf 11 (0)), some (.inl (x1)), some (rf 7 (i9)), none] [.inl (Int32.ofInt 0), .inl (x1), .inl (Int32.ofInt 5), rf 1 (σ35.1 1), rf 1 (σ35.1 1)] σ38 (w, σ') := h
          replace h := ei_p h rfl rfl rfl rfl
          obtain ⟨f, g, h⟩ := h
          clear g
          replace h : EV F f 129 z129 49 [some (rf 11 (0)), some (.inl (x1)), some (rf 7 (i9)), none] [.inl (Int32.ofInt 0), .inl (Int32.ofInt 0), .inl (x1), .inl (Int32.ofInt 5), rf 1 (σ35.1 1), rf 1 (σ35.1 1)] σ38 (w, σ') := h
          replace h := bk_0 (ei_x (as := [.inl (Int32.ofInt 0), .inl (Int32.ofInt 0), .inl (x1), .inl (Int32.ofInt 5)]) h rfl rfl rfl) rfl z18_at rfl
          obtain ⟨σ41, r42, f, g, h⟩ := h
          clear g
          have p43 := x18 hsσ38 r42
          have hsσ41 : HS σ41 := HS_run rfl r42 hsσ38
          refine ⟨σ41, fw_run W18 rfl r42, p43, ?_⟩
          replace h : EV F f 129 z129 52 [some (rf 11 (0)), some (.inl (x1)), some (rf 7 (i9)), none] [rf 1 (σ35.1 1)] σ41 (w, σ') := h
          replace h := ei_p h rfl rfl rfl rfl
          obtain ⟨f, g, h⟩ := h
          clear g
          replace h : EV F f 129 z129 53 [some (rf 11 (0)), some (.inl (x1)), some (rf 7 (i9)), some (rf 1 (σ35.1 1))] [] σ41 (w, σ') := h
          replace h := ei_p h rfl rfl rfl rfl
          obtain ⟨f, g, h⟩ := h
          clear g
          replace h : EV F f 129 z129 54 [some (rf 11 (0)), some (.inl (x1)), some (rf 7 (i9)), some (rf 1 (σ35.1 1))] [rf 11 (0)] σ41 (w, σ') := h
          replace h := ei_p h rfl rfl rfl rfl
          obtain ⟨f, g, h⟩ := h
          clear g
          replace h : EV F f 129 z129 55 [some (rf 11 (0)), some (.inl (x1)), some (rf 7 (i9)), some (rf 1 (σ35.1 1))] [rf 1 (σ35.1 1), rf 11 (0)] σ41 (w, σ') := h
          replace h := ei_p h rfl rfl rfl rfl
          obtain ⟨f, g, h⟩ := h
          clear g
          replace h : EV F f 129 z129 56 [some (rf 11 (0)), some (.inl (x1)), some (rf 7 (i9)), some (rf 1 (σ35.1 1))] [rf 11 (0), rf 1 (σ35.1 1), rf 11 (0)] σ41 (w, σ') := h
          replace h := ei_get h rfl (HS_g11_0 hsσ41)
          obtain ⟨f, g, h⟩ := h
          clear g
          replace h : EV F f 129 z129 59 [some (rf 11 (0)), some (.inl (x1)), some (rf 7 (i9)), some (rf 1 (σ35.1 1))] [rf 4 (0), rf 1 (σ35.1 1), rf 11 (0)] σ41 (w, σ') := h
          replace h := ei_p h rfl rfl rfl rfl
          obtain ⟨f, g, h⟩ := h
          clear g
          replace h : EV F f 129 z129 60 [some (rf 11 (0)), some (.inl (x1)), some (rf 7 (i9)), some (rf 1 (σ35.1 1))] [rf 1 (σ35.1 1), rf 4 (0), rf 1 (σ35.1 1), rf 11 (0)] σ41 (w, σ') := h
          replace h := bk_L (ei_v (as := [rf 1 (σ35.1 1)]) h rfl rfl rfl) rfl z61_at rfl
          obtain ⟨v44, σ45, r46, f, g, h⟩ := h
          clear g
          have p47 := x61 hsσ41 r46
          have hsσ45 : HS σ45 := HS_run rfl r46 hsσ41
          refine ⟨v44, σ45, fw_run W61 rfl r46, p47, ?_⟩
          replace h : EV F f 129 z129 63 [some (rf 11 (0)), some (.inl (x1)), some (rf 7 (i9)), some (rf 1 (σ35.1 1))] [.inr (.inl (v44)), rf 1 (σ35.1 1), rf 11 (0)] σ45 (w, σ') := h
          replace h := bk_L (ei_v (as := [.inr (.inl (v44)), rf 1 (σ35.1 1)]) h rfl rfl rfl) rfl z158_at rfl
          obtain ⟨v48, σ49, r50, f, g, h⟩ := h
          clear g
          have p51 := x158 hsσ45 r50
          have hsσ49 : HS σ49 := HS_run rfl r50 hsσ45
          refine ⟨v48, σ49, fw_run W158 rfl r50, p51, ?_⟩
          replace h : EV F f 129 z129 66 [some (rf 11 (0)), some (.inl (x1)), some (rf 7 (i9)), some (rf 1 (σ35.1 1))] [.inr (.inl (v48))] σ49 (w, σ') := h
          replace h := ei_p h rfl rfl rfl rfl
          obtain ⟨f, g, h⟩ := h
          clear g
          replace h : EV F f 129 z129 67 [some (rf 11 (0)), some (.inl (x1)), some (rf 7 (i9)), some (rf 1 (σ35.1 1))] [.inl ((v48).toInt32)] σ49 (w, σ') := h
          have e := ei_iret h rfl
          cases e
          exact ⟨rfl, rfl⟩
        · skip
          have p37 := x162 hs r36
          cases e
          exact Or.inr ⟨b, p37, rfl⟩
    · exact absurd (fun z => by cases z) hp8
def z130 : mAl := ((yX11_spread, cX11_spread, 7, (some .int), { frames := 7, cells := 6, slots := 39, locals := 190 }, []), rw_X11_spread, false)
theorem z130_at : m_alF[130]? = some z130 := rfl
abbrev L130 : List (Nat × Nat) := [(0, 1), (0, 2), (1, 0), (1, 1), (1, 2), (1, 3), (1, 4), (1, 5), (1, 6), (1, 7), (1, 8), (1, 9), (1, 10), (1, 11), (1, 12), (1, 13), (1, 14), (1, 15), (2, 5), (2, 6), (2, 7), (2, 8), (2, 9), (2, 10), (3, 3), (3, 4), (3, 5), (5, 2), (6, 2), (6, 3), (6, 4), (6, 5), (6, 6), (6, 7), (6, 8), (6, 9), (6, 10), (7, 1), (7, 2), (7, 3), (7, 4), (7, 5), (7, 6), (7, 7), (7, 8), (7, 9), (7, 10), (7, 11), (7, 12), (8, 1), (8, 2), (8, 3), (8, 4), (8, 5), (8, 6), (8, 7), (8, 8), (10, 0), (10, 1), (10, 2), (10, 3), (10, 4), (10, 5), (10, 6), (10, 7), (10, 8), (10, 9), (11, 3), (11, 4), (11, 5), (13, 0), (14, 0)]
abbrev w130 : Nat → Nat → Bool := wl L130
def S130 : List Nat := [3, 4, 5, 6, 8, 9, 10, 11, 12, 13, 14, 15, 16, 18, 19, 22, 23, 24, 25, 26, 27, 28, 29, 30, 31, 32, 34, 35, 36, 37, 38, 39, 40, 41, 42, 43, 44, 45, 46, 47, 48, 51, 53, 54, 61, 62, 63, 64, 65, 66, 67, 68, 69, 70, 71, 72, 73, 74, 75, 76, 78, 79, 80, 81, 82, 83, 85, 86, 90, 91, 92, 95, 99, 100, 102, 103, 104, 105, 106, 107, 112, 113, 114, 115, 116, 117, 130, 158, 159, 160, 161, 162, 163, 164, 166, 190]
theorem W130 : fw_S w130 S130 = true := by decide +kernel
def J130_123 (u1 : Int32) (u2 : Int32) (u3 : Int32) (u4 : Int32) (u5 : Int32) (t0 : Int32) (τ : mS) (w : mX) (σ' : mS) : Prop := ((∃ σ2, fw_e w162 τ σ2 ∧ P162 τ (t0) (.inl none) σ2 ∧ ∃ σ5, σ5 = m_nu σ2 1 0 ∧ ∃ σ8, fw_e w18 σ5 σ8 ∧ P18 σ5 (σ2.1 1) (Int32.ofInt 6) (u1) (u2) (u3) σ8 ∧ ∃ v11 σ12, fw_e w19 σ8 σ12 ∧ P19 σ8 (σ2.1 1) (u4) (u5) (Int32.ofInt 0) (Int32.ofInt 0) v11 σ12 ∧ ∃ v15 σ16, fw_e w61 σ12 σ16 ∧ P61 σ12 (v11) v15 σ16 ∧ ∃ v19 σ20, fw_e w158 σ16 σ20 ∧ P158 σ16 (v11) (v15) v19 σ20 ∧ w = .inl (some (.inl ((v19).toInt32))) ∧ σ' = σ20) ∨ (∃ b, P162 τ (t0) (.inr b) σ' ∧ w = .inr b))
theorem j130_123 {F f : Nat} {σ' τ : mS} {u1 : Int32} {u2 : Int32} {u3 : Int32} {u4 : Int32} {u5 : Int32} {t0 : Int32} {y6 : Option mV} {w : mX} (hsτ : HS τ) (h : EV F f 130 z130 123 [some (rf 11 (0)), some (.inl (u1)), some (.inl (u2)), some (.inl (u3)), some (.inl (u4)), some (.inl (u5)), y6] [.inl (t0)] τ (w, σ')) : J130_123 u1 u2 u3 u4 u5 t0 τ w σ' := by
  unfold J130_123
  replace h := bx_0 (ei_s (as := [.inl (t0)]) h rfl (Nat.le_of_ble_eq_true rfl) rfl rfl) z162_at rfl
  rcases h with ⟨σ2, r3, f, g, h⟩ | ⟨b, σ2, r3, e⟩
  · skip
    clear g
    have p4 := x162 hsτ r3
    have hsσ2 : HS σ2 := HS_run rfl r3 hsτ
    refine Or.inl ⟨σ2, fw_run W162 rfl r3, p4, ?_⟩
    replace h : EV F f 130 z130 126 [some (rf 11 (0)), some (.inl (u1)), some (.inl (u2)), some (.inl (u3)), some (.inl (u4)), some (.inl (u5)), y6] [] σ2 (w, σ') := h
    replace h := ei_new h rfl (by decide)
    obtain ⟨f, g, h⟩ := h
    clear g
    obtain ⟨σ5, e6⟩ : ∃ s, s = m_nu σ2 1 0 := ⟨_, rfl⟩
    rw [← e6] at h
    have hsσ5 : HS σ5 := by rw [e6]; exact HS_nu hsσ2 (by decide)
    refine ⟨σ5, e6, ?_⟩
    replace h : EV F f 130 z130 129 [some (rf 11 (0)), some (.inl (u1)), some (.inl (u2)), some (.inl (u3)), some (.inl (u4)), some (.inl (u5)), y6] [rf 1 (σ2.1 1)] σ5 (w, σ') := h
    replace h := ei_p h rfl rfl rfl rfl
    obtain ⟨f, g, h⟩ := h
    clear g
    replace h : EV F f 130 z130 130 [some (rf 11 (0)), some (.inl (u1)), some (.inl (u2)), some (.inl (u3)), some (.inl (u4)), some (.inl (u5)), y6] [rf 1 (σ2.1 1), rf 1 (σ2.1 1)] σ5 (w, σ') := h
    replace h := ei_p h rfl rfl rfl rfl
    obtain ⟨f, g, h⟩ := h
    clear g
    replace h : EV F f 130 z130 132 [some (rf 11 (0)), some (.inl (u1)), some (.inl (u2)), some (.inl (u3)), some (.inl (u4)), some (.inl (u5)), y6] [.inl (Int32.ofInt 6), rf 1 (σ2.1 1), rf 1 (σ2.1 1)] σ5 (w, σ') := h
    replace h := ei_p h rfl rfl rfl rfl
    obtain ⟨f, g, h⟩ := h
    clear g
    replace h : EV F f 130 z130 133 [some (rf 11 (0)), some (.inl (u1)), some (.inl (u2)), some (.inl (u3)), some (.inl (u4)), some (.inl (u5)), y6] [.inl (u1), .inl (Int32.ofInt 6), rf 1 (σ2.1 1), rf 1 (σ2.1 1)] σ5 (w, σ') := h
    replace h := ei_p h rfl rfl rfl rfl
    obtain ⟨f, g, h⟩ := h
    clear g
    replace h : EV F f 130 z130 134 [some (rf 11 (0)), some (.inl (u1)), some (.inl (u2)), some (.inl (u3)), some (.inl (u4)), some (.inl (u5)), y6] [.inl (u2), .inl (u1), .inl (Int32.ofInt 6), rf 1 (σ2.1 1), rf 1 (σ2.1 1)] σ5 (w, σ') := h
    replace h := ei_p h rfl rfl rfl rfl
    obtain ⟨f, g, h⟩ := h
    clear g
    replace h : EV F f 130 z130 135 [some (rf 11 (0)), some (.inl (u1)), some (.inl (u2)), some (.inl (u3)), some (.inl (u4)), some (.inl (u5)), y6] [.inl (u3), .inl (u2), .inl (u1), .inl (Int32.ofInt 6), rf 1 (σ2.1 1), rf 1 (σ2.1 1)] σ5 (w, σ') := h
    replace h := bk_0 (ei_x (as := [.inl (u3), .inl (u2), .inl (u1), .inl (Int32.ofInt 6)]) h rfl rfl rfl) rfl z18_at rfl
    obtain ⟨σ8, r9, f, g, h⟩ := h
    clear g
    have p10 := x18 hsσ5 r9
    have hsσ8 : HS σ8 := HS_run rfl r9 hsσ5
    refine ⟨σ8, fw_run W18 rfl r9, p10, ?_⟩
    replace h : EV F f 130 z130 138 [some (rf 11 (0)), some (.inl (u1)), some (.inl (u2)), some (.inl (u3)), some (.inl (u4)), some (.inl (u5)), y6] [rf 1 (σ2.1 1)] σ8 (w, σ') := h
    replace h := ei_p h rfl rfl rfl rfl
    obtain ⟨f, g, h⟩ := h
    clear g
    replace h : EV F f 130 z130 140 [some (rf 11 (0)), some (.inl (u1)), some (.inl (u2)), some (.inl (u3)), some (.inl (u4)), some (.inl (u5)), y6] [.inl (u4), rf 1 (σ2.1 1)] σ8 (w, σ') := h
    replace h := ei_p h rfl rfl rfl rfl
    obtain ⟨f, g, h⟩ := h
    clear g
    replace h : EV F f 130 z130 142 [some (rf 11 (0)), some (.inl (u1)), some (.inl (u2)), some (.inl (u3)), some (.inl (u4)), some (.inl (u5)), y6] [.inl (u5), .inl (u4), rf 1 (σ2.1 1)] σ8 (w, σ') := h
    replace h := ei_p h rfl rfl rfl rfl
    obtain ⟨f, g, h⟩ := h
    clear g
    replace h : EV F f 130 z130 143 [some (rf 11 (0)), some (.inl (u1)), some (.inl (u2)), some (.inl (u3)), some (.inl (u4)), some (.inl (u5)), y6] [.inl (Int32.ofInt 0), .inl (u5), .inl (u4), rf 1 (σ2.1 1)] σ8 (w, σ') := h
    replace h := ei_p h rfl rfl rfl rfl
    obtain ⟨f, g, h⟩ := h
    clear g
    replace h : EV F f 130 z130 144 [some (rf 11 (0)), some (.inl (u1)), some (.inl (u2)), some (.inl (u3)), some (.inl (u4)), some (.inl (u5)), y6] [.inl (Int32.ofInt 0), .inl (Int32.ofInt 0), .inl (u5), .inl (u4), rf 1 (σ2.1 1)] σ8 (w, σ') := h
    replace h := bk_R (ei_v (as := [.inl (Int32.ofInt 0), .inl (Int32.ofInt 0), .inl (u5), .inl (u4)]) h rfl rfl rfl) rfl z19_at rfl
    obtain ⟨v11, σ12, r13, f, g, h⟩ := h
    clear g
    have p14 := x19 hsσ8 r13
    have hsσ12 : HS σ12 := HS_run rfl r13 hsσ8
    refine ⟨v11, σ12, fw_run W19 rfl r13, p14, ?_⟩
    replace h : EV F f 130 z130 147 [some (rf 11 (0)), some (.inl (u1)), some (.inl (u2)), some (.inl (u3)), some (.inl (u4)), some (.inl (u5)), y6] [.inr (.inr (v11))] σ12 (w, σ') := h
    replace h := ei_p h rfl rfl rfl rfl
    obtain ⟨f, g, h⟩ := h
    clear g
    replace h : EV F f 130 z130 149 [some (rf 11 (0)), some (.inl (u1)), some (.inl (u2)), some (.inl (u3)), some (.inl (u4)), some (.inl (u5)), some (.inr (.inr (v11)))] [] σ12 (w, σ') := h
    replace h := ei_p h rfl rfl rfl rfl
    obtain ⟨f, g, h⟩ := h
    clear g
    replace h : EV F f 130 z130 150 [some (rf 11 (0)), some (.inl (u1)), some (.inl (u2)), some (.inl (u3)), some (.inl (u4)), some (.inl (u5)), some (.inr (.inr (v11)))] [rf 11 (0)] σ12 (w, σ') := h
    replace h := ei_p h rfl rfl rfl rfl
    obtain ⟨f, g, h⟩ := h
    clear g
    replace h : EV F f 130 z130 152 [some (rf 11 (0)), some (.inl (u1)), some (.inl (u2)), some (.inl (u3)), some (.inl (u4)), some (.inl (u5)), some (.inr (.inr (v11)))] [.inr (.inr (v11)), rf 11 (0)] σ12 (w, σ') := h
    replace h := ei_p h rfl rfl rfl rfl
    obtain ⟨f, g, h⟩ := h
    clear g
    replace h : EV F f 130 z130 153 [some (rf 11 (0)), some (.inl (u1)), some (.inl (u2)), some (.inl (u3)), some (.inl (u4)), some (.inl (u5)), some (.inr (.inr (v11)))] [rf 11 (0), .inr (.inr (v11)), rf 11 (0)] σ12 (w, σ') := h
    replace h := ei_get h rfl (HS_g11_0 hsσ12)
    obtain ⟨f, g, h⟩ := h
    clear g
    replace h : EV F f 130 z130 156 [some (rf 11 (0)), some (.inl (u1)), some (.inl (u2)), some (.inl (u3)), some (.inl (u4)), some (.inl (u5)), some (.inr (.inr (v11)))] [rf 4 (0), .inr (.inr (v11)), rf 11 (0)] σ12 (w, σ') := h
    replace h := ei_p h rfl rfl rfl rfl
    obtain ⟨f, g, h⟩ := h
    clear g
    replace h : EV F f 130 z130 158 [some (rf 11 (0)), some (.inl (u1)), some (.inl (u2)), some (.inl (u3)), some (.inl (u4)), some (.inl (u5)), some (.inr (.inr (v11)))] [.inr (.inr (v11)), rf 4 (0), .inr (.inr (v11)), rf 11 (0)] σ12 (w, σ') := h
    replace h := bk_L (ei_v (as := [.inr (.inr (v11))]) h rfl rfl rfl) rfl z61_at rfl
    obtain ⟨v15, σ16, r17, f, g, h⟩ := h
    clear g
    have p18 := x61 hsσ12 r17
    have hsσ16 : HS σ16 := HS_run rfl r17 hsσ12
    refine ⟨v15, σ16, fw_run W61 rfl r17, p18, ?_⟩
    replace h : EV F f 130 z130 161 [some (rf 11 (0)), some (.inl (u1)), some (.inl (u2)), some (.inl (u3)), some (.inl (u4)), some (.inl (u5)), some (.inr (.inr (v11)))] [.inr (.inl (v15)), .inr (.inr (v11)), rf 11 (0)] σ16 (w, σ') := h
    replace h := bk_L (ei_v (as := [.inr (.inl (v15)), .inr (.inr (v11))]) h rfl rfl rfl) rfl z158_at rfl
    obtain ⟨v19, σ20, r21, f, g, h⟩ := h
    clear g
    have p22 := x158 hsσ16 r21
    have hsσ20 : HS σ20 := HS_run rfl r21 hsσ16
    refine ⟨v19, σ20, fw_run W158 rfl r21, p22, ?_⟩
    replace h : EV F f 130 z130 164 [some (rf 11 (0)), some (.inl (u1)), some (.inl (u2)), some (.inl (u3)), some (.inl (u4)), some (.inl (u5)), some (.inr (.inr (v11)))] [.inr (.inl (v19))] σ20 (w, σ') := h
    replace h := ei_p h rfl rfl rfl rfl
    obtain ⟨f, g, h⟩ := h
    clear g
    replace h : EV F f 130 z130 165 [some (rf 11 (0)), some (.inl (u1)), some (.inl (u2)), some (.inl (u3)), some (.inl (u4)), some (.inl (u5)), some (.inr (.inr (v11)))] [.inl ((v19).toInt32)] σ20 (w, σ') := h
    have e := ei_iret h rfl
    cases e
    exact ⟨rfl, rfl⟩
  · skip
    have p4 := x162 hsτ r3
    cases e
    exact Or.inr ⟨b, p4, rfl⟩
def J130_122 (u1 : Int32) (u2 : Int32) (u3 : Int32) (u4 : Int32) (u5 : Int32) (τ : mS) (w : mX) (σ' : mS) : Prop := J130_123 (u1) (u2) (u3) (u4) (u5) (Int32.ofInt 0) τ w σ'
theorem j130_122 {F f : Nat} {σ' τ : mS} {u1 : Int32} {u2 : Int32} {u3 : Int32} {u4 : Int32} {u5 : Int32} {y6 : Option mV} {w : mX} (hsτ : HS τ) (h : EV F f 130 z130 122 [some (rf 11 (0)), some (.inl (u1)), some (.inl (u2)), some (.inl (u3)), some (.inl (u4)), some (.inl (u5)), y6] [] τ (w, σ')) : J130_122 u1 u2 u3 u4 u5 τ w σ' := by
  unfold J130_122
  replace h := ei_p h rfl rfl rfl rfl
  obtain ⟨f, g, h⟩ := h
  clear g
  replace h : EV F f 130 z130 123 [some (rf 11 (0)), some (.inl (u1)), some (.inl (u2)), some (.inl (u3)), some (.inl (u4)), some (.inl (u5)), y6] [.inl (Int32.ofInt 0)] τ (w, σ') := h
  exact j130_123 hsτ h
def J130_87 (u1 : Int32) (u2 : Int32) (u3 : Int32) (u4 : Int32) (u5 : Int32) (t0 : Int32) (τ : mS) (w : mX) (σ' : mS) : Prop := ((∃ σ2, fw_e w162 τ σ2 ∧ P162 τ (t0) (.inl none) σ2 ∧ ∃ v5, P27 σ2 (u2) v5 ∧ (((v5).toInt = (0 : Int) ∧ J130_122 (u1) (u2) (u3) (u4) (u5) σ2 w σ') ∨ (¬ ((v5).toInt = (0 : Int)) ∧ ∃ v10, P27 σ2 (u3) v10 ∧ (((v10).toInt = (0 : Int) ∧ J130_122 (u1) (u2) (u3) (u4) (u5) σ2 w σ') ∨ (¬ ((v10).toInt = (0 : Int)) ∧ J130_123 (u1) (u2) (u3) (u4) (u5) (Int32.ofInt 1) σ2 w σ'))))) ∨ (∃ b, P162 τ (t0) (.inr b) σ' ∧ w = .inr b))
theorem j130_87 {F f : Nat} {σ' τ : mS} {u1 : Int32} {u2 : Int32} {u3 : Int32} {u4 : Int32} {u5 : Int32} {t0 : Int32} {y6 : Option mV} {w : mX} (hsτ : HS τ) (h : EV F f 130 z130 87 [some (rf 11 (0)), some (.inl (u1)), some (.inl (u2)), some (.inl (u3)), some (.inl (u4)), some (.inl (u5)), y6] [.inl (t0)] τ (w, σ')) : J130_87 u1 u2 u3 u4 u5 t0 τ w σ' := by
  unfold J130_87
  replace h := bx_0 (ei_s (as := [.inl (t0)]) h rfl (Nat.le_of_ble_eq_true rfl) rfl rfl) z162_at rfl
  rcases h with ⟨σ2, r3, f, g, h⟩ | ⟨b, σ2, r3, e⟩
  · skip
    clear g
    have p4 := x162 hsτ r3
    have hsσ2 : HS σ2 := HS_run rfl r3 hsτ
    refine Or.inl ⟨σ2, fw_run W162 rfl r3, p4, ?_⟩
    replace h : EV F f 130 z130 90 [some (rf 11 (0)), some (.inl (u1)), some (.inl (u2)), some (.inl (u3)), some (.inl (u4)), some (.inl (u5)), y6] [] σ2 (w, σ') := h
    replace h := ei_p h rfl rfl rfl rfl
    obtain ⟨f, g, h⟩ := h
    clear g
    replace h : EV F f 130 z130 91 [some (rf 11 (0)), some (.inl (u1)), some (.inl (u2)), some (.inl (u3)), some (.inl (u4)), some (.inl (u5)), y6] [rf 11 (0)] σ2 (w, σ') := h
    replace h := ei_get h rfl (HS_g11_0 hsσ2)
    obtain ⟨f, g, h⟩ := h
    clear g
    replace h : EV F f 130 z130 94 [some (rf 11 (0)), some (.inl (u1)), some (.inl (u2)), some (.inl (u3)), some (.inl (u4)), some (.inl (u5)), y6] [rf 4 (0)] σ2 (w, σ') := h
    replace h := ei_get h rfl (HS_g4_1 hsσ2)
    obtain ⟨f, g, h⟩ := h
    clear g
    replace h : EV F f 130 z130 97 [some (rf 11 (0)), some (.inl (u1)), some (.inl (u2)), some (.inl (u3)), some (.inl (u4)), some (.inl (u5)), y6] [rf 2 (0)] σ2 (w, σ') := h
    replace h := ei_p h rfl rfl rfl rfl
    obtain ⟨f, g, h⟩ := h
    clear g
    replace h : EV F f 130 z130 98 [some (rf 11 (0)), some (.inl (u1)), some (.inl (u2)), some (.inl (u3)), some (.inl (u4)), some (.inl (u5)), y6] [.inl (u2), rf 2 (0)] σ2 (w, σ') := h
    replace h := bk_I (ei_v (as := [.inl (u2)]) h rfl rfl rfl) rfl z27_at (Or.inr rfl)
    obtain ⟨v5, σ6, r7, f, g, h⟩ := h
    clear g
    have er7 := ro_run rfl r7
    rw [er7] at h r7
    have p8 := x27 hsσ2 r7
    refine ⟨v5, p8, ?_⟩
    replace h : EV F f 130 z130 101 [some (rf 11 (0)), some (.inl (u1)), some (.inl (u2)), some (.inl (u3)), some (.inl (u4)), some (.inl (u5)), y6] [.inl (v5)] σ2 (w, σ') := h
    replace h := ei_c h rfl rfl rfl
    rcases h with ⟨hp9, f, g, h⟩ | ⟨hp9, f, g, h⟩
    · skip
      replace hp9 : (v5).toInt = (0 : Int) := ic_eq.mp hp9
      refine Or.inl ⟨hp9, ?_⟩
      clear g
      replace h : EV F f 130 z130 122 [some (rf 11 (0)), some (.inl (u1)), some (.inl (u2)), some (.inl (u3)), some (.inl (u4)), some (.inl (u5)), y6] [] σ2 (w, σ') := h
      exact j130_122 hsσ2 h
    · skip
      replace hp9 : ¬ ((v5).toInt = (0 : Int)) := (not_congr ic_eq).mp hp9
      refine Or.inr ⟨hp9, ?_⟩
      clear g
      replace h : EV F f 130 z130 104 [some (rf 11 (0)), some (.inl (u1)), some (.inl (u2)), some (.inl (u3)), some (.inl (u4)), some (.inl (u5)), y6] [] σ2 (w, σ') := h
      replace h := ei_p h rfl rfl rfl rfl
      obtain ⟨f, g, h⟩ := h
      clear g
      replace h : EV F f 130 z130 105 [some (rf 11 (0)), some (.inl (u1)), some (.inl (u2)), some (.inl (u3)), some (.inl (u4)), some (.inl (u5)), y6] [rf 11 (0)] σ2 (w, σ') := h
      replace h := ei_get h rfl (HS_g11_0 hsσ2)
      obtain ⟨f, g, h⟩ := h
      clear g
      replace h : EV F f 130 z130 108 [some (rf 11 (0)), some (.inl (u1)), some (.inl (u2)), some (.inl (u3)), some (.inl (u4)), some (.inl (u5)), y6] [rf 4 (0)] σ2 (w, σ') := h
      replace h := ei_get h rfl (HS_g4_1 hsσ2)
      obtain ⟨f, g, h⟩ := h
      clear g
      replace h : EV F f 130 z130 111 [some (rf 11 (0)), some (.inl (u1)), some (.inl (u2)), some (.inl (u3)), some (.inl (u4)), some (.inl (u5)), y6] [rf 2 (0)] σ2 (w, σ') := h
      replace h := ei_p h rfl rfl rfl rfl
      obtain ⟨f, g, h⟩ := h
      clear g
      replace h : EV F f 130 z130 112 [some (rf 11 (0)), some (.inl (u1)), some (.inl (u2)), some (.inl (u3)), some (.inl (u4)), some (.inl (u5)), y6] [.inl (u3), rf 2 (0)] σ2 (w, σ') := h
      replace h := bk_I (ei_v (as := [.inl (u3)]) h rfl rfl rfl) rfl z27_at (Or.inr rfl)
      obtain ⟨v10, σ11, r12, f, g, h⟩ := h
      clear g
      have er12 := ro_run rfl r12
      rw [er12] at h r12
      have p13 := x27 hsσ2 r12
      refine ⟨v10, p13, ?_⟩
      replace h : EV F f 130 z130 115 [some (rf 11 (0)), some (.inl (u1)), some (.inl (u2)), some (.inl (u3)), some (.inl (u4)), some (.inl (u5)), y6] [.inl (v10)] σ2 (w, σ') := h
      replace h := ei_c h rfl rfl rfl
      rcases h with ⟨hp14, f, g, h⟩ | ⟨hp14, f, g, h⟩
      · skip
        replace hp14 : (v10).toInt = (0 : Int) := ic_eq.mp hp14
        refine Or.inl ⟨hp14, ?_⟩
        clear g
        replace h : EV F f 130 z130 122 [some (rf 11 (0)), some (.inl (u1)), some (.inl (u2)), some (.inl (u3)), some (.inl (u4)), some (.inl (u5)), y6] [] σ2 (w, σ') := h
        exact j130_122 hsσ2 h
      · skip
        replace hp14 : ¬ ((v10).toInt = (0 : Int)) := (not_congr ic_eq).mp hp14
        refine Or.inr ⟨hp14, ?_⟩
        clear g
        replace h : EV F f 130 z130 118 [some (rf 11 (0)), some (.inl (u1)), some (.inl (u2)), some (.inl (u3)), some (.inl (u4)), some (.inl (u5)), y6] [] σ2 (w, σ') := h
        replace h := ei_p h rfl rfl rfl rfl
        obtain ⟨f, g, h⟩ := h
        clear g
        replace h : EV F f 130 z130 119 [some (rf 11 (0)), some (.inl (u1)), some (.inl (u2)), some (.inl (u3)), some (.inl (u4)), some (.inl (u5)), y6] [.inl (Int32.ofInt 1)] σ2 (w, σ') := h
        replace h := ei_p h rfl rfl rfl rfl
        obtain ⟨f, g, h⟩ := h
        clear g
        replace h : EV F f 130 z130 123 [some (rf 11 (0)), some (.inl (u1)), some (.inl (u2)), some (.inl (u3)), some (.inl (u4)), some (.inl (u5)), y6] [.inl (Int32.ofInt 1)] σ2 (w, σ') := h
        exact j130_123 hsσ2 h
  · skip
    have p4 := x162 hsτ r3
    cases e
    exact Or.inr ⟨b, p4, rfl⟩
def J130_51 (u1 : Int32) (u2 : Int32) (u3 : Int32) (u4 : Int32) (u5 : Int32) (t0 : Int32) (τ : mS) (w : mX) (σ' : mS) : Prop := ((∃ σ2, fw_e w161 τ σ2 ∧ P161 τ (t0) (.inl none) σ2 ∧ ∃ v5, P163 σ2 (u5) (Int32.ofInt (-9998)) (Int32.ofInt 9998) v5 ∧ ((∃ σ10, fw_e w161 σ2 σ10 ∧ P161 σ2 (v5) (.inl none) σ10 ∧ ∃ v13, P26 σ10 (u1) v13 ∧ (((v13).toInt ≠ (0 : Int) ∧ J130_87 (u1) (u2) (u3) (u4) (u5) (Int32.ofInt 0) σ10 w σ') ∨ (¬ ((v13).toInt ≠ (0 : Int)) ∧ J130_87 (u1) (u2) (u3) (u4) (u5) (Int32.ofInt 1) σ10 w σ'))) ∨ (∃ b, P161 σ2 (v5) (.inr b) σ' ∧ w = .inr b))) ∨ (∃ b, P161 τ (t0) (.inr b) σ' ∧ w = .inr b))
theorem j130_51 {F f : Nat} {σ' τ : mS} {u1 : Int32} {u2 : Int32} {u3 : Int32} {u4 : Int32} {u5 : Int32} {t0 : Int32} {y6 : Option mV} {w : mX} (hsτ : HS τ) (h : EV F f 130 z130 51 [some (rf 11 (0)), some (.inl (u1)), some (.inl (u2)), some (.inl (u3)), some (.inl (u4)), some (.inl (u5)), y6] [.inl (t0)] τ (w, σ')) : J130_51 u1 u2 u3 u4 u5 t0 τ w σ' := by
  unfold J130_51
  replace h := bx_0 (ei_s (as := [.inl (t0)]) h rfl (Nat.le_of_ble_eq_true rfl) rfl rfl) z161_at rfl
  rcases h with ⟨σ2, r3, f, g, h⟩ | ⟨b, σ2, r3, e⟩
  · skip
    clear g
    have p4 := x161 hsτ r3
    have hsσ2 : HS σ2 := HS_run rfl r3 hsτ
    refine Or.inl ⟨σ2, fw_run W161 rfl r3, p4, ?_⟩
    replace h : EV F f 130 z130 54 [some (rf 11 (0)), some (.inl (u1)), some (.inl (u2)), some (.inl (u3)), some (.inl (u4)), some (.inl (u5)), y6] [] σ2 (w, σ') := h
    replace h := ei_p h rfl rfl rfl rfl
    obtain ⟨f, g, h⟩ := h
    clear g
    replace h : EV F f 130 z130 56 [some (rf 11 (0)), some (.inl (u1)), some (.inl (u2)), some (.inl (u3)), some (.inl (u4)), some (.inl (u5)), y6] [.inl (u5)] σ2 (w, σ') := h
    replace h := ei_p h rfl rfl rfl rfl
    obtain ⟨f, g, h⟩ := h
    clear g
    replace h : EV F f 130 z130 59 [some (rf 11 (0)), some (.inl (u1)), some (.inl (u2)), some (.inl (u3)), some (.inl (u4)), some (.inl (u5)), y6] [.inl (Int32.ofInt (-9998)), .inl (u5)] σ2 (w, σ') := h
    replace h := ei_p h rfl rfl rfl rfl
    obtain ⟨f, g, h⟩ := h
    clear g
    replace h : EV F f 130 z130 62 [some (rf 11 (0)), some (.inl (u1)), some (.inl (u2)), some (.inl (u3)), some (.inl (u4)), some (.inl (u5)), y6] [.inl (Int32.ofInt 9998), .inl (Int32.ofInt (-9998)), .inl (u5)] σ2 (w, σ') := h
    replace h := bk_I (ei_s (as := [.inl (Int32.ofInt 9998), .inl (Int32.ofInt (-9998)), .inl (u5)]) h rfl (Nat.le_of_ble_eq_true rfl) rfl rfl) rfl z163_at (Or.inr rfl)
    obtain ⟨v5, σ6, r7, f, g, h⟩ := h
    clear g
    have er7 := ro_run rfl r7
    rw [er7] at h r7
    have p8 := x163 hsσ2 r7
    refine ⟨v5, p8, ?_⟩
    replace h : EV F f 130 z130 65 [some (rf 11 (0)), some (.inl (u1)), some (.inl (u2)), some (.inl (u3)), some (.inl (u4)), some (.inl (u5)), y6] [.inl (v5)] σ2 (w, σ') := h
    replace h := bx_0 (ei_s (as := [.inl (v5)]) h rfl (Nat.le_of_ble_eq_true rfl) rfl rfl) z161_at rfl
    rcases h with ⟨σ10, r11, f, g, h⟩ | ⟨b, σ10, r11, e⟩
    · skip
      clear g
      have p12 := x161 hsσ2 r11
      have hsσ10 : HS σ10 := HS_run rfl r11 hsσ2
      refine Or.inl ⟨σ10, fw_run W161 rfl r11, p12, ?_⟩
      replace h : EV F f 130 z130 68 [some (rf 11 (0)), some (.inl (u1)), some (.inl (u2)), some (.inl (u3)), some (.inl (u4)), some (.inl (u5)), y6] [] σ10 (w, σ') := h
      replace h := ei_p h rfl rfl rfl rfl
      obtain ⟨f, g, h⟩ := h
      clear g
      replace h : EV F f 130 z130 69 [some (rf 11 (0)), some (.inl (u1)), some (.inl (u2)), some (.inl (u3)), some (.inl (u4)), some (.inl (u5)), y6] [rf 11 (0)] σ10 (w, σ') := h
      replace h := ei_get h rfl (HS_g11_0 hsσ10)
      obtain ⟨f, g, h⟩ := h
      clear g
      replace h : EV F f 130 z130 72 [some (rf 11 (0)), some (.inl (u1)), some (.inl (u2)), some (.inl (u3)), some (.inl (u4)), some (.inl (u5)), y6] [rf 4 (0)] σ10 (w, σ') := h
      replace h := ei_get h rfl (HS_g4_1 hsσ10)
      obtain ⟨f, g, h⟩ := h
      clear g
      replace h : EV F f 130 z130 75 [some (rf 11 (0)), some (.inl (u1)), some (.inl (u2)), some (.inl (u3)), some (.inl (u4)), some (.inl (u5)), y6] [rf 2 (0)] σ10 (w, σ') := h
      replace h := ei_p h rfl rfl rfl rfl
      obtain ⟨f, g, h⟩ := h
      clear g
      replace h : EV F f 130 z130 76 [some (rf 11 (0)), some (.inl (u1)), some (.inl (u2)), some (.inl (u3)), some (.inl (u4)), some (.inl (u5)), y6] [.inl (u1), rf 2 (0)] σ10 (w, σ') := h
      replace h := bk_I (ei_v (as := [.inl (u1)]) h rfl rfl rfl) rfl z26_at (Or.inr rfl)
      obtain ⟨v13, σ14, r15, f, g, h⟩ := h
      clear g
      have er15 := ro_run rfl r15
      rw [er15] at h r15
      have p16 := x26 hsσ10 r15
      refine ⟨v13, p16, ?_⟩
      replace h : EV F f 130 z130 79 [some (rf 11 (0)), some (.inl (u1)), some (.inl (u2)), some (.inl (u3)), some (.inl (u4)), some (.inl (u5)), y6] [.inl (v13)] σ10 (w, σ') := h
      replace h := ei_c h rfl rfl rfl
      rcases h with ⟨hp17, f, g, h⟩ | ⟨hp17, f, g, h⟩
      · skip
        replace hp17 : (v13).toInt ≠ (0 : Int) := ic_ne.mp hp17
        refine Or.inl ⟨hp17, ?_⟩
        clear g
        replace h : EV F f 130 z130 86 [some (rf 11 (0)), some (.inl (u1)), some (.inl (u2)), some (.inl (u3)), some (.inl (u4)), some (.inl (u5)), y6] [] σ10 (w, σ') := h
        replace h := ei_p h rfl rfl rfl rfl
        obtain ⟨f, g, h⟩ := h
        clear g
        replace h : EV F f 130 z130 87 [some (rf 11 (0)), some (.inl (u1)), some (.inl (u2)), some (.inl (u3)), some (.inl (u4)), some (.inl (u5)), y6] [.inl (Int32.ofInt 0)] σ10 (w, σ') := h
        exact j130_87 hsσ10 h
      · skip
        replace hp17 : ¬ ((v13).toInt ≠ (0 : Int)) := (not_congr ic_ne).mp hp17
        refine Or.inr ⟨hp17, ?_⟩
        clear g
        replace h : EV F f 130 z130 82 [some (rf 11 (0)), some (.inl (u1)), some (.inl (u2)), some (.inl (u3)), some (.inl (u4)), some (.inl (u5)), y6] [] σ10 (w, σ') := h
        replace h := ei_p h rfl rfl rfl rfl
        obtain ⟨f, g, h⟩ := h
        clear g
        replace h : EV F f 130 z130 83 [some (rf 11 (0)), some (.inl (u1)), some (.inl (u2)), some (.inl (u3)), some (.inl (u4)), some (.inl (u5)), y6] [.inl (Int32.ofInt 1)] σ10 (w, σ') := h
        replace h := ei_p h rfl rfl rfl rfl
        obtain ⟨f, g, h⟩ := h
        clear g
        replace h : EV F f 130 z130 87 [some (rf 11 (0)), some (.inl (u1)), some (.inl (u2)), some (.inl (u3)), some (.inl (u4)), some (.inl (u5)), y6] [.inl (Int32.ofInt 1)] σ10 (w, σ') := h
        exact j130_87 hsσ10 h
    · skip
      have p12 := x161 hsσ2 r11
      cases e
      exact Or.inr ⟨b, p12, rfl⟩
  · skip
    have p4 := x161 hsτ r3
    cases e
    exact Or.inr ⟨b, p4, rfl⟩
def J130_50 (u1 : Int32) (u2 : Int32) (u3 : Int32) (u4 : Int32) (u5 : Int32) (τ : mS) (w : mX) (σ' : mS) : Prop := J130_51 (u1) (u2) (u3) (u4) (u5) (Int32.ofInt 0) τ w σ'
theorem j130_50 {F f : Nat} {σ' τ : mS} {u1 : Int32} {u2 : Int32} {u3 : Int32} {u4 : Int32} {u5 : Int32} {y6 : Option mV} {w : mX} (hsτ : HS τ) (h : EV F f 130 z130 50 [some (rf 11 (0)), some (.inl (u1)), some (.inl (u2)), some (.inl (u3)), some (.inl (u4)), some (.inl (u5)), y6] [] τ (w, σ')) : J130_50 u1 u2 u3 u4 u5 τ w σ' := by
  unfold J130_50
  replace h := ei_p h rfl rfl rfl rfl
  obtain ⟨f, g, h⟩ := h
  clear g
  replace h : EV F f 130 z130 51 [some (rf 11 (0)), some (.inl (u1)), some (.inl (u2)), some (.inl (u3)), some (.inl (u4)), some (.inl (u5)), y6] [.inl (Int32.ofInt 0)] τ (w, σ') := h
  exact j130_51 hsτ h
def J130_26 (u1 : Int32) (u2 : Int32) (u3 : Int32) (u4 : Int32) (u5 : Int32) (t0 : Int32) (τ : mS) (w : mX) (σ' : mS) : Prop := ((∃ σ2, fw_e w160 τ σ2 ∧ P160 τ (t0) (.inl none) σ2 ∧ (((u2).toInt = (u3).toInt ∧ J130_50 (u1) (u2) (u3) (u4) (u5) σ2 w σ') ∨ (¬ ((u2).toInt = (u3).toInt) ∧ ∃ v6, P163 σ2 (u4) (Int32.ofInt 1) (Int32.ofInt 1000) v6 ∧ (((v6).toInt = (0 : Int) ∧ J130_50 (u1) (u2) (u3) (u4) (u5) σ2 w σ') ∨ (¬ ((v6).toInt = (0 : Int)) ∧ J130_51 (u1) (u2) (u3) (u4) (u5) (Int32.ofInt 1) σ2 w σ'))))) ∨ (∃ b, P160 τ (t0) (.inr b) σ' ∧ w = .inr b))
theorem j130_26 {F f : Nat} {σ' τ : mS} {u1 : Int32} {u2 : Int32} {u3 : Int32} {u4 : Int32} {u5 : Int32} {t0 : Int32} {y6 : Option mV} {w : mX} (hsτ : HS τ) (h : EV F f 130 z130 26 [some (rf 11 (0)), some (.inl (u1)), some (.inl (u2)), some (.inl (u3)), some (.inl (u4)), some (.inl (u5)), y6] [.inl (t0)] τ (w, σ')) : J130_26 u1 u2 u3 u4 u5 t0 τ w σ' := by
  unfold J130_26
  replace h := bx_0 (ei_s (as := [.inl (t0)]) h rfl (Nat.le_of_ble_eq_true rfl) rfl rfl) z160_at rfl
  rcases h with ⟨σ2, r3, f, g, h⟩ | ⟨b, σ2, r3, e⟩
  · skip
    clear g
    have p4 := x160 hsτ r3
    have hsσ2 : HS σ2 := HS_run rfl r3 hsτ
    refine Or.inl ⟨σ2, fw_run W160 rfl r3, p4, ?_⟩
    replace h : EV F f 130 z130 29 [some (rf 11 (0)), some (.inl (u1)), some (.inl (u2)), some (.inl (u3)), some (.inl (u4)), some (.inl (u5)), y6] [] σ2 (w, σ') := h
    replace h := ei_p h rfl rfl rfl rfl
    obtain ⟨f, g, h⟩ := h
    clear g
    replace h : EV F f 130 z130 30 [some (rf 11 (0)), some (.inl (u1)), some (.inl (u2)), some (.inl (u3)), some (.inl (u4)), some (.inl (u5)), y6] [.inl (u2)] σ2 (w, σ') := h
    replace h := ei_p h rfl rfl rfl rfl
    obtain ⟨f, g, h⟩ := h
    clear g
    replace h : EV F f 130 z130 31 [some (rf 11 (0)), some (.inl (u1)), some (.inl (u2)), some (.inl (u3)), some (.inl (u4)), some (.inl (u5)), y6] [.inl (u3), .inl (u2)] σ2 (w, σ') := h
    replace h := ei_c h rfl rfl rfl
    rcases h with ⟨hp5, f, g, h⟩ | ⟨hp5, f, g, h⟩
    · skip
      replace hp5 : (u2).toInt = (u3).toInt := ic_eq.mp hp5
      refine Or.inl ⟨hp5, ?_⟩
      clear g
      replace h : EV F f 130 z130 50 [some (rf 11 (0)), some (.inl (u1)), some (.inl (u2)), some (.inl (u3)), some (.inl (u4)), some (.inl (u5)), y6] [] σ2 (w, σ') := h
      exact j130_50 hsσ2 h
    · skip
      replace hp5 : ¬ ((u2).toInt = (u3).toInt) := (not_congr ic_eq).mp hp5
      refine Or.inr ⟨hp5, ?_⟩
      clear g
      replace h : EV F f 130 z130 34 [some (rf 11 (0)), some (.inl (u1)), some (.inl (u2)), some (.inl (u3)), some (.inl (u4)), some (.inl (u5)), y6] [] σ2 (w, σ') := h
      replace h := ei_p h rfl rfl rfl rfl
      obtain ⟨f, g, h⟩ := h
      clear g
      replace h : EV F f 130 z130 36 [some (rf 11 (0)), some (.inl (u1)), some (.inl (u2)), some (.inl (u3)), some (.inl (u4)), some (.inl (u5)), y6] [.inl (u4)] σ2 (w, σ') := h
      replace h := ei_p h rfl rfl rfl rfl
      obtain ⟨f, g, h⟩ := h
      clear g
      replace h : EV F f 130 z130 37 [some (rf 11 (0)), some (.inl (u1)), some (.inl (u2)), some (.inl (u3)), some (.inl (u4)), some (.inl (u5)), y6] [.inl (Int32.ofInt 1), .inl (u4)] σ2 (w, σ') := h
      replace h := ei_p h rfl rfl rfl rfl
      obtain ⟨f, g, h⟩ := h
      clear g
      replace h : EV F f 130 z130 40 [some (rf 11 (0)), some (.inl (u1)), some (.inl (u2)), some (.inl (u3)), some (.inl (u4)), some (.inl (u5)), y6] [.inl (Int32.ofInt 1000), .inl (Int32.ofInt 1), .inl (u4)] σ2 (w, σ') := h
      replace h := bk_I (ei_s (as := [.inl (Int32.ofInt 1000), .inl (Int32.ofInt 1), .inl (u4)]) h rfl (Nat.le_of_ble_eq_true rfl) rfl rfl) rfl z163_at (Or.inr rfl)
      obtain ⟨v6, σ7, r8, f, g, h⟩ := h
      clear g
      have er8 := ro_run rfl r8
      rw [er8] at h r8
      have p9 := x163 hsσ2 r8
      refine ⟨v6, p9, ?_⟩
      replace h : EV F f 130 z130 43 [some (rf 11 (0)), some (.inl (u1)), some (.inl (u2)), some (.inl (u3)), some (.inl (u4)), some (.inl (u5)), y6] [.inl (v6)] σ2 (w, σ') := h
      replace h := ei_c h rfl rfl rfl
      rcases h with ⟨hp10, f, g, h⟩ | ⟨hp10, f, g, h⟩
      · skip
        replace hp10 : (v6).toInt = (0 : Int) := ic_eq.mp hp10
        refine Or.inl ⟨hp10, ?_⟩
        clear g
        replace h : EV F f 130 z130 50 [some (rf 11 (0)), some (.inl (u1)), some (.inl (u2)), some (.inl (u3)), some (.inl (u4)), some (.inl (u5)), y6] [] σ2 (w, σ') := h
        exact j130_50 hsσ2 h
      · skip
        replace hp10 : ¬ ((v6).toInt = (0 : Int)) := (not_congr ic_eq).mp hp10
        refine Or.inr ⟨hp10, ?_⟩
        clear g
        replace h : EV F f 130 z130 46 [some (rf 11 (0)), some (.inl (u1)), some (.inl (u2)), some (.inl (u3)), some (.inl (u4)), some (.inl (u5)), y6] [] σ2 (w, σ') := h
        replace h := ei_p h rfl rfl rfl rfl
        obtain ⟨f, g, h⟩ := h
        clear g
        replace h : EV F f 130 z130 47 [some (rf 11 (0)), some (.inl (u1)), some (.inl (u2)), some (.inl (u3)), some (.inl (u4)), some (.inl (u5)), y6] [.inl (Int32.ofInt 1)] σ2 (w, σ') := h
        replace h := ei_p h rfl rfl rfl rfl
        obtain ⟨f, g, h⟩ := h
        clear g
        replace h : EV F f 130 z130 51 [some (rf 11 (0)), some (.inl (u1)), some (.inl (u2)), some (.inl (u3)), some (.inl (u4)), some (.inl (u5)), y6] [.inl (Int32.ofInt 1)] σ2 (w, σ') := h
        exact j130_51 hsσ2 h
  · skip
    have p4 := x160 hsτ r3
    cases e
    exact Or.inr ⟨b, p4, rfl⟩
def J130_25 (u1 : Int32) (u2 : Int32) (u3 : Int32) (u4 : Int32) (u5 : Int32) (τ : mS) (w : mX) (σ' : mS) : Prop := J130_26 (u1) (u2) (u3) (u4) (u5) (Int32.ofInt 0) τ w σ'
theorem j130_25 {F f : Nat} {σ' τ : mS} {u1 : Int32} {u2 : Int32} {u3 : Int32} {u4 : Int32} {u5 : Int32} {y6 : Option mV} {w : mX} (hsτ : HS τ) (h : EV F f 130 z130 25 [some (rf 11 (0)), some (.inl (u1)), some (.inl (u2)), some (.inl (u3)), some (.inl (u4)), some (.inl (u5)), y6] [] τ (w, σ')) : J130_25 u1 u2 u3 u4 u5 τ w σ' := by
  unfold J130_25
  replace h := ei_p h rfl rfl rfl rfl
  obtain ⟨f, g, h⟩ := h
  clear g
  replace h : EV F f 130 z130 26 [some (rf 11 (0)), some (.inl (u1)), some (.inl (u2)), some (.inl (u3)), some (.inl (u4)), some (.inl (u5)), y6] [.inl (Int32.ofInt 0)] τ (w, σ') := h
  exact j130_26 hsτ h
def P130 (σ : mS) (x1 : Int32) (x2 : Int32) (x3 : Int32) (x4 : Int32) (x5 : Int32) (w : mX) (σ' : mS) : Prop := ∃ v1, P164 σ (x1) v1 ∧ (((v1).toInt = (0 : Int) ∧ J130_25 (x1) (x2) (x3) (x4) (x5) σ w σ') ∨ (¬ ((v1).toInt = (0 : Int)) ∧ ∃ v6, P166 σ (x2) v6 ∧ (((v6).toInt = (0 : Int) ∧ J130_25 (x1) (x2) (x3) (x4) (x5) σ w σ') ∨ (¬ ((v6).toInt = (0 : Int)) ∧ ∃ v11, P166 σ (x3) v11 ∧ (((v11).toInt = (0 : Int) ∧ J130_25 (x1) (x2) (x3) (x4) (x5) σ w σ') ∨ (¬ ((v11).toInt = (0 : Int)) ∧ J130_26 (x1) (x2) (x3) (x4) (x5) (Int32.ofInt 1) σ w σ'))))))
theorem x130 {σ σ' : mS} {x1 : Int32} {x2 : Int32} {x3 : Int32} {x4 : Int32} {x5 : Int32} {w : mX} (hs : HS σ) (h : ev_run sm_all 130 [rf 11 (0), .inl (x1), .inl (x2), .inl (x3), .inl (x4), .inl (x5)] σ (w) σ') : P130 σ x1 x2 x3 x4 x5 w σ' := by
  unfold P130
  obtain ⟨F, f, h⟩ := ei_go h z130_at
  replace h : EV F f 130 z130 0 [some (rf 11 (0)), some (.inl (x1)), some (.inl (x2)), some (.inl (x3)), some (.inl (x4)), some (.inl (x5)), none] [] σ (w, σ') := h
  replace h := ei_p h rfl rfl rfl rfl
  obtain ⟨f, g, h⟩ := h
  clear g
  replace h : EV F f 130 z130 1 [some (rf 11 (0)), some (.inl (x1)), some (.inl (x2)), some (.inl (x3)), some (.inl (x4)), some (.inl (x5)), none] [.inl (x1)] σ (w, σ') := h
  replace h := bk_I (ei_s (as := [.inl (x1)]) h rfl (Nat.le_of_ble_eq_true rfl) rfl rfl) rfl z164_at (Or.inr rfl)
  obtain ⟨v1, σ2, r3, f, g, h⟩ := h
  clear g
  have er3 := ro_run rfl r3
  rw [er3] at h r3
  have p4 := x164 hs r3
  refine ⟨v1, p4, ?_⟩
  replace h : EV F f 130 z130 4 [some (rf 11 (0)), some (.inl (x1)), some (.inl (x2)), some (.inl (x3)), some (.inl (x4)), some (.inl (x5)), none] [.inl (v1)] σ (w, σ') := h
  replace h := ei_c h rfl rfl rfl
  rcases h with ⟨hp5, f, g, h⟩ | ⟨hp5, f, g, h⟩
  · skip
    replace hp5 : (v1).toInt = (0 : Int) := ic_eq.mp hp5
    refine Or.inl ⟨hp5, ?_⟩
    clear g
    replace h : EV F f 130 z130 25 [some (rf 11 (0)), some (.inl (x1)), some (.inl (x2)), some (.inl (x3)), some (.inl (x4)), some (.inl (x5)), none] [] σ (w, σ') := h
    exact j130_25 hs h
  · skip
    replace hp5 : ¬ ((v1).toInt = (0 : Int)) := (not_congr ic_eq).mp hp5
    refine Or.inr ⟨hp5, ?_⟩
    clear g
    replace h : EV F f 130 z130 7 [some (rf 11 (0)), some (.inl (x1)), some (.inl (x2)), some (.inl (x3)), some (.inl (x4)), some (.inl (x5)), none] [] σ (w, σ') := h
    replace h := ei_p h rfl rfl rfl rfl
    obtain ⟨f, g, h⟩ := h
    clear g
    replace h : EV F f 130 z130 8 [some (rf 11 (0)), some (.inl (x1)), some (.inl (x2)), some (.inl (x3)), some (.inl (x4)), some (.inl (x5)), none] [.inl (x2)] σ (w, σ') := h
    replace h := bk_I (ei_s (as := [.inl (x2)]) h rfl (Nat.le_of_ble_eq_true rfl) rfl rfl) rfl z166_at (Or.inr rfl)
    obtain ⟨v6, σ7, r8, f, g, h⟩ := h
    clear g
    have er8 := ro_run rfl r8
    rw [er8] at h r8
    have p9 := x166 hs r8
    refine ⟨v6, p9, ?_⟩
    replace h : EV F f 130 z130 11 [some (rf 11 (0)), some (.inl (x1)), some (.inl (x2)), some (.inl (x3)), some (.inl (x4)), some (.inl (x5)), none] [.inl (v6)] σ (w, σ') := h
    replace h := ei_c h rfl rfl rfl
    rcases h with ⟨hp10, f, g, h⟩ | ⟨hp10, f, g, h⟩
    · skip
      replace hp10 : (v6).toInt = (0 : Int) := ic_eq.mp hp10
      refine Or.inl ⟨hp10, ?_⟩
      clear g
      replace h : EV F f 130 z130 25 [some (rf 11 (0)), some (.inl (x1)), some (.inl (x2)), some (.inl (x3)), some (.inl (x4)), some (.inl (x5)), none] [] σ (w, σ') := h
      exact j130_25 hs h
    · skip
      replace hp10 : ¬ ((v6).toInt = (0 : Int)) := (not_congr ic_eq).mp hp10
      refine Or.inr ⟨hp10, ?_⟩
      clear g
      replace h : EV F f 130 z130 14 [some (rf 11 (0)), some (.inl (x1)), some (.inl (x2)), some (.inl (x3)), some (.inl (x4)), some (.inl (x5)), none] [] σ (w, σ') := h
      replace h := ei_p h rfl rfl rfl rfl
      obtain ⟨f, g, h⟩ := h
      clear g
      replace h : EV F f 130 z130 15 [some (rf 11 (0)), some (.inl (x1)), some (.inl (x2)), some (.inl (x3)), some (.inl (x4)), some (.inl (x5)), none] [.inl (x3)] σ (w, σ') := h
      replace h := bk_I (ei_s (as := [.inl (x3)]) h rfl (Nat.le_of_ble_eq_true rfl) rfl rfl) rfl z166_at (Or.inr rfl)
      obtain ⟨v11, σ12, r13, f, g, h⟩ := h
      clear g
      have er13 := ro_run rfl r13
      rw [er13] at h r13
      have p14 := x166 hs r13
      refine ⟨v11, p14, ?_⟩
      replace h : EV F f 130 z130 18 [some (rf 11 (0)), some (.inl (x1)), some (.inl (x2)), some (.inl (x3)), some (.inl (x4)), some (.inl (x5)), none] [.inl (v11)] σ (w, σ') := h
      replace h := ei_c h rfl rfl rfl
      rcases h with ⟨hp15, f, g, h⟩ | ⟨hp15, f, g, h⟩
      · skip
        replace hp15 : (v11).toInt = (0 : Int) := ic_eq.mp hp15
        refine Or.inl ⟨hp15, ?_⟩
        clear g
        replace h : EV F f 130 z130 25 [some (rf 11 (0)), some (.inl (x1)), some (.inl (x2)), some (.inl (x3)), some (.inl (x4)), some (.inl (x5)), none] [] σ (w, σ') := h
        exact j130_25 hs h
      · skip
        replace hp15 : ¬ ((v11).toInt = (0 : Int)) := (not_congr ic_eq).mp hp15
        refine Or.inr ⟨hp15, ?_⟩
        clear g
        replace h : EV F f 130 z130 21 [some (rf 11 (0)), some (.inl (x1)), some (.inl (x2)), some (.inl (x3)), some (.inl (x4)), some (.inl (x5)), none] [] σ (w, σ') := h
        replace h := ei_p h rfl rfl rfl rfl
        obtain ⟨f, g, h⟩ := h
        clear g
        replace h : EV F f 130 z130 22 [some (rf 11 (0)), some (.inl (x1)), some (.inl (x2)), some (.inl (x3)), some (.inl (x4)), some (.inl (x5)), none] [.inl (Int32.ofInt 1)] σ (w, σ') := h
        replace h := ei_p h rfl rfl rfl rfl
        obtain ⟨f, g, h⟩ := h
        clear g
        replace h : EV F f 130 z130 26 [some (rf 11 (0)), some (.inl (x1)), some (.inl (x2)), some (.inl (x3)), some (.inl (x4)), some (.inl (x5)), none] [.inl (Int32.ofInt 1)] σ (w, σ') := h
        exact j130_26 hs h
