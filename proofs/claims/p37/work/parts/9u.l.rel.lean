/-! the class's methods as relations: 146 scenario, 147 margin, 148 worth, 149 member, 150 tick, 151 sell, 152 settle, 153 read, 154 lose, 155 copy, 156 wrong -/
def z146 : mAl := ((yX11_scenario, cX11_scenario, 5, (some .int), { frames := 7, cells := 3, slots := 21, locals := 190 }, []), rw_X11_scenario, false)
theorem z146_at : m_alF[146]? = some z146 := rfl
abbrev L146 : List (Nat × Nat) := [(0, 1), (0, 2), (1, 0), (1, 1), (1, 2), (1, 3), (1, 4), (1, 5), (1, 6), (1, 7), (1, 8), (1, 9), (1, 10), (1, 11), (1, 12), (1, 13), (1, 14), (1, 15), (2, 5), (2, 6), (2, 7), (2, 8), (2, 9), (2, 10), (3, 3), (3, 4), (3, 5), (5, 2), (6, 2), (6, 3), (6, 4), (6, 5), (6, 6), (6, 7), (6, 8), (6, 9), (6, 10), (7, 1), (7, 2), (7, 3), (7, 4), (7, 5), (7, 6), (7, 7), (7, 8), (7, 9), (7, 10), (7, 11), (7, 12), (8, 1), (8, 2), (8, 3), (8, 4), (8, 5), (8, 6), (8, 7), (8, 8), (10, 0), (10, 1), (10, 2), (10, 3), (10, 4), (10, 5), (10, 6), (10, 7), (10, 8), (10, 9), (11, 3), (11, 4), (11, 5), (13, 0), (14, 0)]
abbrev w146 : Nat → Nat → Bool := wl L146
def S146 : List Nat := [3, 4, 5, 6, 8, 9, 10, 11, 12, 13, 14, 15, 16, 18, 22, 23, 24, 25, 27, 28, 29, 30, 31, 32, 34, 35, 36, 37, 38, 39, 40, 41, 42, 43, 44, 45, 46, 47, 48, 51, 53, 54, 61, 62, 63, 64, 65, 66, 67, 68, 69, 70, 71, 72, 73, 74, 75, 76, 78, 79, 80, 81, 82, 83, 85, 86, 90, 91, 92, 95, 99, 100, 102, 103, 104, 105, 106, 107, 112, 113, 114, 115, 116, 117, 146, 158, 159, 161, 162, 163, 169, 190]
theorem W146 : fw_S w146 S146 = true := by decide +kernel
def J146_48 (u1 : Int32) (u2 : Int32) (u3 : Int32) (t0 : Int32) (τ : mS) (w : mX) (σ' : mS) : Prop := ((∃ σ2, fw_e w162 τ σ2 ∧ P162 τ (t0) (.inl none) σ2 ∧ ∃ σ5, σ5 = m_nu σ2 1 0 ∧ ∃ σ8, fw_e w18 σ5 σ8 ∧ P18 σ5 (σ2.1 1) (Int32.ofInt 13) (u1) (u2) (u3) σ8 ∧ ∃ v11 σ12, fw_e w61 σ8 σ12 ∧ P61 σ8 (some (1, σ2.1 1)) v11 σ12 ∧ ∃ v15 σ16, fw_e w158 σ12 σ16 ∧ P158 σ12 (some (1, σ2.1 1)) (v11) v15 σ16 ∧ w = .inl (some (.inl ((v15).toInt32))) ∧ σ' = σ16) ∨ (∃ b, P162 τ (t0) (.inr b) σ' ∧ w = .inr b))
theorem j146_48 {F f : Nat} {σ' τ : mS} {u1 : Int32} {u2 : Int32} {u3 : Int32} {t0 : Int32} {y4 : Option mV} {w : mX} (hsτ : HS τ) (h : EV F f 146 z146 48 [some (rf 11 (0)), some (.inl (u1)), some (.inl (u2)), some (.inl (u3)), y4] [.inl (t0)] τ (w, σ')) : J146_48 u1 u2 u3 t0 τ w σ' := by
  unfold J146_48
  replace h := bx_0 (ei_s (as := [.inl (t0)]) h rfl (Nat.le_of_ble_eq_true rfl) rfl rfl) z162_at rfl
  rcases h with ⟨σ2, r3, f, g, h⟩ | ⟨b, σ2, r3, e⟩
  · skip
    clear g
    have p4 := x162 hsτ r3
    have hsσ2 : HS σ2 := HS_run rfl r3 hsτ
    refine Or.inl ⟨σ2, fw_run W162 rfl r3, p4, ?_⟩
    replace h : EV F f 146 z146 51 [some (rf 11 (0)), some (.inl (u1)), some (.inl (u2)), some (.inl (u3)), y4] [] σ2 (w, σ') := h
    replace h := ei_new h rfl (by decide)
    obtain ⟨f, g, h⟩ := h
    clear g
    obtain ⟨σ5, e6⟩ : ∃ s, s = m_nu σ2 1 0 := ⟨_, rfl⟩
    rw [← e6] at h
    have hsσ5 : HS σ5 := by rw [e6]; exact HS_nu hsσ2 (by decide)
    refine ⟨σ5, e6, ?_⟩
    replace h : EV F f 146 z146 54 [some (rf 11 (0)), some (.inl (u1)), some (.inl (u2)), some (.inl (u3)), y4] [rf 1 (σ2.1 1)] σ5 (w, σ') := h
    replace h := ei_p h rfl rfl rfl rfl
    obtain ⟨f, g, h⟩ := h
    clear g
    replace h : EV F f 146 z146 55 [some (rf 11 (0)), some (.inl (u1)), some (.inl (u2)), some (.inl (u3)), y4] [rf 1 (σ2.1 1), rf 1 (σ2.1 1)] σ5 (w, σ') := h
    replace h := ei_p h rfl rfl rfl rfl
    obtain ⟨f, g, h⟩ := h
    clear g
    replace h : EV F f 146 z146 57 [some (rf 11 (0)), some (.inl (u1)), some (.inl (u2)), some (.inl (u3)), y4] [.inl (Int32.ofInt 13), rf 1 (σ2.1 1), rf 1 (σ2.1 1)] σ5 (w, σ') := h
    replace h := ei_p h rfl rfl rfl rfl
    obtain ⟨f, g, h⟩ := h
    clear g
    replace h : EV F f 146 z146 58 [some (rf 11 (0)), some (.inl (u1)), some (.inl (u2)), some (.inl (u3)), y4] [.inl (u1), .inl (Int32.ofInt 13), rf 1 (σ2.1 1), rf 1 (σ2.1 1)] σ5 (w, σ') := h
    replace h := ei_p h rfl rfl rfl rfl
    obtain ⟨f, g, h⟩ := h
    clear g
    replace h : EV F f 146 z146 59 [some (rf 11 (0)), some (.inl (u1)), some (.inl (u2)), some (.inl (u3)), y4] [.inl (u2), .inl (u1), .inl (Int32.ofInt 13), rf 1 (σ2.1 1), rf 1 (σ2.1 1)] σ5 (w, σ') := h
    replace h := ei_p h rfl rfl rfl rfl
    obtain ⟨f, g, h⟩ := h
    clear g
    replace h : EV F f 146 z146 60 [some (rf 11 (0)), some (.inl (u1)), some (.inl (u2)), some (.inl (u3)), y4] [.inl (u3), .inl (u2), .inl (u1), .inl (Int32.ofInt 13), rf 1 (σ2.1 1), rf 1 (σ2.1 1)] σ5 (w, σ') := h
    replace h := bk_0 (ei_x (as := [.inl (u3), .inl (u2), .inl (u1), .inl (Int32.ofInt 13)]) h rfl rfl rfl) rfl z18_at rfl
    obtain ⟨σ8, r9, f, g, h⟩ := h
    clear g
    have p10 := x18 hsσ5 r9
    have hsσ8 : HS σ8 := HS_run rfl r9 hsσ5
    refine ⟨σ8, fw_run W18 rfl r9, p10, ?_⟩
    replace h : EV F f 146 z146 63 [some (rf 11 (0)), some (.inl (u1)), some (.inl (u2)), some (.inl (u3)), y4] [rf 1 (σ2.1 1)] σ8 (w, σ') := h
    replace h := ei_p h rfl rfl rfl rfl
    obtain ⟨f, g, h⟩ := h
    clear g
    replace h : EV F f 146 z146 65 [some (rf 11 (0)), some (.inl (u1)), some (.inl (u2)), some (.inl (u3)), some (rf 1 (σ2.1 1))] [] σ8 (w, σ') := h
    replace h := ei_p h rfl rfl rfl rfl
    obtain ⟨f, g, h⟩ := h
    clear g
    replace h : EV F f 146 z146 66 [some (rf 11 (0)), some (.inl (u1)), some (.inl (u2)), some (.inl (u3)), some (rf 1 (σ2.1 1))] [rf 11 (0)] σ8 (w, σ') := h
    replace h := ei_p h rfl rfl rfl rfl
    obtain ⟨f, g, h⟩ := h
    clear g
    replace h : EV F f 146 z146 68 [some (rf 11 (0)), some (.inl (u1)), some (.inl (u2)), some (.inl (u3)), some (rf 1 (σ2.1 1))] [rf 1 (σ2.1 1), rf 11 (0)] σ8 (w, σ') := h
    replace h := ei_p h rfl rfl rfl rfl
    obtain ⟨f, g, h⟩ := h
    clear g
    replace h : EV F f 146 z146 69 [some (rf 11 (0)), some (.inl (u1)), some (.inl (u2)), some (.inl (u3)), some (rf 1 (σ2.1 1))] [rf 11 (0), rf 1 (σ2.1 1), rf 11 (0)] σ8 (w, σ') := h
    replace h := ei_get h rfl (HS_g11_0 hsσ8)
    obtain ⟨f, g, h⟩ := h
    clear g
    replace h : EV F f 146 z146 72 [some (rf 11 (0)), some (.inl (u1)), some (.inl (u2)), some (.inl (u3)), some (rf 1 (σ2.1 1))] [rf 4 (0), rf 1 (σ2.1 1), rf 11 (0)] σ8 (w, σ') := h
    replace h := ei_p h rfl rfl rfl rfl
    obtain ⟨f, g, h⟩ := h
    clear g
    replace h : EV F f 146 z146 74 [some (rf 11 (0)), some (.inl (u1)), some (.inl (u2)), some (.inl (u3)), some (rf 1 (σ2.1 1))] [rf 1 (σ2.1 1), rf 4 (0), rf 1 (σ2.1 1), rf 11 (0)] σ8 (w, σ') := h
    replace h := bk_L (ei_v (as := [rf 1 (σ2.1 1)]) h rfl rfl rfl) rfl z61_at rfl
    obtain ⟨v11, σ12, r13, f, g, h⟩ := h
    clear g
    have p14 := x61 hsσ8 r13
    have hsσ12 : HS σ12 := HS_run rfl r13 hsσ8
    refine ⟨v11, σ12, fw_run W61 rfl r13, p14, ?_⟩
    replace h : EV F f 146 z146 77 [some (rf 11 (0)), some (.inl (u1)), some (.inl (u2)), some (.inl (u3)), some (rf 1 (σ2.1 1))] [.inr (.inl (v11)), rf 1 (σ2.1 1), rf 11 (0)] σ12 (w, σ') := h
    replace h := bk_L (ei_v (as := [.inr (.inl (v11)), rf 1 (σ2.1 1)]) h rfl rfl rfl) rfl z158_at rfl
    obtain ⟨v15, σ16, r17, f, g, h⟩ := h
    clear g
    have p18 := x158 hsσ12 r17
    have hsσ16 : HS σ16 := HS_run rfl r17 hsσ12
    refine ⟨v15, σ16, fw_run W158 rfl r17, p18, ?_⟩
    replace h : EV F f 146 z146 80 [some (rf 11 (0)), some (.inl (u1)), some (.inl (u2)), some (.inl (u3)), some (rf 1 (σ2.1 1))] [.inr (.inl (v15))] σ16 (w, σ') := h
    replace h := ei_p h rfl rfl rfl rfl
    obtain ⟨f, g, h⟩ := h
    clear g
    replace h : EV F f 146 z146 81 [some (rf 11 (0)), some (.inl (u1)), some (.inl (u2)), some (.inl (u3)), some (rf 1 (σ2.1 1))] [.inl ((v15).toInt32)] σ16 (w, σ') := h
    have e := ei_iret h rfl
    cases e
    exact ⟨rfl, rfl⟩
  · skip
    have p4 := x162 hsτ r3
    cases e
    exact Or.inr ⟨b, p4, rfl⟩
def J146_26 (u1 : Int32) (u2 : Int32) (u3 : Int32) (t0 : Int32) (τ : mS) (w : mX) (σ' : mS) : Prop := ((∃ σ2, fw_e w161 τ σ2 ∧ P161 τ (t0) (.inl none) σ2 ∧ (((4 : Int) ≤ (m_i σ2 2 (0) 6).toInt ∧ J146_48 (u1) (u2) (u3) (Int32.ofInt 0) σ2 w σ') ∨ (¬ ((4 : Int) ≤ (m_i σ2 2 (0) 6).toInt) ∧ J146_48 (u1) (u2) (u3) (Int32.ofInt 1) σ2 w σ'))) ∨ (∃ b, P161 τ (t0) (.inr b) σ' ∧ w = .inr b))
theorem j146_26 {F f : Nat} {σ' τ : mS} {u1 : Int32} {u2 : Int32} {u3 : Int32} {t0 : Int32} {y4 : Option mV} {w : mX} (hsτ : HS τ) (h : EV F f 146 z146 26 [some (rf 11 (0)), some (.inl (u1)), some (.inl (u2)), some (.inl (u3)), y4] [.inl (t0)] τ (w, σ')) : J146_26 u1 u2 u3 t0 τ w σ' := by
  unfold J146_26
  replace h := bx_0 (ei_s (as := [.inl (t0)]) h rfl (Nat.le_of_ble_eq_true rfl) rfl rfl) z161_at rfl
  rcases h with ⟨σ2, r3, f, g, h⟩ | ⟨b, σ2, r3, e⟩
  · skip
    clear g
    have p4 := x161 hsτ r3
    have hsσ2 : HS σ2 := HS_run rfl r3 hsτ
    refine Or.inl ⟨σ2, fw_run W161 rfl r3, p4, ?_⟩
    replace h : EV F f 146 z146 29 [some (rf 11 (0)), some (.inl (u1)), some (.inl (u2)), some (.inl (u3)), y4] [] σ2 (w, σ') := h
    replace h := ei_p h rfl rfl rfl rfl
    obtain ⟨f, g, h⟩ := h
    clear g
    replace h : EV F f 146 z146 30 [some (rf 11 (0)), some (.inl (u1)), some (.inl (u2)), some (.inl (u3)), y4] [rf 11 (0)] σ2 (w, σ') := h
    replace h := ei_get h rfl (HS_g11_0 hsσ2)
    obtain ⟨f, g, h⟩ := h
    clear g
    replace h : EV F f 146 z146 33 [some (rf 11 (0)), some (.inl (u1)), some (.inl (u2)), some (.inl (u3)), y4] [rf 4 (0)] σ2 (w, σ') := h
    replace h := ei_get h rfl (HS_g4_1 hsσ2)
    obtain ⟨f, g, h⟩ := h
    clear g
    replace h : EV F f 146 z146 36 [some (rf 11 (0)), some (.inl (u1)), some (.inl (u2)), some (.inl (u3)), y4] [rf 2 (0)] σ2 (w, σ') := h
    replace h := ei_get h rfl rfl
    obtain ⟨f, g, h⟩ := h
    clear g
    replace h : EV F f 146 z146 39 [some (rf 11 (0)), some (.inl (u1)), some (.inl (u2)), some (.inl (u3)), y4] [.inl (m_i σ2 2 (0) 6)] σ2 (w, σ') := h
    replace h := ei_p h rfl rfl rfl rfl
    obtain ⟨f, g, h⟩ := h
    clear g
    replace h : EV F f 146 z146 40 [some (rf 11 (0)), some (.inl (u1)), some (.inl (u2)), some (.inl (u3)), y4] [.inl (Int32.ofInt 4), .inl (m_i σ2 2 (0) 6)] σ2 (w, σ') := h
    replace h := ei_c h rfl rfl rfl
    rcases h with ⟨hp5, f, g, h⟩ | ⟨hp5, f, g, h⟩
    · skip
      replace hp5 : (4 : Int) ≤ (m_i σ2 2 (0) 6).toInt := ic_ge.mp hp5
      refine Or.inl ⟨hp5, ?_⟩
      clear g
      replace h : EV F f 146 z146 47 [some (rf 11 (0)), some (.inl (u1)), some (.inl (u2)), some (.inl (u3)), y4] [] σ2 (w, σ') := h
      replace h := ei_p h rfl rfl rfl rfl
      obtain ⟨f, g, h⟩ := h
      clear g
      replace h : EV F f 146 z146 48 [some (rf 11 (0)), some (.inl (u1)), some (.inl (u2)), some (.inl (u3)), y4] [.inl (Int32.ofInt 0)] σ2 (w, σ') := h
      exact j146_48 hsσ2 h
    · skip
      replace hp5 : ¬ ((4 : Int) ≤ (m_i σ2 2 (0) 6).toInt) := (not_congr ic_ge).mp hp5
      refine Or.inr ⟨hp5, ?_⟩
      clear g
      replace h : EV F f 146 z146 43 [some (rf 11 (0)), some (.inl (u1)), some (.inl (u2)), some (.inl (u3)), y4] [] σ2 (w, σ') := h
      replace h := ei_p h rfl rfl rfl rfl
      obtain ⟨f, g, h⟩ := h
      clear g
      replace h : EV F f 146 z146 44 [some (rf 11 (0)), some (.inl (u1)), some (.inl (u2)), some (.inl (u3)), y4] [.inl (Int32.ofInt 1)] σ2 (w, σ') := h
      replace h := ei_p h rfl rfl rfl rfl
      obtain ⟨f, g, h⟩ := h
      clear g
      replace h : EV F f 146 z146 48 [some (rf 11 (0)), some (.inl (u1)), some (.inl (u2)), some (.inl (u3)), y4] [.inl (Int32.ofInt 1)] σ2 (w, σ') := h
      exact j146_48 hsσ2 h
  · skip
    have p4 := x161 hsτ r3
    cases e
    exact Or.inr ⟨b, p4, rfl⟩
def J146_25 (u1 : Int32) (u2 : Int32) (u3 : Int32) (τ : mS) (w : mX) (σ' : mS) : Prop := J146_26 (u1) (u2) (u3) (Int32.ofInt 0) τ w σ'
theorem j146_25 {F f : Nat} {σ' τ : mS} {u1 : Int32} {u2 : Int32} {u3 : Int32} {y4 : Option mV} {w : mX} (hsτ : HS τ) (h : EV F f 146 z146 25 [some (rf 11 (0)), some (.inl (u1)), some (.inl (u2)), some (.inl (u3)), y4] [] τ (w, σ')) : J146_25 u1 u2 u3 τ w σ' := by
  unfold J146_25
  replace h := ei_p h rfl rfl rfl rfl
  obtain ⟨f, g, h⟩ := h
  clear g
  replace h : EV F f 146 z146 26 [some (rf 11 (0)), some (.inl (u1)), some (.inl (u2)), some (.inl (u3)), y4] [.inl (Int32.ofInt 0)] τ (w, σ') := h
  exact j146_26 hsτ h
def P146 (σ : mS) (x1 : Int32) (x2 : Int32) (x3 : Int32) (w : mX) (σ' : mS) : Prop := ∃ v1, P169 σ (x1) v1 ∧ (((v1).toInt = (0 : Int) ∧ J146_25 (x1) (x2) (x3) σ w σ') ∨ (¬ ((v1).toInt = (0 : Int)) ∧ ∃ v6, P169 σ (x2) v6 ∧ (((v6).toInt = (0 : Int) ∧ J146_25 (x1) (x2) (x3) σ w σ') ∨ (¬ ((v6).toInt = (0 : Int)) ∧ ∃ v11, P169 σ (x3) v11 ∧ (((v11).toInt = (0 : Int) ∧ J146_25 (x1) (x2) (x3) σ w σ') ∨ (¬ ((v11).toInt = (0 : Int)) ∧ J146_26 (x1) (x2) (x3) (Int32.ofInt 1) σ w σ'))))))
theorem x146 {σ σ' : mS} {x1 : Int32} {x2 : Int32} {x3 : Int32} {w : mX} (hs : HS σ) (h : ev_run sm_all 146 [rf 11 (0), .inl (x1), .inl (x2), .inl (x3)] σ (w) σ') : P146 σ x1 x2 x3 w σ' := by
  unfold P146
  obtain ⟨F, f, h⟩ := ei_go h z146_at
  replace h : EV F f 146 z146 0 [some (rf 11 (0)), some (.inl (x1)), some (.inl (x2)), some (.inl (x3)), none] [] σ (w, σ') := h
  replace h := ei_p h rfl rfl rfl rfl
  obtain ⟨f, g, h⟩ := h
  clear g
  replace h : EV F f 146 z146 1 [some (rf 11 (0)), some (.inl (x1)), some (.inl (x2)), some (.inl (x3)), none] [.inl (x1)] σ (w, σ') := h
  replace h := bk_I (ei_s (as := [.inl (x1)]) h rfl (Nat.le_of_ble_eq_true rfl) rfl rfl) rfl z169_at (Or.inr rfl)
  obtain ⟨v1, σ2, r3, f, g, h⟩ := h
  clear g
  have er3 := ro_run rfl r3
  rw [er3] at h r3
  have p4 := x169 hs r3
  refine ⟨v1, p4, ?_⟩
  replace h : EV F f 146 z146 4 [some (rf 11 (0)), some (.inl (x1)), some (.inl (x2)), some (.inl (x3)), none] [.inl (v1)] σ (w, σ') := h
  replace h := ei_c h rfl rfl rfl
  rcases h with ⟨hp5, f, g, h⟩ | ⟨hp5, f, g, h⟩
  · skip
    replace hp5 : (v1).toInt = (0 : Int) := ic_eq.mp hp5
    refine Or.inl ⟨hp5, ?_⟩
    clear g
    replace h : EV F f 146 z146 25 [some (rf 11 (0)), some (.inl (x1)), some (.inl (x2)), some (.inl (x3)), none] [] σ (w, σ') := h
    exact j146_25 hs h
  · skip
    replace hp5 : ¬ ((v1).toInt = (0 : Int)) := (not_congr ic_eq).mp hp5
    refine Or.inr ⟨hp5, ?_⟩
    clear g
    replace h : EV F f 146 z146 7 [some (rf 11 (0)), some (.inl (x1)), some (.inl (x2)), some (.inl (x3)), none] [] σ (w, σ') := h
    replace h := ei_p h rfl rfl rfl rfl
    obtain ⟨f, g, h⟩ := h
    clear g
    replace h : EV F f 146 z146 8 [some (rf 11 (0)), some (.inl (x1)), some (.inl (x2)), some (.inl (x3)), none] [.inl (x2)] σ (w, σ') := h
    replace h := bk_I (ei_s (as := [.inl (x2)]) h rfl (Nat.le_of_ble_eq_true rfl) rfl rfl) rfl z169_at (Or.inr rfl)
    obtain ⟨v6, σ7, r8, f, g, h⟩ := h
    clear g
    have er8 := ro_run rfl r8
    rw [er8] at h r8
    have p9 := x169 hs r8
    refine ⟨v6, p9, ?_⟩
    replace h : EV F f 146 z146 11 [some (rf 11 (0)), some (.inl (x1)), some (.inl (x2)), some (.inl (x3)), none] [.inl (v6)] σ (w, σ') := h
    replace h := ei_c h rfl rfl rfl
    rcases h with ⟨hp10, f, g, h⟩ | ⟨hp10, f, g, h⟩
    · skip
      replace hp10 : (v6).toInt = (0 : Int) := ic_eq.mp hp10
      refine Or.inl ⟨hp10, ?_⟩
      clear g
      replace h : EV F f 146 z146 25 [some (rf 11 (0)), some (.inl (x1)), some (.inl (x2)), some (.inl (x3)), none] [] σ (w, σ') := h
      exact j146_25 hs h
    · skip
      replace hp10 : ¬ ((v6).toInt = (0 : Int)) := (not_congr ic_eq).mp hp10
      refine Or.inr ⟨hp10, ?_⟩
      clear g
      replace h : EV F f 146 z146 14 [some (rf 11 (0)), some (.inl (x1)), some (.inl (x2)), some (.inl (x3)), none] [] σ (w, σ') := h
      replace h := ei_p h rfl rfl rfl rfl
      obtain ⟨f, g, h⟩ := h
      clear g
      replace h : EV F f 146 z146 15 [some (rf 11 (0)), some (.inl (x1)), some (.inl (x2)), some (.inl (x3)), none] [.inl (x3)] σ (w, σ') := h
      replace h := bk_I (ei_s (as := [.inl (x3)]) h rfl (Nat.le_of_ble_eq_true rfl) rfl rfl) rfl z169_at (Or.inr rfl)
      obtain ⟨v11, σ12, r13, f, g, h⟩ := h
      clear g
      have er13 := ro_run rfl r13
      rw [er13] at h r13
      have p14 := x169 hs r13
      refine ⟨v11, p14, ?_⟩
      replace h : EV F f 146 z146 18 [some (rf 11 (0)), some (.inl (x1)), some (.inl (x2)), some (.inl (x3)), none] [.inl (v11)] σ (w, σ') := h
      replace h := ei_c h rfl rfl rfl
      rcases h with ⟨hp15, f, g, h⟩ | ⟨hp15, f, g, h⟩
      · skip
        replace hp15 : (v11).toInt = (0 : Int) := ic_eq.mp hp15
        refine Or.inl ⟨hp15, ?_⟩
        clear g
        replace h : EV F f 146 z146 25 [some (rf 11 (0)), some (.inl (x1)), some (.inl (x2)), some (.inl (x3)), none] [] σ (w, σ') := h
        exact j146_25 hs h
      · skip
        replace hp15 : ¬ ((v11).toInt = (0 : Int)) := (not_congr ic_eq).mp hp15
        refine Or.inr ⟨hp15, ?_⟩
        clear g
        replace h : EV F f 146 z146 21 [some (rf 11 (0)), some (.inl (x1)), some (.inl (x2)), some (.inl (x3)), none] [] σ (w, σ') := h
        replace h := ei_p h rfl rfl rfl rfl
        obtain ⟨f, g, h⟩ := h
        clear g
        replace h : EV F f 146 z146 22 [some (rf 11 (0)), some (.inl (x1)), some (.inl (x2)), some (.inl (x3)), none] [.inl (Int32.ofInt 1)] σ (w, σ') := h
        replace h := ei_p h rfl rfl rfl rfl
        obtain ⟨f, g, h⟩ := h
        clear g
        replace h : EV F f 146 z146 26 [some (rf 11 (0)), some (.inl (x1)), some (.inl (x2)), some (.inl (x3)), none] [.inl (Int32.ofInt 1)] σ (w, σ') := h
        exact j146_26 hs h
def z147 : mAl := ((yX11_margin, cX11_margin, 3, (some .long), { frames := 6, cells := 1, slots := 6, locals := 90 }, []), rw_X11_margin, false)
theorem z147_at : m_alF[147]? = some z147 := rfl
abbrev L147 : List (Nat × Nat) := []
abbrev w147 : Nat → Nat → Bool := wl L147
def S147 : List Nat := [22, 40, 41, 90, 147]
theorem W147 : fw_S w147 S147 = true := by decide +kernel
def P147 (σ : mS) (x1 : Int32) (w : mX) (σ' : mS) : Prop := ∃ v1, P22 σ (x1) v1 ∧ ((v1 = none ∧ (w = .inr 0 ∧ σ' = σ)) ∨ (∃ q6, v1 = some q6 ∧ ∃ v9, P40 σ (some q6) v9 ∧ w = .inl (some (.inr (.inl (v9)))) ∧ σ' = σ))
theorem x147 {σ σ' : mS} {x1 : Int32} {w : mX} (hs : HS σ) (h : ev_run sm_all 147 [rf 11 (0), .inl (x1)] σ (w) σ') : P147 σ x1 w σ' := by
  unfold P147
  obtain ⟨F, f, h⟩ := ei_go h z147_at
  replace h : EV F f 147 z147 0 [some (rf 11 (0)), some (.inl (x1)), none] [] σ (w, σ') := h
  replace h := ei_p h rfl rfl rfl rfl
  obtain ⟨f, g, h⟩ := h
  clear g
  replace h : EV F f 147 z147 1 [some (rf 11 (0)), some (.inl (x1)), none] [rf 11 (0)] σ (w, σ') := h
  replace h := ei_get h rfl (HS_g11_0 hs)
  obtain ⟨f, g, h⟩ := h
  clear g
  replace h : EV F f 147 z147 4 [some (rf 11 (0)), some (.inl (x1)), none] [rf 4 (0)] σ (w, σ') := h
  replace h := ei_get h rfl (HS_g4_1 hs)
  obtain ⟨f, g, h⟩ := h
  clear g
  replace h : EV F f 147 z147 7 [some (rf 11 (0)), some (.inl (x1)), none] [rf 2 (0)] σ (w, σ') := h
  replace h := ei_p h rfl rfl rfl rfl
  obtain ⟨f, g, h⟩ := h
  clear g
  replace h : EV F f 147 z147 8 [some (rf 11 (0)), some (.inl (x1)), none] [.inl (x1), rf 2 (0)] σ (w, σ') := h
  replace h := bk_R (ei_v (as := [.inl (x1)]) h rfl rfl rfl) rfl z22_at rfl
  obtain ⟨v1, σ2, r3, f, g, h⟩ := h
  clear g
  have er3 := ro_run rfl r3
  rw [er3] at h r3
  have p4 := x22 hs r3
  refine ⟨v1, p4, ?_⟩
  replace h : EV F f 147 z147 11 [some (rf 11 (0)), some (.inl (x1)), none] [.inr (.inr (v1))] σ (w, σ') := h
  replace h := ei_p h rfl rfl rfl rfl
  obtain ⟨f, g, h⟩ := h
  clear g
  replace h : EV F f 147 z147 12 [some (rf 11 (0)), some (.inl (x1)), some (.inr (.inr (v1)))] [] σ (w, σ') := h
  replace h := ei_p h rfl rfl rfl rfl
  obtain ⟨f, g, h⟩ := h
  clear g
  replace h : EV F f 147 z147 13 [some (rf 11 (0)), some (.inl (x1)), some (.inr (.inr (v1)))] [.inr (.inr (v1))] σ (w, σ') := h
  rcases r_cs (v1) with e5 | ⟨q6, e5⟩
  · skip
    rw [e5] at h
    refine Or.inl ⟨e5, ?_⟩
    replace h : EV F f 147 z147 13 [some (rf 11 (0)), some (.inl (x1)), some (.inr (.inr none))] [.inr (.inr none)] σ (w, σ') := h
    replace h := ei_c h rfl rfl rfl
    rcases h with ⟨hp7, f, g, h⟩ | ⟨hp7, f, g, h⟩
    · exact absurd rfl hp7
    · skip
      clear g
      replace h : EV F f 147 z147 16 [some (rf 11 (0)), some (.inl (x1)), some (.inr (.inr none))] [] σ (w, σ') := h
      have e := ei_thr h rfl (by decide)
      cases e
      exact ⟨rfl, rfl⟩
  · skip
    rw [e5] at h
    refine Or.inr ⟨q6, e5, ?_⟩
    replace h : EV F f 147 z147 13 [some (rf 11 (0)), some (.inl (x1)), some (.inr (.inr (some q6)))] [.inr (.inr (some q6))] σ (w, σ') := h
    replace h := ei_c h rfl rfl rfl
    rcases h with ⟨hp8, f, g, h⟩ | ⟨hp8, f, g, h⟩
    · skip
      clear g
      replace h : EV F f 147 z147 26 [some (rf 11 (0)), some (.inl (x1)), some (.inr (.inr (some q6)))] [] σ (w, σ') := h
      replace h := ei_p h rfl rfl rfl rfl
      obtain ⟨f, g, h⟩ := h
      clear g
      replace h : EV F f 147 z147 27 [some (rf 11 (0)), some (.inl (x1)), some (.inr (.inr (some q6)))] [rf 11 (0)] σ (w, σ') := h
      replace h := ei_get h rfl (HS_g11_0 hs)
      obtain ⟨f, g, h⟩ := h
      clear g
      replace h : EV F f 147 z147 30 [some (rf 11 (0)), some (.inl (x1)), some (.inr (.inr (some q6)))] [rf 4 (0)] σ (w, σ') := h
      replace h := ei_get h rfl (HS_g4_1 hs)
      obtain ⟨f, g, h⟩ := h
      clear g
      replace h : EV F f 147 z147 33 [some (rf 11 (0)), some (.inl (x1)), some (.inr (.inr (some q6)))] [rf 2 (0)] σ (w, σ') := h
      replace h := ei_p h rfl rfl rfl rfl
      obtain ⟨f, g, h⟩ := h
      clear g
      replace h : EV F f 147 z147 34 [some (rf 11 (0)), some (.inl (x1)), some (.inr (.inr (some q6)))] [.inr (.inr (some q6)), rf 2 (0)] σ (w, σ') := h
      replace h := bk_L (ei_v (as := [.inr (.inr (some q6))]) h rfl rfl rfl) rfl z40_at rfl
      obtain ⟨v9, σ10, r11, f, g, h⟩ := h
      clear g
      have er11 := ro_run rfl r11
      rw [er11] at h r11
      have p12 := x40 hs r11
      refine ⟨v9, p12, ?_⟩
      replace h : EV F f 147 z147 37 [some (rf 11 (0)), some (.inl (x1)), some (.inr (.inr (some q6)))] [.inr (.inl (v9))] σ (w, σ') := h
      have e := ei_lret h rfl
      cases e
      exact ⟨rfl, rfl⟩
    · exact absurd (fun z => by cases z) hp8
def z148 : mAl := ((yX11_worth, cX11_worth, 3, (some .long), { frames := 6, cells := 1, slots := 6, locals := 90 }, []), rw_X11_worth, false)
theorem z148_at : m_alF[148]? = some z148 := rfl
abbrev L148 : List (Nat × Nat) := []
abbrev w148 : Nat → Nat → Bool := wl L148
def S148 : List Nat := [22, 39, 90, 148]
theorem W148 : fw_S w148 S148 = true := by decide +kernel
def P148 (σ : mS) (x1 : Int32) (w : mX) (σ' : mS) : Prop := ∃ v1, P22 σ (x1) v1 ∧ ((v1 = none ∧ (w = .inr 0 ∧ σ' = σ)) ∨ (∃ q6, v1 = some q6 ∧ ∃ v9, P39 σ (some q6) v9 ∧ w = .inl (some (.inr (.inl (v9)))) ∧ σ' = σ))
theorem x148 {σ σ' : mS} {x1 : Int32} {w : mX} (hs : HS σ) (h : ev_run sm_all 148 [rf 11 (0), .inl (x1)] σ (w) σ') : P148 σ x1 w σ' := by
  unfold P148
  obtain ⟨F, f, h⟩ := ei_go h z148_at
  replace h : EV F f 148 z148 0 [some (rf 11 (0)), some (.inl (x1)), none] [] σ (w, σ') := h
  replace h := ei_p h rfl rfl rfl rfl
  obtain ⟨f, g, h⟩ := h
  clear g
  replace h : EV F f 148 z148 1 [some (rf 11 (0)), some (.inl (x1)), none] [rf 11 (0)] σ (w, σ') := h
  replace h := ei_get h rfl (HS_g11_0 hs)
  obtain ⟨f, g, h⟩ := h
  clear g
  replace h : EV F f 148 z148 4 [some (rf 11 (0)), some (.inl (x1)), none] [rf 4 (0)] σ (w, σ') := h
  replace h := ei_get h rfl (HS_g4_1 hs)
  obtain ⟨f, g, h⟩ := h
  clear g
  replace h : EV F f 148 z148 7 [some (rf 11 (0)), some (.inl (x1)), none] [rf 2 (0)] σ (w, σ') := h
  replace h := ei_p h rfl rfl rfl rfl
  obtain ⟨f, g, h⟩ := h
  clear g
  replace h : EV F f 148 z148 8 [some (rf 11 (0)), some (.inl (x1)), none] [.inl (x1), rf 2 (0)] σ (w, σ') := h
  replace h := bk_R (ei_v (as := [.inl (x1)]) h rfl rfl rfl) rfl z22_at rfl
  obtain ⟨v1, σ2, r3, f, g, h⟩ := h
  clear g
  have er3 := ro_run rfl r3
  rw [er3] at h r3
  have p4 := x22 hs r3
  refine ⟨v1, p4, ?_⟩
  replace h : EV F f 148 z148 11 [some (rf 11 (0)), some (.inl (x1)), none] [.inr (.inr (v1))] σ (w, σ') := h
  replace h := ei_p h rfl rfl rfl rfl
  obtain ⟨f, g, h⟩ := h
  clear g
  replace h : EV F f 148 z148 12 [some (rf 11 (0)), some (.inl (x1)), some (.inr (.inr (v1)))] [] σ (w, σ') := h
  replace h := ei_p h rfl rfl rfl rfl
  obtain ⟨f, g, h⟩ := h
  clear g
  replace h : EV F f 148 z148 13 [some (rf 11 (0)), some (.inl (x1)), some (.inr (.inr (v1)))] [.inr (.inr (v1))] σ (w, σ') := h
  rcases r_cs (v1) with e5 | ⟨q6, e5⟩
  · skip
    rw [e5] at h
    refine Or.inl ⟨e5, ?_⟩
    replace h : EV F f 148 z148 13 [some (rf 11 (0)), some (.inl (x1)), some (.inr (.inr none))] [.inr (.inr none)] σ (w, σ') := h
    replace h := ei_c h rfl rfl rfl
    rcases h with ⟨hp7, f, g, h⟩ | ⟨hp7, f, g, h⟩
    · exact absurd rfl hp7
    · skip
      clear g
      replace h : EV F f 148 z148 16 [some (rf 11 (0)), some (.inl (x1)), some (.inr (.inr none))] [] σ (w, σ') := h
      have e := ei_thr h rfl (by decide)
      cases e
      exact ⟨rfl, rfl⟩
  · skip
    rw [e5] at h
    refine Or.inr ⟨q6, e5, ?_⟩
    replace h : EV F f 148 z148 13 [some (rf 11 (0)), some (.inl (x1)), some (.inr (.inr (some q6)))] [.inr (.inr (some q6))] σ (w, σ') := h
    replace h := ei_c h rfl rfl rfl
    rcases h with ⟨hp8, f, g, h⟩ | ⟨hp8, f, g, h⟩
    · skip
      clear g
      replace h : EV F f 148 z148 26 [some (rf 11 (0)), some (.inl (x1)), some (.inr (.inr (some q6)))] [] σ (w, σ') := h
      replace h := ei_p h rfl rfl rfl rfl
      obtain ⟨f, g, h⟩ := h
      clear g
      replace h : EV F f 148 z148 27 [some (rf 11 (0)), some (.inl (x1)), some (.inr (.inr (some q6)))] [rf 11 (0)] σ (w, σ') := h
      replace h := ei_get h rfl (HS_g11_0 hs)
      obtain ⟨f, g, h⟩ := h
      clear g
      replace h : EV F f 148 z148 30 [some (rf 11 (0)), some (.inl (x1)), some (.inr (.inr (some q6)))] [rf 4 (0)] σ (w, σ') := h
      replace h := ei_get h rfl (HS_g4_1 hs)
      obtain ⟨f, g, h⟩ := h
      clear g
      replace h : EV F f 148 z148 33 [some (rf 11 (0)), some (.inl (x1)), some (.inr (.inr (some q6)))] [rf 2 (0)] σ (w, σ') := h
      replace h := ei_p h rfl rfl rfl rfl
      obtain ⟨f, g, h⟩ := h
      clear g
      replace h : EV F f 148 z148 34 [some (rf 11 (0)), some (.inl (x1)), some (.inr (.inr (some q6)))] [.inr (.inr (some q6)), rf 2 (0)] σ (w, σ') := h
      replace h := bk_L (ei_v (as := [.inr (.inr (some q6))]) h rfl rfl rfl) rfl z39_at rfl
      obtain ⟨v9, σ10, r11, f, g, h⟩ := h
      clear g
      have er11 := ro_run rfl r11
      rw [er11] at h r11
      have p12 := x39 hs r11
      refine ⟨v9, p12, ?_⟩
      replace h : EV F f 148 z148 37 [some (rf 11 (0)), some (.inl (x1)), some (.inr (.inr (some q6)))] [.inr (.inl (v9))] σ (w, σ') := h
      have e := ei_lret h rfl
      cases e
      exact ⟨rfl, rfl⟩
    · exact absurd (fun z => by cases z) hp8
def z149 : mAl := ((yX11_member, cX11_member, 3, (some .int), { frames := 6, cells := 1, slots := 6, locals := 90 }, []), rw_X11_member, false)
theorem z149_at : m_alF[149]? = some z149 := rfl
abbrev L149 : List (Nat × Nat) := []
abbrev w149 : Nat → Nat → Bool := wl L149
def S149 : List Nat := [22, 93, 149]
theorem W149 : fw_S w149 S149 = true := by decide +kernel
def P149 (σ : mS) (x1 : Int32) (w : mX) (σ' : mS) : Prop := ∃ v1, P22 σ (x1) v1 ∧ ((v1 = none ∧ (w = .inr 0 ∧ σ' = σ)) ∨ (∃ q6, v1 = some q6 ∧ ∃ i9, (some q6 : mR) = some (6, i9) ∧ ∃ v11, P93 σ (i9) v11 ∧ w = .inl (some (.inl (((Int32.ofInt 10) * (m_i σ 6 (i9) 6)) + (v11)))) ∧ σ' = σ))
theorem x149 {σ σ' : mS} {x1 : Int32} {w : mX} (hs : HS σ) (h : ev_run sm_all 149 [rf 11 (0), .inl (x1)] σ (w) σ') : P149 σ x1 w σ' := by
  unfold P149
  obtain ⟨F, f, h⟩ := ei_go h z149_at
  replace h : EV F f 149 z149 0 [some (rf 11 (0)), some (.inl (x1)), none] [] σ (w, σ') := h
  replace h := ei_p h rfl rfl rfl rfl
  obtain ⟨f, g, h⟩ := h
  clear g
  replace h : EV F f 149 z149 1 [some (rf 11 (0)), some (.inl (x1)), none] [rf 11 (0)] σ (w, σ') := h
  replace h := ei_get h rfl (HS_g11_0 hs)
  obtain ⟨f, g, h⟩ := h
  clear g
  replace h : EV F f 149 z149 4 [some (rf 11 (0)), some (.inl (x1)), none] [rf 4 (0)] σ (w, σ') := h
  replace h := ei_get h rfl (HS_g4_1 hs)
  obtain ⟨f, g, h⟩ := h
  clear g
  replace h : EV F f 149 z149 7 [some (rf 11 (0)), some (.inl (x1)), none] [rf 2 (0)] σ (w, σ') := h
  replace h := ei_p h rfl rfl rfl rfl
  obtain ⟨f, g, h⟩ := h
  clear g
  replace h : EV F f 149 z149 8 [some (rf 11 (0)), some (.inl (x1)), none] [.inl (x1), rf 2 (0)] σ (w, σ') := h
  replace h := bk_R (ei_v (as := [.inl (x1)]) h rfl rfl rfl) rfl z22_at rfl
  obtain ⟨v1, σ2, r3, f, g, h⟩ := h
  clear g
  have er3 := ro_run rfl r3
  rw [er3] at h r3
  have p4 := x22 hs r3
  refine ⟨v1, p4, ?_⟩
  replace h : EV F f 149 z149 11 [some (rf 11 (0)), some (.inl (x1)), none] [.inr (.inr (v1))] σ (w, σ') := h
  replace h := ei_p h rfl rfl rfl rfl
  obtain ⟨f, g, h⟩ := h
  clear g
  replace h : EV F f 149 z149 12 [some (rf 11 (0)), some (.inl (x1)), some (.inr (.inr (v1)))] [] σ (w, σ') := h
  replace h := ei_p h rfl rfl rfl rfl
  obtain ⟨f, g, h⟩ := h
  clear g
  replace h : EV F f 149 z149 13 [some (rf 11 (0)), some (.inl (x1)), some (.inr (.inr (v1)))] [.inr (.inr (v1))] σ (w, σ') := h
  rcases r_cs (v1) with e5 | ⟨q6, e5⟩
  · skip
    rw [e5] at h
    refine Or.inl ⟨e5, ?_⟩
    replace h : EV F f 149 z149 13 [some (rf 11 (0)), some (.inl (x1)), some (.inr (.inr none))] [.inr (.inr none)] σ (w, σ') := h
    replace h := ei_c h rfl rfl rfl
    rcases h with ⟨hp7, f, g, h⟩ | ⟨hp7, f, g, h⟩
    · exact absurd rfl hp7
    · skip
      clear g
      replace h : EV F f 149 z149 16 [some (rf 11 (0)), some (.inl (x1)), some (.inr (.inr none))] [] σ (w, σ') := h
      have e := ei_thr h rfl (by decide)
      cases e
      exact ⟨rfl, rfl⟩
  · skip
    rw [e5] at h
    refine Or.inr ⟨q6, e5, ?_⟩
    replace h : EV F f 149 z149 13 [some (rf 11 (0)), some (.inl (x1)), some (.inr (.inr (some q6)))] [.inr (.inr (some q6))] σ (w, σ') := h
    replace h := ei_c h rfl rfl rfl
    rcases h with ⟨hp8, f, g, h⟩ | ⟨hp8, f, g, h⟩
    · skip
      clear g
      replace h : EV F f 149 z149 26 [some (rf 11 (0)), some (.inl (x1)), some (.inr (.inr (some q6)))] [] σ (w, σ') := h
      replace h := ei_p h rfl rfl rfl rfl
      obtain ⟨f, g, h⟩ := h
      clear g
      replace h : EV F f 149 z149 28 [some (rf 11 (0)), some (.inl (x1)), some (.inr (.inr (some q6)))] [.inl (Int32.ofInt 10)] σ (w, σ') := h
      replace h := ei_p h rfl rfl rfl rfl
      obtain ⟨f, g, h⟩ := h
      clear g
      replace h : EV F f 149 z149 29 [some (rf 11 (0)), some (.inl (x1)), some (.inr (.inr (some q6)))] [.inr (.inr (some q6)), .inl (Int32.ofInt 10)] σ (w, σ') := h
      obtain ⟨i9, e10⟩ := ei_gp h rfl
      rw [Option.some.inj e10] at h
      refine ⟨i9, e10, ?_⟩
      replace h : EV F f 149 z149 29 [some (rf 11 (0)), some (.inl (x1)), some (rf 6 (i9))] [rf 6 (i9), .inl (Int32.ofInt 10)] σ (w, σ') := h
      replace h := ei_get h rfl rfl
      obtain ⟨f, g, h⟩ := h
      clear g
      replace h : EV F f 149 z149 32 [some (rf 11 (0)), some (.inl (x1)), some (rf 6 (i9))] [.inl (m_i σ 6 (i9) 6), .inl (Int32.ofInt 10)] σ (w, σ') := h
      replace h := ei_p h rfl rfl rfl rfl
      obtain ⟨f, g, h⟩ := h
      clear g
      replace h : EV F f 149 z149 33 [some (rf 11 (0)), some (.inl (x1)), some (rf 6 (i9))] [.inl ((Int32.ofInt 10) * (m_i σ 6 (i9) 6))] σ (w, σ') := h
      replace h := ei_p h rfl rfl rfl rfl
      obtain ⟨f, g, h⟩ := h
      clear g
      replace h : EV F f 149 z149 34 [some (rf 11 (0)), some (.inl (x1)), some (rf 6 (i9))] [rf 6 (i9), .inl ((Int32.ofInt 10) * (m_i σ 6 (i9) 6))] σ (w, σ') := h
      replace h := bk_I (ei_v (as := []) h rfl rfl rfl) rfl z93_at (Or.inl rfl)
      obtain ⟨v11, σ12, r13, f, g, h⟩ := h
      clear g
      have er13 := ro_run rfl r13
      rw [er13] at h r13
      have p14 := x93 hs r13
      refine ⟨v11, p14, ?_⟩
      replace h : EV F f 149 z149 37 [some (rf 11 (0)), some (.inl (x1)), some (rf 6 (i9))] [.inl (v11), .inl ((Int32.ofInt 10) * (m_i σ 6 (i9) 6))] σ (w, σ') := h
      replace h := ei_p h rfl rfl rfl rfl
      obtain ⟨f, g, h⟩ := h
      clear g
      replace h : EV F f 149 z149 38 [some (rf 11 (0)), some (.inl (x1)), some (rf 6 (i9))] [.inl (((Int32.ofInt 10) * (m_i σ 6 (i9) 6)) + (v11))] σ (w, σ') := h
      have e := ei_iret h rfl
      cases e
      exact ⟨rfl, rfl⟩
    · exact absurd (fun z => by cases z) hp8
def z150 : mAl := ((yX11_tick, cX11_tick, 3, (some .int), { frames := 7, cells := 2, slots := 15, locals := 190 }, []), rw_X11_tick, false)
theorem z150_at : m_alF[150]? = some z150 := rfl
abbrev L150 : List (Nat × Nat) := [(0, 1), (0, 2), (1, 0), (1, 1), (1, 2), (1, 3), (1, 4), (1, 5), (1, 6), (1, 7), (1, 8), (1, 9), (1, 10), (1, 11), (1, 12), (1, 13), (1, 14), (1, 15), (2, 5), (2, 6), (2, 7), (2, 8), (2, 9), (2, 10), (3, 3), (3, 4), (3, 5), (5, 2), (6, 2), (6, 3), (6, 4), (6, 5), (6, 6), (6, 7), (6, 8), (6, 9), (6, 10), (7, 1), (7, 2), (7, 3), (7, 4), (7, 5), (7, 6), (7, 7), (7, 8), (7, 9), (7, 10), (7, 11), (7, 12), (8, 1), (8, 2), (8, 3), (8, 4), (8, 5), (8, 6), (8, 7), (8, 8), (10, 0), (10, 1), (10, 2), (10, 3), (10, 4), (10, 5), (10, 6), (10, 7), (10, 8), (10, 9), (11, 3), (11, 4), (11, 5), (13, 0), (14, 0)]
abbrev w150 : Nat → Nat → Bool := wl L150
def S150 : List Nat := [3, 4, 5, 6, 8, 9, 10, 11, 12, 13, 14, 15, 16, 18, 22, 23, 24, 25, 27, 28, 29, 30, 31, 32, 34, 35, 36, 37, 38, 39, 40, 41, 42, 43, 44, 45, 46, 47, 48, 51, 53, 54, 61, 62, 63, 64, 65, 66, 67, 68, 69, 70, 71, 72, 73, 74, 75, 76, 78, 79, 80, 81, 82, 83, 85, 86, 90, 91, 92, 95, 99, 100, 102, 103, 104, 105, 106, 107, 112, 113, 114, 115, 116, 117, 150, 158, 159, 161, 163, 190]
theorem W150 : fw_S w150 S150 = true := by decide +kernel
def P150 (σ : mS) (x1 : Int32) (w : mX) (σ' : mS) : Prop := ∃ v1, P163 σ (x1) (Int32.ofInt 1) (Int32.ofInt 50) v1 ∧ ((∃ σ6, fw_e w161 σ σ6 ∧ P161 σ (v1) (.inl none) σ6 ∧ ∃ σ9, σ9 = m_nu σ6 1 0 ∧ ∃ σ12, fw_e w18 σ9 σ12 ∧ P18 σ9 (σ6.1 1) (Int32.ofInt 14) (x1) (Int32.ofInt 0) (Int32.ofInt 0) σ12 ∧ ∃ v15 σ16, fw_e w61 σ12 σ16 ∧ P61 σ12 (some (1, σ6.1 1)) v15 σ16 ∧ ∃ v19 σ20, fw_e w158 σ16 σ20 ∧ P158 σ16 (some (1, σ6.1 1)) (v15) v19 σ20 ∧ w = .inl (some (.inl ((v19).toInt32))) ∧ σ' = σ20) ∨ (∃ b, P161 σ (v1) (.inr b) σ' ∧ w = .inr b))
theorem x150 {σ σ' : mS} {x1 : Int32} {w : mX} (hs : HS σ) (h : ev_run sm_all 150 [rf 11 (0), .inl (x1)] σ (w) σ') : P150 σ x1 w σ' := by
  unfold P150
  obtain ⟨F, f, h⟩ := ei_go h z150_at
  replace h : EV F f 150 z150 0 [some (rf 11 (0)), some (.inl (x1)), none] [] σ (w, σ') := h
  replace h := ei_p h rfl rfl rfl rfl
  obtain ⟨f, g, h⟩ := h
  clear g
  replace h : EV F f 150 z150 1 [some (rf 11 (0)), some (.inl (x1)), none] [.inl (x1)] σ (w, σ') := h
  replace h := ei_p h rfl rfl rfl rfl
  obtain ⟨f, g, h⟩ := h
  clear g
  replace h : EV F f 150 z150 2 [some (rf 11 (0)), some (.inl (x1)), none] [.inl (Int32.ofInt 1), .inl (x1)] σ (w, σ') := h
  replace h := ei_p h rfl rfl rfl rfl
  obtain ⟨f, g, h⟩ := h
  clear g
  replace h : EV F f 150 z150 4 [some (rf 11 (0)), some (.inl (x1)), none] [.inl (Int32.ofInt 50), .inl (Int32.ofInt 1), .inl (x1)] σ (w, σ') := h
  replace h := bk_I (ei_s (as := [.inl (Int32.ofInt 50), .inl (Int32.ofInt 1), .inl (x1)]) h rfl (Nat.le_of_ble_eq_true rfl) rfl rfl) rfl z163_at (Or.inr rfl)
  obtain ⟨v1, σ2, r3, f, g, h⟩ := h
  clear g
  have er3 := ro_run rfl r3
  rw [er3] at h r3
  have p4 := x163 hs r3
  refine ⟨v1, p4, ?_⟩
  replace h : EV F f 150 z150 7 [some (rf 11 (0)), some (.inl (x1)), none] [.inl (v1)] σ (w, σ') := h
  replace h := bx_0 (ei_s (as := [.inl (v1)]) h rfl (Nat.le_of_ble_eq_true rfl) rfl rfl) z161_at rfl
  rcases h with ⟨σ6, r7, f, g, h⟩ | ⟨b, σ6, r7, e⟩
  · skip
    clear g
    have p8 := x161 hs r7
    have hsσ6 : HS σ6 := HS_run rfl r7 hs
    refine Or.inl ⟨σ6, fw_run W161 rfl r7, p8, ?_⟩
    replace h : EV F f 150 z150 10 [some (rf 11 (0)), some (.inl (x1)), none] [] σ6 (w, σ') := h
    replace h := ei_new h rfl (by decide)
    obtain ⟨f, g, h⟩ := h
    clear g
    obtain ⟨σ9, e10⟩ : ∃ s, s = m_nu σ6 1 0 := ⟨_, rfl⟩
    rw [← e10] at h
    have hsσ9 : HS σ9 := by rw [e10]; exact HS_nu hsσ6 (by decide)
    refine ⟨σ9, e10, ?_⟩
    replace h : EV F f 150 z150 13 [some (rf 11 (0)), some (.inl (x1)), none] [rf 1 (σ6.1 1)] σ9 (w, σ') := h
    replace h := ei_p h rfl rfl rfl rfl
    obtain ⟨f, g, h⟩ := h
    clear g
    replace h : EV F f 150 z150 14 [some (rf 11 (0)), some (.inl (x1)), none] [rf 1 (σ6.1 1), rf 1 (σ6.1 1)] σ9 (w, σ') := h
    replace h := ei_p h rfl rfl rfl rfl
    obtain ⟨f, g, h⟩ := h
    clear g
    replace h : EV F f 150 z150 16 [some (rf 11 (0)), some (.inl (x1)), none] [.inl (Int32.ofInt 14), rf 1 (σ6.1 1), rf 1 (σ6.1 1)] σ9 (w, σ') := h
    replace h := ei_p h rfl rfl rfl rfl
    obtain ⟨f, g, h⟩ := h
    clear g
    replace h : EV F f 150 z150 17 [some (rf 11 (0)), some (.inl (x1)), none] [.inl (x1), .inl (Int32.ofInt 14), rf 1 (σ6.1 1), rf 1 (σ6.1 1)] σ9 (w, σ') := h
    replace h := ei_p h rfl rfl rfl rfl
    obtain ⟨f, g, h⟩ := h
    clear g
    replace h : EV F f 150 z150 18 [some (rf 11 (0)), some (.inl (x1)), none] [.inl (Int32.ofInt 0), .inl (x1), .inl (Int32.ofInt 14), rf 1 (σ6.1 1), rf 1 (σ6.1 1)] σ9 (w, σ') := h
    replace h := ei_p h rfl rfl rfl rfl
    obtain ⟨f, g, h⟩ := h
    clear g
    replace h : EV F f 150 z150 19 [some (rf 11 (0)), some (.inl (x1)), none] [.inl (Int32.ofInt 0), .inl (Int32.ofInt 0), .inl (x1), .inl (Int32.ofInt 14), rf 1 (σ6.1 1), rf 1 (σ6.1 1)] σ9 (w, σ') := h
    replace h := bk_0 (ei_x (as := [.inl (Int32.ofInt 0), .inl (Int32.ofInt 0), .inl (x1), .inl (Int32.ofInt 14)]) h rfl rfl rfl) rfl z18_at rfl
    obtain ⟨σ12, r13, f, g, h⟩ := h
    clear g
    have p14 := x18 hsσ9 r13
    have hsσ12 : HS σ12 := HS_run rfl r13 hsσ9
    refine ⟨σ12, fw_run W18 rfl r13, p14, ?_⟩
    replace h : EV F f 150 z150 22 [some (rf 11 (0)), some (.inl (x1)), none] [rf 1 (σ6.1 1)] σ12 (w, σ') := h
    replace h := ei_p h rfl rfl rfl rfl
    obtain ⟨f, g, h⟩ := h
    clear g
    replace h : EV F f 150 z150 23 [some (rf 11 (0)), some (.inl (x1)), some (rf 1 (σ6.1 1))] [] σ12 (w, σ') := h
    replace h := ei_p h rfl rfl rfl rfl
    obtain ⟨f, g, h⟩ := h
    clear g
    replace h : EV F f 150 z150 24 [some (rf 11 (0)), some (.inl (x1)), some (rf 1 (σ6.1 1))] [rf 11 (0)] σ12 (w, σ') := h
    replace h := ei_p h rfl rfl rfl rfl
    obtain ⟨f, g, h⟩ := h
    clear g
    replace h : EV F f 150 z150 25 [some (rf 11 (0)), some (.inl (x1)), some (rf 1 (σ6.1 1))] [rf 1 (σ6.1 1), rf 11 (0)] σ12 (w, σ') := h
    replace h := ei_p h rfl rfl rfl rfl
    obtain ⟨f, g, h⟩ := h
    clear g
    replace h : EV F f 150 z150 26 [some (rf 11 (0)), some (.inl (x1)), some (rf 1 (σ6.1 1))] [rf 11 (0), rf 1 (σ6.1 1), rf 11 (0)] σ12 (w, σ') := h
    replace h := ei_get h rfl (HS_g11_0 hsσ12)
    obtain ⟨f, g, h⟩ := h
    clear g
    replace h : EV F f 150 z150 29 [some (rf 11 (0)), some (.inl (x1)), some (rf 1 (σ6.1 1))] [rf 4 (0), rf 1 (σ6.1 1), rf 11 (0)] σ12 (w, σ') := h
    replace h := ei_p h rfl rfl rfl rfl
    obtain ⟨f, g, h⟩ := h
    clear g
    replace h : EV F f 150 z150 30 [some (rf 11 (0)), some (.inl (x1)), some (rf 1 (σ6.1 1))] [rf 1 (σ6.1 1), rf 4 (0), rf 1 (σ6.1 1), rf 11 (0)] σ12 (w, σ') := h
    replace h := bk_L (ei_v (as := [rf 1 (σ6.1 1)]) h rfl rfl rfl) rfl z61_at rfl
    obtain ⟨v15, σ16, r17, f, g, h⟩ := h
    clear g
    have p18 := x61 hsσ12 r17
    have hsσ16 : HS σ16 := HS_run rfl r17 hsσ12
    refine ⟨v15, σ16, fw_run W61 rfl r17, p18, ?_⟩
    replace h : EV F f 150 z150 33 [some (rf 11 (0)), some (.inl (x1)), some (rf 1 (σ6.1 1))] [.inr (.inl (v15)), rf 1 (σ6.1 1), rf 11 (0)] σ16 (w, σ') := h
    replace h := bk_L (ei_v (as := [.inr (.inl (v15)), rf 1 (σ6.1 1)]) h rfl rfl rfl) rfl z158_at rfl
    obtain ⟨v19, σ20, r21, f, g, h⟩ := h
    clear g
    have p22 := x158 hsσ16 r21
    have hsσ20 : HS σ20 := HS_run rfl r21 hsσ16
    refine ⟨v19, σ20, fw_run W158 rfl r21, p22, ?_⟩
    replace h : EV F f 150 z150 36 [some (rf 11 (0)), some (.inl (x1)), some (rf 1 (σ6.1 1))] [.inr (.inl (v19))] σ20 (w, σ') := h
    replace h := ei_p h rfl rfl rfl rfl
    obtain ⟨f, g, h⟩ := h
    clear g
    replace h : EV F f 150 z150 37 [some (rf 11 (0)), some (.inl (x1)), some (rf 1 (σ6.1 1))] [.inl ((v19).toInt32)] σ20 (w, σ') := h
    have e := ei_iret h rfl
    cases e
    exact ⟨rfl, rfl⟩
  · skip
    have p8 := x161 hs r7
    cases e
    exact Or.inr ⟨b, p8, rfl⟩
def z151 : mAl := ((yX11_sell, cX11_sell, 5, (some .long), { frames := 7, cells := 4, slots := 27, locals := 190 }, []), rw_X11_sell, false)
theorem z151_at : m_alF[151]? = some z151 := rfl
abbrev L151 : List (Nat × Nat) := [(0, 1), (0, 2), (1, 0), (1, 1), (1, 2), (1, 3), (1, 4), (1, 5), (1, 6), (1, 7), (1, 8), (1, 9), (1, 10), (1, 11), (1, 12), (1, 13), (1, 14), (1, 15), (2, 5), (2, 6), (2, 7), (2, 8), (2, 9), (2, 10), (3, 3), (3, 4), (3, 5), (5, 2), (6, 2), (6, 3), (6, 4), (6, 5), (6, 6), (6, 7), (6, 8), (6, 9), (6, 10), (7, 1), (7, 2), (7, 3), (7, 4), (7, 5), (7, 6), (7, 7), (7, 8), (7, 9), (7, 10), (7, 11), (7, 12), (8, 1), (8, 2), (8, 3), (8, 4), (8, 5), (8, 6), (8, 7), (8, 8), (10, 0), (10, 1), (10, 2), (10, 3), (10, 4), (10, 5), (10, 6), (10, 7), (10, 8), (10, 9), (11, 3), (11, 4), (11, 5), (13, 0), (14, 0)]
abbrev w151 : Nat → Nat → Bool := wl L151
def S151 : List Nat := [3, 4, 5, 6, 8, 9, 10, 11, 12, 13, 14, 15, 16, 18, 22, 23, 24, 25, 26, 27, 28, 29, 30, 31, 32, 34, 35, 36, 37, 38, 39, 40, 41, 42, 43, 44, 45, 46, 47, 48, 51, 53, 54, 61, 62, 63, 64, 65, 66, 67, 68, 69, 70, 71, 72, 73, 74, 75, 76, 78, 79, 80, 81, 82, 83, 85, 86, 90, 91, 92, 95, 99, 100, 102, 103, 104, 105, 106, 107, 112, 113, 114, 115, 116, 117, 151, 158, 159, 160, 161, 162, 163, 164, 166, 168, 190]
theorem W151 : fw_S w151 S151 = true := by decide +kernel
def J151_67 (u1 : Int32) (u2 : Int32) (u3 : Int32) (t0 : Int32) (τ : mS) (w : mX) (σ' : mS) : Prop := ((∃ σ2, fw_e w162 τ σ2 ∧ P162 τ (t0) (.inl none) σ2 ∧ ∃ σ5, σ5 = m_nu σ2 1 0 ∧ ∃ σ8, fw_e w18 σ5 σ8 ∧ P18 σ5 (σ2.1 1) (Int32.ofInt 15) (u1) (u2) (u3) σ8 ∧ ∃ v11 σ12, fw_e w61 σ8 σ12 ∧ P61 σ8 (some (1, σ2.1 1)) v11 σ12 ∧ ∃ v15 σ16, fw_e w158 σ12 σ16 ∧ P158 σ12 (some (1, σ2.1 1)) (v11) v15 σ16 ∧ w = .inl (some (.inr (.inl (v15)))) ∧ σ' = σ16) ∨ (∃ b, P162 τ (t0) (.inr b) σ' ∧ w = .inr b))
theorem j151_67 {F f : Nat} {σ' τ : mS} {u1 : Int32} {u2 : Int32} {u3 : Int32} {t0 : Int32} {y4 : Option mV} {w : mX} (hsτ : HS τ) (h : EV F f 151 z151 67 [some (rf 11 (0)), some (.inl (u1)), some (.inl (u2)), some (.inl (u3)), y4] [.inl (t0)] τ (w, σ')) : J151_67 u1 u2 u3 t0 τ w σ' := by
  unfold J151_67
  replace h := bx_0 (ei_s (as := [.inl (t0)]) h rfl (Nat.le_of_ble_eq_true rfl) rfl rfl) z162_at rfl
  rcases h with ⟨σ2, r3, f, g, h⟩ | ⟨b, σ2, r3, e⟩
  · skip
    clear g
    have p4 := x162 hsτ r3
    have hsσ2 : HS σ2 := HS_run rfl r3 hsτ
    refine Or.inl ⟨σ2, fw_run W162 rfl r3, p4, ?_⟩
    replace h : EV F f 151 z151 70 [some (rf 11 (0)), some (.inl (u1)), some (.inl (u2)), some (.inl (u3)), y4] [] σ2 (w, σ') := h
    replace h := ei_new h rfl (by decide)
    obtain ⟨f, g, h⟩ := h
    clear g
    obtain ⟨σ5, e6⟩ : ∃ s, s = m_nu σ2 1 0 := ⟨_, rfl⟩
    rw [← e6] at h
    have hsσ5 : HS σ5 := by rw [e6]; exact HS_nu hsσ2 (by decide)
    refine ⟨σ5, e6, ?_⟩
    replace h : EV F f 151 z151 73 [some (rf 11 (0)), some (.inl (u1)), some (.inl (u2)), some (.inl (u3)), y4] [rf 1 (σ2.1 1)] σ5 (w, σ') := h
    replace h := ei_p h rfl rfl rfl rfl
    obtain ⟨f, g, h⟩ := h
    clear g
    replace h : EV F f 151 z151 74 [some (rf 11 (0)), some (.inl (u1)), some (.inl (u2)), some (.inl (u3)), y4] [rf 1 (σ2.1 1), rf 1 (σ2.1 1)] σ5 (w, σ') := h
    replace h := ei_p h rfl rfl rfl rfl
    obtain ⟨f, g, h⟩ := h
    clear g
    replace h : EV F f 151 z151 76 [some (rf 11 (0)), some (.inl (u1)), some (.inl (u2)), some (.inl (u3)), y4] [.inl (Int32.ofInt 15), rf 1 (σ2.1 1), rf 1 (σ2.1 1)] σ5 (w, σ') := h
    replace h := ei_p h rfl rfl rfl rfl
    obtain ⟨f, g, h⟩ := h
    clear g
    replace h : EV F f 151 z151 77 [some (rf 11 (0)), some (.inl (u1)), some (.inl (u2)), some (.inl (u3)), y4] [.inl (u1), .inl (Int32.ofInt 15), rf 1 (σ2.1 1), rf 1 (σ2.1 1)] σ5 (w, σ') := h
    replace h := ei_p h rfl rfl rfl rfl
    obtain ⟨f, g, h⟩ := h
    clear g
    replace h : EV F f 151 z151 78 [some (rf 11 (0)), some (.inl (u1)), some (.inl (u2)), some (.inl (u3)), y4] [.inl (u2), .inl (u1), .inl (Int32.ofInt 15), rf 1 (σ2.1 1), rf 1 (σ2.1 1)] σ5 (w, σ') := h
    replace h := ei_p h rfl rfl rfl rfl
    obtain ⟨f, g, h⟩ := h
    clear g
    replace h : EV F f 151 z151 79 [some (rf 11 (0)), some (.inl (u1)), some (.inl (u2)), some (.inl (u3)), y4] [.inl (u3), .inl (u2), .inl (u1), .inl (Int32.ofInt 15), rf 1 (σ2.1 1), rf 1 (σ2.1 1)] σ5 (w, σ') := h
    replace h := bk_0 (ei_x (as := [.inl (u3), .inl (u2), .inl (u1), .inl (Int32.ofInt 15)]) h rfl rfl rfl) rfl z18_at rfl
    obtain ⟨σ8, r9, f, g, h⟩ := h
    clear g
    have p10 := x18 hsσ5 r9
    have hsσ8 : HS σ8 := HS_run rfl r9 hsσ5
    refine ⟨σ8, fw_run W18 rfl r9, p10, ?_⟩
    replace h : EV F f 151 z151 82 [some (rf 11 (0)), some (.inl (u1)), some (.inl (u2)), some (.inl (u3)), y4] [rf 1 (σ2.1 1)] σ8 (w, σ') := h
    replace h := ei_p h rfl rfl rfl rfl
    obtain ⟨f, g, h⟩ := h
    clear g
    replace h : EV F f 151 z151 84 [some (rf 11 (0)), some (.inl (u1)), some (.inl (u2)), some (.inl (u3)), some (rf 1 (σ2.1 1))] [] σ8 (w, σ') := h
    replace h := ei_p h rfl rfl rfl rfl
    obtain ⟨f, g, h⟩ := h
    clear g
    replace h : EV F f 151 z151 85 [some (rf 11 (0)), some (.inl (u1)), some (.inl (u2)), some (.inl (u3)), some (rf 1 (σ2.1 1))] [rf 11 (0)] σ8 (w, σ') := h
    replace h := ei_p h rfl rfl rfl rfl
    obtain ⟨f, g, h⟩ := h
    clear g
    replace h : EV F f 151 z151 87 [some (rf 11 (0)), some (.inl (u1)), some (.inl (u2)), some (.inl (u3)), some (rf 1 (σ2.1 1))] [rf 1 (σ2.1 1), rf 11 (0)] σ8 (w, σ') := h
    replace h := ei_p h rfl rfl rfl rfl
    obtain ⟨f, g, h⟩ := h
    clear g
    replace h : EV F f 151 z151 88 [some (rf 11 (0)), some (.inl (u1)), some (.inl (u2)), some (.inl (u3)), some (rf 1 (σ2.1 1))] [rf 11 (0), rf 1 (σ2.1 1), rf 11 (0)] σ8 (w, σ') := h
    replace h := ei_get h rfl (HS_g11_0 hsσ8)
    obtain ⟨f, g, h⟩ := h
    clear g
    replace h : EV F f 151 z151 91 [some (rf 11 (0)), some (.inl (u1)), some (.inl (u2)), some (.inl (u3)), some (rf 1 (σ2.1 1))] [rf 4 (0), rf 1 (σ2.1 1), rf 11 (0)] σ8 (w, σ') := h
    replace h := ei_p h rfl rfl rfl rfl
    obtain ⟨f, g, h⟩ := h
    clear g
    replace h : EV F f 151 z151 93 [some (rf 11 (0)), some (.inl (u1)), some (.inl (u2)), some (.inl (u3)), some (rf 1 (σ2.1 1))] [rf 1 (σ2.1 1), rf 4 (0), rf 1 (σ2.1 1), rf 11 (0)] σ8 (w, σ') := h
    replace h := bk_L (ei_v (as := [rf 1 (σ2.1 1)]) h rfl rfl rfl) rfl z61_at rfl
    obtain ⟨v11, σ12, r13, f, g, h⟩ := h
    clear g
    have p14 := x61 hsσ8 r13
    have hsσ12 : HS σ12 := HS_run rfl r13 hsσ8
    refine ⟨v11, σ12, fw_run W61 rfl r13, p14, ?_⟩
    replace h : EV F f 151 z151 96 [some (rf 11 (0)), some (.inl (u1)), some (.inl (u2)), some (.inl (u3)), some (rf 1 (σ2.1 1))] [.inr (.inl (v11)), rf 1 (σ2.1 1), rf 11 (0)] σ12 (w, σ') := h
    replace h := bk_L (ei_v (as := [.inr (.inl (v11)), rf 1 (σ2.1 1)]) h rfl rfl rfl) rfl z158_at rfl
    obtain ⟨v15, σ16, r17, f, g, h⟩ := h
    clear g
    have p18 := x158 hsσ12 r17
    have hsσ16 : HS σ16 := HS_run rfl r17 hsσ12
    refine ⟨v15, σ16, fw_run W158 rfl r17, p18, ?_⟩
    replace h : EV F f 151 z151 99 [some (rf 11 (0)), some (.inl (u1)), some (.inl (u2)), some (.inl (u3)), some (rf 1 (σ2.1 1))] [.inr (.inl (v15))] σ16 (w, σ') := h
    have e := ei_lret h rfl
    cases e
    exact ⟨rfl, rfl⟩
  · skip
    have p4 := x162 hsτ r3
    cases e
    exact Or.inr ⟨b, p4, rfl⟩
def J151_66 (u1 : Int32) (u2 : Int32) (u3 : Int32) (τ : mS) (w : mX) (σ' : mS) : Prop := J151_67 (u1) (u2) (u3) (Int32.ofInt 0) τ w σ'
theorem j151_66 {F f : Nat} {σ' τ : mS} {u1 : Int32} {u2 : Int32} {u3 : Int32} {y4 : Option mV} {w : mX} (hsτ : HS τ) (h : EV F f 151 z151 66 [some (rf 11 (0)), some (.inl (u1)), some (.inl (u2)), some (.inl (u3)), y4] [] τ (w, σ')) : J151_66 u1 u2 u3 τ w σ' := by
  unfold J151_66
  replace h := ei_p h rfl rfl rfl rfl
  obtain ⟨f, g, h⟩ := h
  clear g
  replace h : EV F f 151 z151 67 [some (rf 11 (0)), some (.inl (u1)), some (.inl (u2)), some (.inl (u3)), y4] [.inl (Int32.ofInt 0)] τ (w, σ') := h
  exact j151_67 hsτ h
def J151_19 (u1 : Int32) (u2 : Int32) (u3 : Int32) (t0 : Int32) (τ : mS) (w : mX) (σ' : mS) : Prop := ((∃ σ2, fw_e w160 τ σ2 ∧ P160 τ (t0) (.inl none) σ2 ∧ ∃ v5, P168 σ2 (u3) v5 ∧ ((∃ σ10, fw_e w161 σ2 σ10 ∧ P161 σ2 (v5) (.inl none) σ10 ∧ ∃ v13, P90 σ10 (0) (u1) v13 ∧ (((v13).toInt = (Int64.ofNat 0).toInt ∧ J151_66 (u1) (u2) (u3) σ10 w σ') ∨ (¬ ((v13).toInt = (Int64.ofNat 0).toInt) ∧ ∃ v18, P26 σ10 (u2) v18 ∧ (((v18).toInt ≠ (0 : Int) ∧ J151_66 (u1) (u2) (u3) σ10 w σ') ∨ (¬ ((v18).toInt ≠ (0 : Int)) ∧ J151_67 (u1) (u2) (u3) (Int32.ofInt 1) σ10 w σ'))))) ∨ (∃ b, P161 σ2 (v5) (.inr b) σ' ∧ w = .inr b))) ∨ (∃ b, P160 τ (t0) (.inr b) σ' ∧ w = .inr b))
theorem j151_19 {F f : Nat} {σ' τ : mS} {u1 : Int32} {u2 : Int32} {u3 : Int32} {t0 : Int32} {y4 : Option mV} {w : mX} (hsτ : HS τ) (h : EV F f 151 z151 19 [some (rf 11 (0)), some (.inl (u1)), some (.inl (u2)), some (.inl (u3)), y4] [.inl (t0)] τ (w, σ')) : J151_19 u1 u2 u3 t0 τ w σ' := by
  unfold J151_19
  replace h := bx_0 (ei_s (as := [.inl (t0)]) h rfl (Nat.le_of_ble_eq_true rfl) rfl rfl) z160_at rfl
  rcases h with ⟨σ2, r3, f, g, h⟩ | ⟨b, σ2, r3, e⟩
  · skip
    clear g
    have p4 := x160 hsτ r3
    have hsσ2 : HS σ2 := HS_run rfl r3 hsτ
    refine Or.inl ⟨σ2, fw_run W160 rfl r3, p4, ?_⟩
    replace h : EV F f 151 z151 22 [some (rf 11 (0)), some (.inl (u1)), some (.inl (u2)), some (.inl (u3)), y4] [] σ2 (w, σ') := h
    replace h := ei_p h rfl rfl rfl rfl
    obtain ⟨f, g, h⟩ := h
    clear g
    replace h : EV F f 151 z151 23 [some (rf 11 (0)), some (.inl (u1)), some (.inl (u2)), some (.inl (u3)), y4] [.inl (u3)] σ2 (w, σ') := h
    replace h := bk_I (ei_s (as := [.inl (u3)]) h rfl (Nat.le_of_ble_eq_true rfl) rfl rfl) rfl z168_at (Or.inr rfl)
    obtain ⟨v5, σ6, r7, f, g, h⟩ := h
    clear g
    have er7 := ro_run rfl r7
    rw [er7] at h r7
    have p8 := x168 hsσ2 r7
    refine ⟨v5, p8, ?_⟩
    replace h : EV F f 151 z151 26 [some (rf 11 (0)), some (.inl (u1)), some (.inl (u2)), some (.inl (u3)), y4] [.inl (v5)] σ2 (w, σ') := h
    replace h := bx_0 (ei_s (as := [.inl (v5)]) h rfl (Nat.le_of_ble_eq_true rfl) rfl rfl) z161_at rfl
    rcases h with ⟨σ10, r11, f, g, h⟩ | ⟨b, σ10, r11, e⟩
    · skip
      clear g
      have p12 := x161 hsσ2 r11
      have hsσ10 : HS σ10 := HS_run rfl r11 hsσ2
      refine Or.inl ⟨σ10, fw_run W161 rfl r11, p12, ?_⟩
      replace h : EV F f 151 z151 29 [some (rf 11 (0)), some (.inl (u1)), some (.inl (u2)), some (.inl (u3)), y4] [] σ10 (w, σ') := h
      replace h := ei_p h rfl rfl rfl rfl
      obtain ⟨f, g, h⟩ := h
      clear g
      replace h : EV F f 151 z151 30 [some (rf 11 (0)), some (.inl (u1)), some (.inl (u2)), some (.inl (u3)), y4] [rf 11 (0)] σ10 (w, σ') := h
      replace h := ei_get h rfl (HS_g11_0 hsσ10)
      obtain ⟨f, g, h⟩ := h
      clear g
      replace h : EV F f 151 z151 33 [some (rf 11 (0)), some (.inl (u1)), some (.inl (u2)), some (.inl (u3)), y4] [rf 4 (0)] σ10 (w, σ') := h
      replace h := ei_get h rfl (HS_g4_1 hsσ10)
      obtain ⟨f, g, h⟩ := h
      clear g
      replace h : EV F f 151 z151 36 [some (rf 11 (0)), some (.inl (u1)), some (.inl (u2)), some (.inl (u3)), y4] [rf 2 (0)] σ10 (w, σ') := h
      replace h := ei_get h rfl (HS_g2_1 hsσ10)
      obtain ⟨f, g, h⟩ := h
      clear g
      replace h : EV F f 151 z151 39 [some (rf 11 (0)), some (.inl (u1)), some (.inl (u2)), some (.inl (u3)), y4] [rf 6 (0)] σ10 (w, σ') := h
      replace h := ei_p h rfl rfl rfl rfl
      obtain ⟨f, g, h⟩ := h
      clear g
      replace h : EV F f 151 z151 40 [some (rf 11 (0)), some (.inl (u1)), some (.inl (u2)), some (.inl (u3)), y4] [.inl (u1), rf 6 (0)] σ10 (w, σ') := h
      replace h := bk_L (ei_v (as := [.inl (u1)]) h rfl rfl rfl) rfl z90_at rfl
      obtain ⟨v13, σ14, r15, f, g, h⟩ := h
      clear g
      have er15 := ro_run rfl r15
      rw [er15] at h r15
      have p16 := x90 hsσ10 r15
      refine ⟨v13, p16, ?_⟩
      replace h : EV F f 151 z151 43 [some (rf 11 (0)), some (.inl (u1)), some (.inl (u2)), some (.inl (u3)), y4] [.inr (.inl (v13))] σ10 (w, σ') := h
      replace h := ei_p h rfl rfl rfl rfl
      obtain ⟨f, g, h⟩ := h
      clear g
      replace h : EV F f 151 z151 44 [some (rf 11 (0)), some (.inl (u1)), some (.inl (u2)), some (.inl (u3)), y4] [.inr (.inl (Int64.ofNat 0)), .inr (.inl (v13))] σ10 (w, σ') := h
      replace h := ei_p h rfl rfl rfl rfl
      obtain ⟨f, g, h⟩ := h
      clear g
      replace h : EV F f 151 z151 45 [some (rf 11 (0)), some (.inl (u1)), some (.inl (u2)), some (.inl (u3)), y4] [.inl (lg_cmp (v13) (Int64.ofNat 0))] σ10 (w, σ') := h
      replace h := ei_c h rfl rfl rfl
      rcases h with ⟨hp17, f, g, h⟩ | ⟨hp17, f, g, h⟩
      · skip
        replace hp17 : (v13).toInt = (Int64.ofNat 0).toInt := (ab_lc .eq _ _).mp hp17
        refine Or.inl ⟨hp17, ?_⟩
        clear g
        replace h : EV F f 151 z151 66 [some (rf 11 (0)), some (.inl (u1)), some (.inl (u2)), some (.inl (u3)), y4] [] σ10 (w, σ') := h
        exact j151_66 hsσ10 h
      · skip
        replace hp17 : ¬ ((v13).toInt = (Int64.ofNat 0).toInt) := (not_congr (ab_lc .eq _ _)).mp hp17
        refine Or.inr ⟨hp17, ?_⟩
        clear g
        replace h : EV F f 151 z151 48 [some (rf 11 (0)), some (.inl (u1)), some (.inl (u2)), some (.inl (u3)), y4] [] σ10 (w, σ') := h
        replace h := ei_p h rfl rfl rfl rfl
        obtain ⟨f, g, h⟩ := h
        clear g
        replace h : EV F f 151 z151 49 [some (rf 11 (0)), some (.inl (u1)), some (.inl (u2)), some (.inl (u3)), y4] [rf 11 (0)] σ10 (w, σ') := h
        replace h := ei_get h rfl (HS_g11_0 hsσ10)
        obtain ⟨f, g, h⟩ := h
        clear g
        replace h : EV F f 151 z151 52 [some (rf 11 (0)), some (.inl (u1)), some (.inl (u2)), some (.inl (u3)), y4] [rf 4 (0)] σ10 (w, σ') := h
        replace h := ei_get h rfl (HS_g4_1 hsσ10)
        obtain ⟨f, g, h⟩ := h
        clear g
        replace h : EV F f 151 z151 55 [some (rf 11 (0)), some (.inl (u1)), some (.inl (u2)), some (.inl (u3)), y4] [rf 2 (0)] σ10 (w, σ') := h
        replace h := ei_p h rfl rfl rfl rfl
        obtain ⟨f, g, h⟩ := h
        clear g
        replace h : EV F f 151 z151 56 [some (rf 11 (0)), some (.inl (u1)), some (.inl (u2)), some (.inl (u3)), y4] [.inl (u2), rf 2 (0)] σ10 (w, σ') := h
        replace h := bk_I (ei_v (as := [.inl (u2)]) h rfl rfl rfl) rfl z26_at (Or.inr rfl)
        obtain ⟨v18, σ19, r20, f, g, h⟩ := h
        clear g
        have er20 := ro_run rfl r20
        rw [er20] at h r20
        have p21 := x26 hsσ10 r20
        refine ⟨v18, p21, ?_⟩
        replace h : EV F f 151 z151 59 [some (rf 11 (0)), some (.inl (u1)), some (.inl (u2)), some (.inl (u3)), y4] [.inl (v18)] σ10 (w, σ') := h
        replace h := ei_c h rfl rfl rfl
        rcases h with ⟨hp22, f, g, h⟩ | ⟨hp22, f, g, h⟩
        · skip
          replace hp22 : (v18).toInt ≠ (0 : Int) := ic_ne.mp hp22
          refine Or.inl ⟨hp22, ?_⟩
          clear g
          replace h : EV F f 151 z151 66 [some (rf 11 (0)), some (.inl (u1)), some (.inl (u2)), some (.inl (u3)), y4] [] σ10 (w, σ') := h
          exact j151_66 hsσ10 h
        · skip
          replace hp22 : ¬ ((v18).toInt ≠ (0 : Int)) := (not_congr ic_ne).mp hp22
          refine Or.inr ⟨hp22, ?_⟩
          clear g
          replace h : EV F f 151 z151 62 [some (rf 11 (0)), some (.inl (u1)), some (.inl (u2)), some (.inl (u3)), y4] [] σ10 (w, σ') := h
          replace h := ei_p h rfl rfl rfl rfl
          obtain ⟨f, g, h⟩ := h
          clear g
          replace h : EV F f 151 z151 63 [some (rf 11 (0)), some (.inl (u1)), some (.inl (u2)), some (.inl (u3)), y4] [.inl (Int32.ofInt 1)] σ10 (w, σ') := h
          replace h := ei_p h rfl rfl rfl rfl
          obtain ⟨f, g, h⟩ := h
          clear g
          replace h : EV F f 151 z151 67 [some (rf 11 (0)), some (.inl (u1)), some (.inl (u2)), some (.inl (u3)), y4] [.inl (Int32.ofInt 1)] σ10 (w, σ') := h
          exact j151_67 hsσ10 h
    · skip
      have p12 := x161 hsσ2 r11
      cases e
      exact Or.inr ⟨b, p12, rfl⟩
  · skip
    have p4 := x160 hsτ r3
    cases e
    exact Or.inr ⟨b, p4, rfl⟩
def J151_18 (u1 : Int32) (u2 : Int32) (u3 : Int32) (τ : mS) (w : mX) (σ' : mS) : Prop := J151_19 (u1) (u2) (u3) (Int32.ofInt 0) τ w σ'
theorem j151_18 {F f : Nat} {σ' τ : mS} {u1 : Int32} {u2 : Int32} {u3 : Int32} {y4 : Option mV} {w : mX} (hsτ : HS τ) (h : EV F f 151 z151 18 [some (rf 11 (0)), some (.inl (u1)), some (.inl (u2)), some (.inl (u3)), y4] [] τ (w, σ')) : J151_18 u1 u2 u3 τ w σ' := by
  unfold J151_18
  replace h := ei_p h rfl rfl rfl rfl
  obtain ⟨f, g, h⟩ := h
  clear g
  replace h : EV F f 151 z151 19 [some (rf 11 (0)), some (.inl (u1)), some (.inl (u2)), some (.inl (u3)), y4] [.inl (Int32.ofInt 0)] τ (w, σ') := h
  exact j151_19 hsτ h
def P151 (σ : mS) (x1 : Int32) (x2 : Int32) (x3 : Int32) (w : mX) (σ' : mS) : Prop := ∃ v1, P166 σ (x1) v1 ∧ (((v1).toInt = (0 : Int) ∧ J151_18 (x1) (x2) (x3) σ w σ') ∨ (¬ ((v1).toInt = (0 : Int)) ∧ ∃ v6, P164 σ (x2) v6 ∧ (((v6).toInt = (0 : Int) ∧ J151_18 (x1) (x2) (x3) σ w σ') ∨ (¬ ((v6).toInt = (0 : Int)) ∧ J151_19 (x1) (x2) (x3) (Int32.ofInt 1) σ w σ'))))
theorem x151 {σ σ' : mS} {x1 : Int32} {x2 : Int32} {x3 : Int32} {w : mX} (hs : HS σ) (h : ev_run sm_all 151 [rf 11 (0), .inl (x1), .inl (x2), .inl (x3)] σ (w) σ') : P151 σ x1 x2 x3 w σ' := by
  unfold P151
  obtain ⟨F, f, h⟩ := ei_go h z151_at
  replace h : EV F f 151 z151 0 [some (rf 11 (0)), some (.inl (x1)), some (.inl (x2)), some (.inl (x3)), none] [] σ (w, σ') := h
  replace h := ei_p h rfl rfl rfl rfl
  obtain ⟨f, g, h⟩ := h
  clear g
  replace h : EV F f 151 z151 1 [some (rf 11 (0)), some (.inl (x1)), some (.inl (x2)), some (.inl (x3)), none] [.inl (x1)] σ (w, σ') := h
  replace h := bk_I (ei_s (as := [.inl (x1)]) h rfl (Nat.le_of_ble_eq_true rfl) rfl rfl) rfl z166_at (Or.inr rfl)
  obtain ⟨v1, σ2, r3, f, g, h⟩ := h
  clear g
  have er3 := ro_run rfl r3
  rw [er3] at h r3
  have p4 := x166 hs r3
  refine ⟨v1, p4, ?_⟩
  replace h : EV F f 151 z151 4 [some (rf 11 (0)), some (.inl (x1)), some (.inl (x2)), some (.inl (x3)), none] [.inl (v1)] σ (w, σ') := h
  replace h := ei_c h rfl rfl rfl
  rcases h with ⟨hp5, f, g, h⟩ | ⟨hp5, f, g, h⟩
  · skip
    replace hp5 : (v1).toInt = (0 : Int) := ic_eq.mp hp5
    refine Or.inl ⟨hp5, ?_⟩
    clear g
    replace h : EV F f 151 z151 18 [some (rf 11 (0)), some (.inl (x1)), some (.inl (x2)), some (.inl (x3)), none] [] σ (w, σ') := h
    exact j151_18 hs h
  · skip
    replace hp5 : ¬ ((v1).toInt = (0 : Int)) := (not_congr ic_eq).mp hp5
    refine Or.inr ⟨hp5, ?_⟩
    clear g
    replace h : EV F f 151 z151 7 [some (rf 11 (0)), some (.inl (x1)), some (.inl (x2)), some (.inl (x3)), none] [] σ (w, σ') := h
    replace h := ei_p h rfl rfl rfl rfl
    obtain ⟨f, g, h⟩ := h
    clear g
    replace h : EV F f 151 z151 8 [some (rf 11 (0)), some (.inl (x1)), some (.inl (x2)), some (.inl (x3)), none] [.inl (x2)] σ (w, σ') := h
    replace h := bk_I (ei_s (as := [.inl (x2)]) h rfl (Nat.le_of_ble_eq_true rfl) rfl rfl) rfl z164_at (Or.inr rfl)
    obtain ⟨v6, σ7, r8, f, g, h⟩ := h
    clear g
    have er8 := ro_run rfl r8
    rw [er8] at h r8
    have p9 := x164 hs r8
    refine ⟨v6, p9, ?_⟩
    replace h : EV F f 151 z151 11 [some (rf 11 (0)), some (.inl (x1)), some (.inl (x2)), some (.inl (x3)), none] [.inl (v6)] σ (w, σ') := h
    replace h := ei_c h rfl rfl rfl
    rcases h with ⟨hp10, f, g, h⟩ | ⟨hp10, f, g, h⟩
    · skip
      replace hp10 : (v6).toInt = (0 : Int) := ic_eq.mp hp10
      refine Or.inl ⟨hp10, ?_⟩
      clear g
      replace h : EV F f 151 z151 18 [some (rf 11 (0)), some (.inl (x1)), some (.inl (x2)), some (.inl (x3)), none] [] σ (w, σ') := h
      exact j151_18 hs h
    · skip
      replace hp10 : ¬ ((v6).toInt = (0 : Int)) := (not_congr ic_eq).mp hp10
      refine Or.inr ⟨hp10, ?_⟩
      clear g
      replace h : EV F f 151 z151 14 [some (rf 11 (0)), some (.inl (x1)), some (.inl (x2)), some (.inl (x3)), none] [] σ (w, σ') := h
      replace h := ei_p h rfl rfl rfl rfl
      obtain ⟨f, g, h⟩ := h
      clear g
      replace h : EV F f 151 z151 15 [some (rf 11 (0)), some (.inl (x1)), some (.inl (x2)), some (.inl (x3)), none] [.inl (Int32.ofInt 1)] σ (w, σ') := h
      replace h := ei_p h rfl rfl rfl rfl
      obtain ⟨f, g, h⟩ := h
      clear g
      replace h : EV F f 151 z151 19 [some (rf 11 (0)), some (.inl (x1)), some (.inl (x2)), some (.inl (x3)), none] [.inl (Int32.ofInt 1)] σ (w, σ') := h
      exact j151_19 hs h
def z152 : mAl := ((yX11_settle, cX11_settle, 2, (some .long), { frames := 7, cells := 2, slots := 15, locals := 190 }, []), rw_X11_settle, false)
theorem z152_at : m_alF[152]? = some z152 := rfl
abbrev L152 : List (Nat × Nat) := [(0, 1), (0, 2), (1, 0), (1, 1), (1, 2), (1, 3), (1, 4), (1, 5), (1, 6), (1, 7), (1, 8), (1, 9), (1, 10), (1, 11), (1, 12), (1, 13), (1, 14), (1, 15), (2, 5), (2, 6), (2, 7), (2, 8), (2, 9), (2, 10), (3, 3), (3, 4), (3, 5), (5, 2), (6, 2), (6, 3), (6, 4), (6, 5), (6, 6), (6, 7), (6, 8), (6, 9), (6, 10), (7, 1), (7, 2), (7, 3), (7, 4), (7, 5), (7, 6), (7, 7), (7, 8), (7, 9), (7, 10), (7, 11), (7, 12), (8, 1), (8, 2), (8, 3), (8, 4), (8, 5), (8, 6), (8, 7), (8, 8), (10, 0), (10, 1), (10, 2), (10, 3), (10, 4), (10, 5), (10, 6), (10, 7), (10, 8), (10, 9), (11, 3), (11, 4), (11, 5), (13, 0), (14, 0)]
abbrev w152 : Nat → Nat → Bool := wl L152
def S152 : List Nat := [3, 4, 5, 6, 8, 9, 10, 11, 12, 13, 14, 15, 16, 18, 22, 23, 24, 25, 27, 28, 29, 30, 31, 32, 34, 35, 36, 37, 38, 39, 40, 41, 42, 43, 44, 45, 46, 47, 48, 51, 53, 54, 61, 62, 63, 64, 65, 66, 67, 68, 69, 70, 71, 72, 73, 74, 75, 76, 78, 79, 80, 81, 82, 83, 85, 86, 90, 91, 92, 95, 99, 100, 102, 103, 104, 105, 106, 107, 112, 113, 114, 115, 116, 117, 152, 158, 159, 162, 190]
theorem W152 : fw_S w152 S152 = true := by decide +kernel
def P152 (σ : mS) (w : mX) (σ' : mS) : Prop := ((m_r σ 2 (0) 9 = none ∧ ((∃ σ5, fw_e w162 σ σ5 ∧ P162 σ (Int32.ofInt 0) (.inl none) σ5 ∧ ∃ σ8, σ8 = m_nu σ5 1 0 ∧ ∃ σ11, fw_e w18 σ8 σ11 ∧ P18 σ8 (σ5.1 1) (Int32.ofInt 16) (Int32.ofInt 0) (Int32.ofInt 0) (Int32.ofInt 0) σ11 ∧ ∃ v14 σ15, fw_e w61 σ11 σ15 ∧ P61 σ11 (some (1, σ5.1 1)) v14 σ15 ∧ ∃ v18 σ19, fw_e w158 σ15 σ19 ∧ P158 σ15 (some (1, σ5.1 1)) (v14) v18 σ19 ∧ w = .inl (some (.inr (.inl (v18)))) ∧ σ' = σ19) ∨ (∃ b, P162 σ (Int32.ofInt 0) (.inr b) σ' ∧ w = .inr b))) ∨ (∃ q2, m_r σ 2 (0) 9 = some q2 ∧ ((∃ σ24, fw_e w162 σ σ24 ∧ P162 σ (Int32.ofInt 1) (.inl none) σ24 ∧ ∃ σ27, σ27 = m_nu σ24 1 0 ∧ ∃ σ30, fw_e w18 σ27 σ30 ∧ P18 σ27 (σ24.1 1) (Int32.ofInt 16) (Int32.ofInt 0) (Int32.ofInt 0) (Int32.ofInt 0) σ30 ∧ ∃ v33 σ34, fw_e w61 σ30 σ34 ∧ P61 σ30 (some (1, σ24.1 1)) v33 σ34 ∧ ∃ v37 σ38, fw_e w158 σ34 σ38 ∧ P158 σ34 (some (1, σ24.1 1)) (v33) v37 σ38 ∧ w = .inl (some (.inr (.inl (v37)))) ∧ σ' = σ38) ∨ (∃ b, P162 σ (Int32.ofInt 1) (.inr b) σ' ∧ w = .inr b))))
theorem x152 {σ σ' : mS} {w : mX} (hs : HS σ) (h : ev_run sm_all 152 [rf 11 (0)] σ (w) σ') : P152 σ w σ' := by
  unfold P152
  obtain ⟨F, f, h⟩ := ei_go h z152_at
  replace h : EV F f 152 z152 0 [some (rf 11 (0)), none] [] σ (w, σ') := h
  replace h := ei_p h rfl rfl rfl rfl
  obtain ⟨f, g, h⟩ := h
  clear g
  replace h : EV F f 152 z152 1 [some (rf 11 (0)), none] [rf 11 (0)] σ (w, σ') := h
  replace h := ei_get h rfl (HS_g11_0 hs)
  obtain ⟨f, g, h⟩ := h
  clear g
  replace h : EV F f 152 z152 4 [some (rf 11 (0)), none] [rf 4 (0)] σ (w, σ') := h
  replace h := ei_get h rfl (HS_g4_1 hs)
  obtain ⟨f, g, h⟩ := h
  clear g
  replace h : EV F f 152 z152 7 [some (rf 11 (0)), none] [rf 2 (0)] σ (w, σ') := h
  replace h := ei_get h rfl rfl
  obtain ⟨f, g, h⟩ := h
  clear g
  replace h : EV F f 152 z152 10 [some (rf 11 (0)), none] [.inr (.inr (m_r σ 2 (0) 9))] σ (w, σ') := h
  rcases r_cs (m_r σ 2 (0) 9) with e1 | ⟨q2, e1⟩
  · skip
    rw [e1] at h
    refine Or.inl ⟨e1, ?_⟩
    replace h : EV F f 152 z152 10 [some (rf 11 (0)), none] [.inr (.inr none)] σ (w, σ') := h
    replace h := ei_c h rfl rfl rfl
    rcases h with ⟨hp3, f, g, h⟩ | ⟨hp3, f, g, h⟩
    · skip
      clear g
      replace h : EV F f 152 z152 17 [some (rf 11 (0)), none] [] σ (w, σ') := h
      replace h := ei_p h rfl rfl rfl rfl
      obtain ⟨f, g, h⟩ := h
      clear g
      replace h : EV F f 152 z152 18 [some (rf 11 (0)), none] [.inl (Int32.ofInt 0)] σ (w, σ') := h
      replace h := bx_0 (ei_s (as := [.inl (Int32.ofInt 0)]) h rfl (Nat.le_of_ble_eq_true rfl) rfl rfl) z162_at rfl
      rcases h with ⟨σ5, r6, f, g, h⟩ | ⟨b, σ5, r6, e⟩
      · skip
        clear g
        have p7 := x162 hs r6
        have hsσ5 : HS σ5 := HS_run rfl r6 hs
        refine Or.inl ⟨σ5, fw_run W162 rfl r6, p7, ?_⟩
        replace h : EV F f 152 z152 21 [some (rf 11 (0)), none] [] σ5 (w, σ') := h
        replace h := ei_new h rfl (by decide)
        obtain ⟨f, g, h⟩ := h
        clear g
        obtain ⟨σ8, e9⟩ : ∃ s, s = m_nu σ5 1 0 := ⟨_, rfl⟩
        rw [← e9] at h
        have hsσ8 : HS σ8 := by rw [e9]; exact HS_nu hsσ5 (by decide)
        refine ⟨σ8, e9, ?_⟩
        replace h : EV F f 152 z152 24 [some (rf 11 (0)), none] [rf 1 (σ5.1 1)] σ8 (w, σ') := h
        replace h := ei_p h rfl rfl rfl rfl
        obtain ⟨f, g, h⟩ := h
        clear g
        replace h : EV F f 152 z152 25 [some (rf 11 (0)), none] [rf 1 (σ5.1 1), rf 1 (σ5.1 1)] σ8 (w, σ') := h
        replace h := ei_p h rfl rfl rfl rfl
        obtain ⟨f, g, h⟩ := h
        clear g
        replace h : EV F f 152 z152 27 [some (rf 11 (0)), none] [.inl (Int32.ofInt 16), rf 1 (σ5.1 1), rf 1 (σ5.1 1)] σ8 (w, σ') := h
        replace h := ei_p h rfl rfl rfl rfl
        obtain ⟨f, g, h⟩ := h
        clear g
        replace h : EV F f 152 z152 28 [some (rf 11 (0)), none] [.inl (Int32.ofInt 0), .inl (Int32.ofInt 16), rf 1 (σ5.1 1), rf 1 (σ5.1 1)] σ8 (w, σ') := h
        replace h := ei_p h rfl rfl rfl rfl
        obtain ⟨f, g, h⟩ := h
        clear g
        replace h : EV F f 152 z152 29 [some (rf 11 (0)), none] [.inl (Int32.ofInt 0), .inl (Int32.ofInt 0), .inl (Int32.ofInt 16), rf 1 (σ5.1 1), rf 1 (σ5.1 1)] σ8 (w, σ') := h
        replace h := ei_p h rfl rfl rfl rfl
        obtain ⟨f, g, h⟩ := h
        clear g
        replace h : EV F f 152 z152 30 [some (rf 11 (0)), none] [.inl (Int32.ofInt 0), .inl (Int32.ofInt 0), .inl (Int32.ofInt 0), .inl (Int32.ofInt 16), rf 1 (σ5.1 1), rf 1 (σ5.1 1)] σ8 (w, σ') := h
        replace h := bk_0 (ei_x (as := [.inl (Int32.ofInt 0), .inl (Int32.ofInt 0), .inl (Int32.ofInt 0), .inl (Int32.ofInt 16)]) h rfl rfl rfl) rfl z18_at rfl
        obtain ⟨σ11, r12, f, g, h⟩ := h
        clear g
        have p13 := x18 hsσ8 r12
        have hsσ11 : HS σ11 := HS_run rfl r12 hsσ8
        refine ⟨σ11, fw_run W18 rfl r12, p13, ?_⟩
        replace h : EV F f 152 z152 33 [some (rf 11 (0)), none] [rf 1 (σ5.1 1)] σ11 (w, σ') := h
        replace h := ei_p h rfl rfl rfl rfl
        obtain ⟨f, g, h⟩ := h
        clear g
        replace h : EV F f 152 z152 34 [some (rf 11 (0)), some (rf 1 (σ5.1 1))] [] σ11 (w, σ') := h
        replace h := ei_p h rfl rfl rfl rfl
        obtain ⟨f, g, h⟩ := h
        clear g
        replace h : EV F f 152 z152 35 [some (rf 11 (0)), some (rf 1 (σ5.1 1))] [rf 11 (0)] σ11 (w, σ') := h
        replace h := ei_p h rfl rfl rfl rfl
        obtain ⟨f, g, h⟩ := h
        clear g
        replace h : EV F f 152 z152 36 [some (rf 11 (0)), some (rf 1 (σ5.1 1))] [rf 1 (σ5.1 1), rf 11 (0)] σ11 (w, σ') := h
        replace h := ei_p h rfl rfl rfl rfl
        obtain ⟨f, g, h⟩ := h
        clear g
        replace h : EV F f 152 z152 37 [some (rf 11 (0)), some (rf 1 (σ5.1 1))] [rf 11 (0), rf 1 (σ5.1 1), rf 11 (0)] σ11 (w, σ') := h
        replace h := ei_get h rfl (HS_g11_0 hsσ11)
        obtain ⟨f, g, h⟩ := h
        clear g
        replace h : EV F f 152 z152 40 [some (rf 11 (0)), some (rf 1 (σ5.1 1))] [rf 4 (0), rf 1 (σ5.1 1), rf 11 (0)] σ11 (w, σ') := h
        replace h := ei_p h rfl rfl rfl rfl
        obtain ⟨f, g, h⟩ := h
        clear g
        replace h : EV F f 152 z152 41 [some (rf 11 (0)), some (rf 1 (σ5.1 1))] [rf 1 (σ5.1 1), rf 4 (0), rf 1 (σ5.1 1), rf 11 (0)] σ11 (w, σ') := h
        replace h := bk_L (ei_v (as := [rf 1 (σ5.1 1)]) h rfl rfl rfl) rfl z61_at rfl
        obtain ⟨v14, σ15, r16, f, g, h⟩ := h
        clear g
        have p17 := x61 hsσ11 r16
        have hsσ15 : HS σ15 := HS_run rfl r16 hsσ11
        refine ⟨v14, σ15, fw_run W61 rfl r16, p17, ?_⟩
        replace h : EV F f 152 z152 44 [some (rf 11 (0)), some (rf 1 (σ5.1 1))] [.inr (.inl (v14)), rf 1 (σ5.1 1), rf 11 (0)] σ15 (w, σ') := h
        replace h := bk_L (ei_v (as := [.inr (.inl (v14)), rf 1 (σ5.1 1)]) h rfl rfl rfl) rfl z158_at rfl
        obtain ⟨v18, σ19, r20, f, g, h⟩ := h
        clear g
        have p21 := x158 hsσ15 r20
        have hsσ19 : HS σ19 := HS_run rfl r20 hsσ15
        refine ⟨v18, σ19, fw_run W158 rfl r20, p21, ?_⟩
        replace h : EV F f 152 z152 47 [some (rf 11 (0)), some (rf 1 (σ5.1 1))] [.inr (.inl (v18))] σ19 (w, σ') := h
        have e := ei_lret h rfl
        cases e
        exact ⟨rfl, rfl⟩
      · skip
        have p7 := x162 hs r6
        cases e
        exact Or.inr ⟨b, p7, rfl⟩
    · exact absurd rfl hp3
  · skip
    rw [e1] at h
    refine Or.inr ⟨q2, e1, ?_⟩
    replace h : EV F f 152 z152 10 [some (rf 11 (0)), none] [.inr (.inr (some q2))] σ (w, σ') := h
    replace h := ei_c h rfl rfl rfl
    rcases h with ⟨hp22, f, g, h⟩ | ⟨hp22, f, g, h⟩
    · exact absurd hp22 (fun z => by cases z)
    · skip
      clear g
      replace h : EV F f 152 z152 13 [some (rf 11 (0)), none] [] σ (w, σ') := h
      replace h := ei_p h rfl rfl rfl rfl
      obtain ⟨f, g, h⟩ := h
      clear g
      replace h : EV F f 152 z152 14 [some (rf 11 (0)), none] [.inl (Int32.ofInt 1)] σ (w, σ') := h
      replace h := ei_p h rfl rfl rfl rfl
      obtain ⟨f, g, h⟩ := h
      clear g
      replace h : EV F f 152 z152 18 [some (rf 11 (0)), none] [.inl (Int32.ofInt 1)] σ (w, σ') := h
      replace h := bx_0 (ei_s (as := [.inl (Int32.ofInt 1)]) h rfl (Nat.le_of_ble_eq_true rfl) rfl rfl) z162_at rfl
      rcases h with ⟨σ24, r25, f, g, h⟩ | ⟨b, σ24, r25, e⟩
      · skip
        clear g
        have p26 := x162 hs r25
        have hsσ24 : HS σ24 := HS_run rfl r25 hs
        refine Or.inl ⟨σ24, fw_run W162 rfl r25, p26, ?_⟩
        replace h : EV F f 152 z152 21 [some (rf 11 (0)), none] [] σ24 (w, σ') := h
        replace h := ei_new h rfl (by decide)
        obtain ⟨f, g, h⟩ := h
        clear g
        obtain ⟨σ27, e28⟩ : ∃ s, s = m_nu σ24 1 0 := ⟨_, rfl⟩
        rw [← e28] at h
        have hsσ27 : HS σ27 := by rw [e28]; exact HS_nu hsσ24 (by decide)
        refine ⟨σ27, e28, ?_⟩
        replace h : EV F f 152 z152 24 [some (rf 11 (0)), none] [rf 1 (σ24.1 1)] σ27 (w, σ') := h
        replace h := ei_p h rfl rfl rfl rfl
        obtain ⟨f, g, h⟩ := h
        clear g
        replace h : EV F f 152 z152 25 [some (rf 11 (0)), none] [rf 1 (σ24.1 1), rf 1 (σ24.1 1)] σ27 (w, σ') := h
        replace h := ei_p h rfl rfl rfl rfl
        obtain ⟨f, g, h⟩ := h
        clear g
        replace h : EV F f 152 z152 27 [some (rf 11 (0)), none] [.inl (Int32.ofInt 16), rf 1 (σ24.1 1), rf 1 (σ24.1 1)] σ27 (w, σ') := h
        replace h := ei_p h rfl rfl rfl rfl
        obtain ⟨f, g, h⟩ := h
        clear g
        replace h : EV F f 152 z152 28 [some (rf 11 (0)), none] [.inl (Int32.ofInt 0), .inl (Int32.ofInt 16), rf 1 (σ24.1 1), rf 1 (σ24.1 1)] σ27 (w, σ') := h
        replace h := ei_p h rfl rfl rfl rfl
        obtain ⟨f, g, h⟩ := h
        clear g
        replace h : EV F f 152 z152 29 [some (rf 11 (0)), none] [.inl (Int32.ofInt 0), .inl (Int32.ofInt 0), .inl (Int32.ofInt 16), rf 1 (σ24.1 1), rf 1 (σ24.1 1)] σ27 (w, σ') := h
        replace h := ei_p h rfl rfl rfl rfl
        obtain ⟨f, g, h⟩ := h
        clear g
        replace h : EV F f 152 z152 30 [some (rf 11 (0)), none] [.inl (Int32.ofInt 0), .inl (Int32.ofInt 0), .inl (Int32.ofInt 0), .inl (Int32.ofInt 16), rf 1 (σ24.1 1), rf 1 (σ24.1 1)] σ27 (w, σ') := h
        replace h := bk_0 (ei_x (as := [.inl (Int32.ofInt 0), .inl (Int32.ofInt 0), .inl (Int32.ofInt 0), .inl (Int32.ofInt 16)]) h rfl rfl rfl) rfl z18_at rfl
        obtain ⟨σ30, r31, f, g, h⟩ := h
        clear g
        have p32 := x18 hsσ27 r31
        have hsσ30 : HS σ30 := HS_run rfl r31 hsσ27
        refine ⟨σ30, fw_run W18 rfl r31, p32, ?_⟩
        replace h : EV F f 152 z152 33 [some (rf 11 (0)), none] [rf 1 (σ24.1 1)] σ30 (w, σ') := h
        replace h := ei_p h rfl rfl rfl rfl
        obtain ⟨f, g, h⟩ := h
        clear g
        replace h : EV F f 152 z152 34 [some (rf 11 (0)), some (rf 1 (σ24.1 1))] [] σ30 (w, σ') := h
        replace h := ei_p h rfl rfl rfl rfl
        obtain ⟨f, g, h⟩ := h
        clear g
        replace h : EV F f 152 z152 35 [some (rf 11 (0)), some (rf 1 (σ24.1 1))] [rf 11 (0)] σ30 (w, σ') := h
        replace h := ei_p h rfl rfl rfl rfl
        obtain ⟨f, g, h⟩ := h
        clear g
        replace h : EV F f 152 z152 36 [some (rf 11 (0)), some (rf 1 (σ24.1 1))] [rf 1 (σ24.1 1), rf 11 (0)] σ30 (w, σ') := h
        replace h := ei_p h rfl rfl rfl rfl
        obtain ⟨f, g, h⟩ := h
        clear g
        replace h : EV F f 152 z152 37 [some (rf 11 (0)), some (rf 1 (σ24.1 1))] [rf 11 (0), rf 1 (σ24.1 1), rf 11 (0)] σ30 (w, σ') := h
        replace h := ei_get h rfl (HS_g11_0 hsσ30)
        obtain ⟨f, g, h⟩ := h
        clear g
        replace h : EV F f 152 z152 40 [some (rf 11 (0)), some (rf 1 (σ24.1 1))] [rf 4 (0), rf 1 (σ24.1 1), rf 11 (0)] σ30 (w, σ') := h
        replace h := ei_p h rfl rfl rfl rfl
        obtain ⟨f, g, h⟩ := h
        clear g
        replace h : EV F f 152 z152 41 [some (rf 11 (0)), some (rf 1 (σ24.1 1))] [rf 1 (σ24.1 1), rf 4 (0), rf 1 (σ24.1 1), rf 11 (0)] σ30 (w, σ') := h
        replace h := bk_L (ei_v (as := [rf 1 (σ24.1 1)]) h rfl rfl rfl) rfl z61_at rfl
        obtain ⟨v33, σ34, r35, f, g, h⟩ := h
        clear g
        have p36 := x61 hsσ30 r35
        have hsσ34 : HS σ34 := HS_run rfl r35 hsσ30
        refine ⟨v33, σ34, fw_run W61 rfl r35, p36, ?_⟩
        replace h : EV F f 152 z152 44 [some (rf 11 (0)), some (rf 1 (σ24.1 1))] [.inr (.inl (v33)), rf 1 (σ24.1 1), rf 11 (0)] σ34 (w, σ') := h
        replace h := bk_L (ei_v (as := [.inr (.inl (v33)), rf 1 (σ24.1 1)]) h rfl rfl rfl) rfl z158_at rfl
        obtain ⟨v37, σ38, r39, f, g, h⟩ := h
        clear g
        have p40 := x158 hsσ34 r39
        have hsσ38 : HS σ38 := HS_run rfl r39 hsσ34
        refine ⟨v37, σ38, fw_run W158 rfl r39, p40, ?_⟩
        replace h : EV F f 152 z152 47 [some (rf 11 (0)), some (rf 1 (σ24.1 1))] [.inr (.inl (v37))] σ38 (w, σ') := h
        have e := ei_lret h rfl
        cases e
        exact ⟨rfl, rfl⟩
      · skip
        have p26 := x162 hs r25
        cases e
        exact Or.inr ⟨b, p26, rfl⟩
def z153 : mAl := ((yX11_read, cX11_read, 3, (some .int), { frames := 6, cells := 1, slots := 6, locals := 90 }, []), rw_X11_read, false)
theorem z153_at : m_alF[153]? = some z153 := rfl
abbrev L153 : List (Nat × Nat) := [(5, 2), (9, 1), (13, 0)]
abbrev w153 : Nat → Nat → Bool := wl L153
def S153 : List Nat := [52, 55, 80, 81, 82, 83, 153, 190]
theorem W153 : fw_S w153 S153 = true := by decide +kernel
def P153 (σ : mS) (x1 : Int32) (w : mX) (σ' : mS) : Prop := ∃ v1 σ2, fw_e w52 σ σ2 ∧ P52 σ (x1) v1 σ2 ∧ ((v1 = none ∧ (w = .inr 0 ∧ σ' = σ2)) ∨ (∃ q6, v1 = some q6 ∧ ∃ v9 σ10, fw_e w55 σ2 σ10 ∧ P55 σ2 (some q6) v9 σ10 ∧ w = .inl (some (.inl (v9))) ∧ σ' = σ10))
theorem x153 {σ σ' : mS} {x1 : Int32} {w : mX} (hs : HS σ) (h : ev_run sm_all 153 [rf 11 (0), .inl (x1)] σ (w) σ') : P153 σ x1 w σ' := by
  unfold P153
  obtain ⟨F, f, h⟩ := ei_go h z153_at
  replace h : EV F f 153 z153 0 [some (rf 11 (0)), some (.inl (x1)), none] [] σ (w, σ') := h
  replace h := ei_p h rfl rfl rfl rfl
  obtain ⟨f, g, h⟩ := h
  clear g
  replace h : EV F f 153 z153 1 [some (rf 11 (0)), some (.inl (x1)), none] [rf 11 (0)] σ (w, σ') := h
  replace h := ei_get h rfl (HS_g11_1 hs)
  obtain ⟨f, g, h⟩ := h
  clear g
  replace h : EV F f 153 z153 4 [some (rf 11 (0)), some (.inl (x1)), none] [rf 3 (0)] σ (w, σ') := h
  replace h := ei_p h rfl rfl rfl rfl
  obtain ⟨f, g, h⟩ := h
  clear g
  replace h : EV F f 153 z153 5 [some (rf 11 (0)), some (.inl (x1)), none] [.inl (x1), rf 3 (0)] σ (w, σ') := h
  replace h := bk_R (ei_v (as := [.inl (x1)]) h rfl rfl rfl) rfl z52_at rfl
  obtain ⟨v1, σ2, r3, f, g, h⟩ := h
  clear g
  have p4 := x52 hs r3
  have hsσ2 : HS σ2 := HS_run rfl r3 hs
  refine ⟨v1, σ2, fw_run W52 rfl r3, p4, ?_⟩
  replace h : EV F f 153 z153 8 [some (rf 11 (0)), some (.inl (x1)), none] [.inr (.inr (v1))] σ2 (w, σ') := h
  replace h := ei_p h rfl rfl rfl rfl
  obtain ⟨f, g, h⟩ := h
  clear g
  replace h : EV F f 153 z153 9 [some (rf 11 (0)), some (.inl (x1)), some (.inr (.inr (v1)))] [] σ2 (w, σ') := h
  replace h := ei_p h rfl rfl rfl rfl
  obtain ⟨f, g, h⟩ := h
  clear g
  replace h : EV F f 153 z153 10 [some (rf 11 (0)), some (.inl (x1)), some (.inr (.inr (v1)))] [.inr (.inr (v1))] σ2 (w, σ') := h
  rcases r_cs (v1) with e5 | ⟨q6, e5⟩
  · skip
    rw [e5] at h
    refine Or.inl ⟨e5, ?_⟩
    replace h : EV F f 153 z153 10 [some (rf 11 (0)), some (.inl (x1)), some (.inr (.inr none))] [.inr (.inr none)] σ2 (w, σ') := h
    replace h := ei_c h rfl rfl rfl
    rcases h with ⟨hp7, f, g, h⟩ | ⟨hp7, f, g, h⟩
    · exact absurd rfl hp7
    · skip
      clear g
      replace h : EV F f 153 z153 13 [some (rf 11 (0)), some (.inl (x1)), some (.inr (.inr none))] [] σ2 (w, σ') := h
      have e := ei_thr h rfl (by decide)
      cases e
      exact ⟨rfl, rfl⟩
  · skip
    rw [e5] at h
    refine Or.inr ⟨q6, e5, ?_⟩
    replace h : EV F f 153 z153 10 [some (rf 11 (0)), some (.inl (x1)), some (.inr (.inr (some q6)))] [.inr (.inr (some q6))] σ2 (w, σ') := h
    replace h := ei_c h rfl rfl rfl
    rcases h with ⟨hp8, f, g, h⟩ | ⟨hp8, f, g, h⟩
    · skip
      clear g
      replace h : EV F f 153 z153 23 [some (rf 11 (0)), some (.inl (x1)), some (.inr (.inr (some q6)))] [] σ2 (w, σ') := h
      replace h := ei_p h rfl rfl rfl rfl
      obtain ⟨f, g, h⟩ := h
      clear g
      replace h : EV F f 153 z153 24 [some (rf 11 (0)), some (.inl (x1)), some (.inr (.inr (some q6)))] [rf 11 (0)] σ2 (w, σ') := h
      replace h := ei_get h rfl (HS_g11_1 hsσ2)
      obtain ⟨f, g, h⟩ := h
      clear g
      replace h : EV F f 153 z153 27 [some (rf 11 (0)), some (.inl (x1)), some (.inr (.inr (some q6)))] [rf 3 (0)] σ2 (w, σ') := h
      replace h := ei_p h rfl rfl rfl rfl
      obtain ⟨f, g, h⟩ := h
      clear g
      replace h : EV F f 153 z153 28 [some (rf 11 (0)), some (.inl (x1)), some (.inr (.inr (some q6)))] [.inr (.inr (some q6)), rf 3 (0)] σ2 (w, σ') := h
      replace h := bk_I (ei_v (as := [.inr (.inr (some q6))]) h rfl rfl rfl) rfl z55_at (Or.inl rfl)
      obtain ⟨v9, σ10, r11, f, g, h⟩ := h
      clear g
      have p12 := x55 hsσ2 r11
      have hsσ10 : HS σ10 := HS_run rfl r11 hsσ2
      refine ⟨v9, σ10, fw_run W55 rfl r11, p12, ?_⟩
      replace h : EV F f 153 z153 31 [some (rf 11 (0)), some (.inl (x1)), some (.inr (.inr (some q6)))] [.inl (v9)] σ10 (w, σ') := h
      have e := ei_iret h rfl
      cases e
      exact ⟨rfl, rfl⟩
    · exact absurd (fun z => by cases z) hp8
def z154 : mAl := ((yX11_lose, cX11_lose, 3, (some .int), { frames := 7, cells := 2, slots := 12, locals := 110 }, []), rw_X11_lose, false)
theorem z154_at : m_alF[154]? = some z154 := rfl
abbrev L154 : List (Nat × Nat) := [(9, 1)]
abbrev w154 : Nat → Nat → Bool := wl L154
def S154 : List Nat := [52, 56, 154, 162]
theorem W154 : fw_S w154 S154 = true := by decide +kernel
def J154_42 (u2 : mR) (t0 : Int32) (τ : mS) (w : mX) (σ' : mS) : Prop := ((∃ σ2, fw_e w162 τ σ2 ∧ P162 τ (t0) (.inl none) σ2 ∧ ∃ v5 σ6, fw_e w56 σ2 σ6 ∧ P56 σ2 (u2) v5 σ6 ∧ w = .inl (some (.inl (v5))) ∧ σ' = σ6) ∨ (∃ b, P162 τ (t0) (.inr b) σ' ∧ w = .inr b))
theorem j154_42 {F f : Nat} {σ' τ : mS} {u2 : mR} {t0 : Int32} {y1 : Option mV} {w : mX} (hsτ : HS τ) (h : EV F f 154 z154 42 [some (rf 11 (0)), y1, some (.inr (.inr (u2)))] [.inl (t0)] τ (w, σ')) : J154_42 u2 t0 τ w σ' := by
  unfold J154_42
  replace h := bx_0 (ei_s (as := [.inl (t0)]) h rfl (Nat.le_of_ble_eq_true rfl) rfl rfl) z162_at rfl
  rcases h with ⟨σ2, r3, f, g, h⟩ | ⟨b, σ2, r3, e⟩
  · skip
    clear g
    have p4 := x162 hsτ r3
    have hsσ2 : HS σ2 := HS_run rfl r3 hsτ
    refine Or.inl ⟨σ2, fw_run W162 rfl r3, p4, ?_⟩
    replace h : EV F f 154 z154 45 [some (rf 11 (0)), y1, some (.inr (.inr (u2)))] [] σ2 (w, σ') := h
    replace h := ei_p h rfl rfl rfl rfl
    obtain ⟨f, g, h⟩ := h
    clear g
    replace h : EV F f 154 z154 46 [some (rf 11 (0)), y1, some (.inr (.inr (u2)))] [rf 11 (0)] σ2 (w, σ') := h
    replace h := ei_get h rfl (HS_g11_1 hsσ2)
    obtain ⟨f, g, h⟩ := h
    clear g
    replace h : EV F f 154 z154 49 [some (rf 11 (0)), y1, some (.inr (.inr (u2)))] [rf 3 (0)] σ2 (w, σ') := h
    replace h := ei_p h rfl rfl rfl rfl
    obtain ⟨f, g, h⟩ := h
    clear g
    replace h : EV F f 154 z154 50 [some (rf 11 (0)), y1, some (.inr (.inr (u2)))] [.inr (.inr (u2)), rf 3 (0)] σ2 (w, σ') := h
    replace h := bk_I (ei_v (as := [.inr (.inr (u2))]) h rfl rfl rfl) rfl z56_at (Or.inl rfl)
    obtain ⟨v5, σ6, r7, f, g, h⟩ := h
    clear g
    have p8 := x56 hsσ2 r7
    have hsσ6 : HS σ6 := HS_run rfl r7 hsσ2
    refine ⟨v5, σ6, fw_run W56 rfl r7, p8, ?_⟩
    replace h : EV F f 154 z154 53 [some (rf 11 (0)), y1, some (.inr (.inr (u2)))] [.inl (v5)] σ6 (w, σ') := h
    have e := ei_iret h rfl
    cases e
    exact ⟨rfl, rfl⟩
  · skip
    have p4 := x162 hsτ r3
    cases e
    exact Or.inr ⟨b, p4, rfl⟩
def P154 (σ : mS) (x1 : Int32) (w : mX) (σ' : mS) : Prop := ∃ v1 σ2, fw_e w52 σ σ2 ∧ P52 σ (x1) v1 σ2 ∧ ((v1 = none ∧ (w = .inr 0 ∧ σ' = σ2)) ∨ (∃ q6, v1 = some q6 ∧ ∃ i9, (some q6 : mR) = some (9, i9) ∧ (((m_i σ2 3 (0) 5).toInt ≤ (m_i σ2 9 (i9) 1).toInt ∧ J154_42 (some (9, i9)) (Int32.ofInt 0) σ2 w σ') ∨ (¬ ((m_i σ2 3 (0) 5).toInt ≤ (m_i σ2 9 (i9) 1).toInt) ∧ J154_42 (some (9, i9)) (Int32.ofInt 1) σ2 w σ'))))
theorem x154 {σ σ' : mS} {x1 : Int32} {w : mX} (hs : HS σ) (h : ev_run sm_all 154 [rf 11 (0), .inl (x1)] σ (w) σ') : P154 σ x1 w σ' := by
  unfold P154
  obtain ⟨F, f, h⟩ := ei_go h z154_at
  replace h : EV F f 154 z154 0 [some (rf 11 (0)), some (.inl (x1)), none] [] σ (w, σ') := h
  replace h := ei_p h rfl rfl rfl rfl
  obtain ⟨f, g, h⟩ := h
  clear g
  replace h : EV F f 154 z154 1 [some (rf 11 (0)), some (.inl (x1)), none] [rf 11 (0)] σ (w, σ') := h
  replace h := ei_get h rfl (HS_g11_1 hs)
  obtain ⟨f, g, h⟩ := h
  clear g
  replace h : EV F f 154 z154 4 [some (rf 11 (0)), some (.inl (x1)), none] [rf 3 (0)] σ (w, σ') := h
  replace h := ei_p h rfl rfl rfl rfl
  obtain ⟨f, g, h⟩ := h
  clear g
  replace h : EV F f 154 z154 5 [some (rf 11 (0)), some (.inl (x1)), none] [.inl (x1), rf 3 (0)] σ (w, σ') := h
  replace h := bk_R (ei_v (as := [.inl (x1)]) h rfl rfl rfl) rfl z52_at rfl
  obtain ⟨v1, σ2, r3, f, g, h⟩ := h
  clear g
  have p4 := x52 hs r3
  have hsσ2 : HS σ2 := HS_run rfl r3 hs
  refine ⟨v1, σ2, fw_run W52 rfl r3, p4, ?_⟩
  replace h : EV F f 154 z154 8 [some (rf 11 (0)), some (.inl (x1)), none] [.inr (.inr (v1))] σ2 (w, σ') := h
  replace h := ei_p h rfl rfl rfl rfl
  obtain ⟨f, g, h⟩ := h
  clear g
  replace h : EV F f 154 z154 9 [some (rf 11 (0)), some (.inl (x1)), some (.inr (.inr (v1)))] [] σ2 (w, σ') := h
  replace h := ei_p h rfl rfl rfl rfl
  obtain ⟨f, g, h⟩ := h
  clear g
  replace h : EV F f 154 z154 10 [some (rf 11 (0)), some (.inl (x1)), some (.inr (.inr (v1)))] [.inr (.inr (v1))] σ2 (w, σ') := h
  rcases r_cs (v1) with e5 | ⟨q6, e5⟩
  · skip
    rw [e5] at h
    refine Or.inl ⟨e5, ?_⟩
    replace h : EV F f 154 z154 10 [some (rf 11 (0)), some (.inl (x1)), some (.inr (.inr none))] [.inr (.inr none)] σ2 (w, σ') := h
    replace h := ei_c h rfl rfl rfl
    rcases h with ⟨hp7, f, g, h⟩ | ⟨hp7, f, g, h⟩
    · exact absurd rfl hp7
    · skip
      clear g
      replace h : EV F f 154 z154 13 [some (rf 11 (0)), some (.inl (x1)), some (.inr (.inr none))] [] σ2 (w, σ') := h
      have e := ei_thr h rfl (by decide)
      cases e
      exact ⟨rfl, rfl⟩
  · skip
    rw [e5] at h
    refine Or.inr ⟨q6, e5, ?_⟩
    replace h : EV F f 154 z154 10 [some (rf 11 (0)), some (.inl (x1)), some (.inr (.inr (some q6)))] [.inr (.inr (some q6))] σ2 (w, σ') := h
    replace h := ei_c h rfl rfl rfl
    rcases h with ⟨hp8, f, g, h⟩ | ⟨hp8, f, g, h⟩
    · skip
      clear g
      replace h : EV F f 154 z154 23 [some (rf 11 (0)), some (.inl (x1)), some (.inr (.inr (some q6)))] [] σ2 (w, σ') := h
      replace h := ei_p h rfl rfl rfl rfl
      obtain ⟨f, g, h⟩ := h
      clear g
      replace h : EV F f 154 z154 24 [some (rf 11 (0)), some (.inl (x1)), some (.inr (.inr (some q6)))] [.inr (.inr (some q6))] σ2 (w, σ') := h
      obtain ⟨i9, e10⟩ := ei_gp h rfl
      rw [Option.some.inj e10] at h
      refine ⟨i9, e10, ?_⟩
      replace h : EV F f 154 z154 24 [some (rf 11 (0)), some (.inl (x1)), some (rf 9 (i9))] [rf 9 (i9)] σ2 (w, σ') := h
      replace h := ei_get h rfl rfl
      obtain ⟨f, g, h⟩ := h
      clear g
      replace h : EV F f 154 z154 27 [some (rf 11 (0)), some (.inl (x1)), some (rf 9 (i9))] [.inl (m_i σ2 9 (i9) 1)] σ2 (w, σ') := h
      replace h := ei_p h rfl rfl rfl rfl
      obtain ⟨f, g, h⟩ := h
      clear g
      replace h : EV F f 154 z154 28 [some (rf 11 (0)), some (.inl (x1)), some (rf 9 (i9))] [rf 11 (0), .inl (m_i σ2 9 (i9) 1)] σ2 (w, σ') := h
      replace h := ei_get h rfl (HS_g11_1 hsσ2)
      obtain ⟨f, g, h⟩ := h
      clear g
      replace h : EV F f 154 z154 31 [some (rf 11 (0)), some (.inl (x1)), some (rf 9 (i9))] [rf 3 (0), .inl (m_i σ2 9 (i9) 1)] σ2 (w, σ') := h
      replace h := ei_get h rfl rfl
      obtain ⟨f, g, h⟩ := h
      clear g
      replace h : EV F f 154 z154 34 [some (rf 11 (0)), some (.inl (x1)), some (rf 9 (i9))] [.inl (m_i σ2 3 (0) 5), .inl (m_i σ2 9 (i9) 1)] σ2 (w, σ') := h
      replace h := ei_c h rfl rfl rfl
      rcases h with ⟨hp11, f, g, h⟩ | ⟨hp11, f, g, h⟩
      · skip
        replace hp11 : (m_i σ2 3 (0) 5).toInt ≤ (m_i σ2 9 (i9) 1).toInt := ic_ge.mp hp11
        refine Or.inl ⟨hp11, ?_⟩
        clear g
        replace h : EV F f 154 z154 41 [some (rf 11 (0)), some (.inl (x1)), some (rf 9 (i9))] [] σ2 (w, σ') := h
        replace h := ei_p h rfl rfl rfl rfl
        obtain ⟨f, g, h⟩ := h
        clear g
        replace h : EV F f 154 z154 42 [some (rf 11 (0)), some (.inl (x1)), some (rf 9 (i9))] [.inl (Int32.ofInt 0)] σ2 (w, σ') := h
        exact j154_42 hsσ2 h
      · skip
        replace hp11 : ¬ ((m_i σ2 3 (0) 5).toInt ≤ (m_i σ2 9 (i9) 1).toInt) := (not_congr ic_ge).mp hp11
        refine Or.inr ⟨hp11, ?_⟩
        clear g
        replace h : EV F f 154 z154 37 [some (rf 11 (0)), some (.inl (x1)), some (rf 9 (i9))] [] σ2 (w, σ') := h
        replace h := ei_p h rfl rfl rfl rfl
        obtain ⟨f, g, h⟩ := h
        clear g
        replace h : EV F f 154 z154 38 [some (rf 11 (0)), some (.inl (x1)), some (rf 9 (i9))] [.inl (Int32.ofInt 1)] σ2 (w, σ') := h
        replace h := ei_p h rfl rfl rfl rfl
        obtain ⟨f, g, h⟩ := h
        clear g
        replace h : EV F f 154 z154 42 [some (rf 11 (0)), some (.inl (x1)), some (rf 9 (i9))] [.inl (Int32.ofInt 1)] σ2 (w, σ') := h
        exact j154_42 hsσ2 h
    · exact absurd (fun z => by cases z) hp8
def z155 : mAl := ((yX11_copy, cX11_copy, 3, (some .int), { frames := 6, cells := 1, slots := 6, locals := 90 }, []), rw_X11_copy, false)
theorem z155_at : m_alF[155]? = some z155 := rfl
abbrev L155 : List (Nat × Nat) := [(5, 2), (9, 1), (13, 0)]
abbrev w155 : Nat → Nat → Bool := wl L155
def S155 : List Nat := [52, 57, 84, 155]
theorem W155 : fw_S w155 S155 = true := by decide +kernel
def P155 (σ : mS) (x1 : Int32) (w : mX) (σ' : mS) : Prop := ∃ v1 σ2, fw_e w52 σ σ2 ∧ P52 σ (x1) v1 σ2 ∧ ((v1 = none ∧ (w = .inr 0 ∧ σ' = σ2)) ∨ (∃ q6, v1 = some q6 ∧ ∃ v9 σ10, fw_e w57 σ2 σ10 ∧ P57 σ2 (some q6) v9 σ10 ∧ w = .inl (some (.inl (v9))) ∧ σ' = σ10))
theorem x155 {σ σ' : mS} {x1 : Int32} {w : mX} (hs : HS σ) (h : ev_run sm_all 155 [rf 11 (0), .inl (x1)] σ (w) σ') : P155 σ x1 w σ' := by
  unfold P155
  obtain ⟨F, f, h⟩ := ei_go h z155_at
  replace h : EV F f 155 z155 0 [some (rf 11 (0)), some (.inl (x1)), none] [] σ (w, σ') := h
  replace h := ei_p h rfl rfl rfl rfl
  obtain ⟨f, g, h⟩ := h
  clear g
  replace h : EV F f 155 z155 1 [some (rf 11 (0)), some (.inl (x1)), none] [rf 11 (0)] σ (w, σ') := h
  replace h := ei_get h rfl (HS_g11_1 hs)
  obtain ⟨f, g, h⟩ := h
  clear g
  replace h : EV F f 155 z155 4 [some (rf 11 (0)), some (.inl (x1)), none] [rf 3 (0)] σ (w, σ') := h
  replace h := ei_p h rfl rfl rfl rfl
  obtain ⟨f, g, h⟩ := h
  clear g
  replace h : EV F f 155 z155 5 [some (rf 11 (0)), some (.inl (x1)), none] [.inl (x1), rf 3 (0)] σ (w, σ') := h
  replace h := bk_R (ei_v (as := [.inl (x1)]) h rfl rfl rfl) rfl z52_at rfl
  obtain ⟨v1, σ2, r3, f, g, h⟩ := h
  clear g
  have p4 := x52 hs r3
  have hsσ2 : HS σ2 := HS_run rfl r3 hs
  refine ⟨v1, σ2, fw_run W52 rfl r3, p4, ?_⟩
  replace h : EV F f 155 z155 8 [some (rf 11 (0)), some (.inl (x1)), none] [.inr (.inr (v1))] σ2 (w, σ') := h
  replace h := ei_p h rfl rfl rfl rfl
  obtain ⟨f, g, h⟩ := h
  clear g
  replace h : EV F f 155 z155 9 [some (rf 11 (0)), some (.inl (x1)), some (.inr (.inr (v1)))] [] σ2 (w, σ') := h
  replace h := ei_p h rfl rfl rfl rfl
  obtain ⟨f, g, h⟩ := h
  clear g
  replace h : EV F f 155 z155 10 [some (rf 11 (0)), some (.inl (x1)), some (.inr (.inr (v1)))] [.inr (.inr (v1))] σ2 (w, σ') := h
  rcases r_cs (v1) with e5 | ⟨q6, e5⟩
  · skip
    rw [e5] at h
    refine Or.inl ⟨e5, ?_⟩
    replace h : EV F f 155 z155 10 [some (rf 11 (0)), some (.inl (x1)), some (.inr (.inr none))] [.inr (.inr none)] σ2 (w, σ') := h
    replace h := ei_c h rfl rfl rfl
    rcases h with ⟨hp7, f, g, h⟩ | ⟨hp7, f, g, h⟩
    · exact absurd rfl hp7
    · skip
      clear g
      replace h : EV F f 155 z155 13 [some (rf 11 (0)), some (.inl (x1)), some (.inr (.inr none))] [] σ2 (w, σ') := h
      have e := ei_thr h rfl (by decide)
      cases e
      exact ⟨rfl, rfl⟩
  · skip
    rw [e5] at h
    refine Or.inr ⟨q6, e5, ?_⟩
    replace h : EV F f 155 z155 10 [some (rf 11 (0)), some (.inl (x1)), some (.inr (.inr (some q6)))] [.inr (.inr (some q6))] σ2 (w, σ') := h
    replace h := ei_c h rfl rfl rfl
    rcases h with ⟨hp8, f, g, h⟩ | ⟨hp8, f, g, h⟩
    · skip
      clear g
      replace h : EV F f 155 z155 23 [some (rf 11 (0)), some (.inl (x1)), some (.inr (.inr (some q6)))] [] σ2 (w, σ') := h
      replace h := ei_p h rfl rfl rfl rfl
      obtain ⟨f, g, h⟩ := h
      clear g
      replace h : EV F f 155 z155 24 [some (rf 11 (0)), some (.inl (x1)), some (.inr (.inr (some q6)))] [rf 11 (0)] σ2 (w, σ') := h
      replace h := ei_get h rfl (HS_g11_1 hsσ2)
      obtain ⟨f, g, h⟩ := h
      clear g
      replace h : EV F f 155 z155 27 [some (rf 11 (0)), some (.inl (x1)), some (.inr (.inr (some q6)))] [rf 3 (0)] σ2 (w, σ') := h
      replace h := ei_p h rfl rfl rfl rfl
      obtain ⟨f, g, h⟩ := h
      clear g
      replace h : EV F f 155 z155 28 [some (rf 11 (0)), some (.inl (x1)), some (.inr (.inr (some q6)))] [.inr (.inr (some q6)), rf 3 (0)] σ2 (w, σ') := h
      replace h := bk_I (ei_v (as := [.inr (.inr (some q6))]) h rfl rfl rfl) rfl z57_at (Or.inl rfl)
      obtain ⟨v9, σ10, r11, f, g, h⟩ := h
      clear g
      have p12 := x57 hsσ2 r11
      have hsσ10 : HS σ10 := HS_run rfl r11 hsσ2
      refine ⟨v9, σ10, fw_run W57 rfl r11, p12, ?_⟩
      replace h : EV F f 155 z155 31 [some (rf 11 (0)), some (.inl (x1)), some (.inr (.inr (some q6)))] [.inl (v9)] σ10 (w, σ') := h
      have e := ei_iret h rfl
      cases e
      exact ⟨rfl, rfl⟩
    · exact absurd (fun z => by cases z) hp8
def z156 : mAl := ((yX11_wrong, cX11_wrong, 3, (some .int), { frames := 6, cells := 1, slots := 6, locals := 94 }, []), rw_X11_wrong, false)
theorem z156_at : m_alF[156]? = some z156 := rfl
abbrev L156 : List (Nat × Nat) := []
abbrev w156 : Nat → Nat → Bool := wl L156
def S156 : List Nat := [52, 78, 79, 80, 86, 87, 156]
theorem W156 : fw_S w156 S156 = true := by decide +kernel
def P156 (σ : mS) (x1 : Int32) (w : mX) (σ' : mS) : Prop := ∃ v1 σ2, fw_e w52 σ σ2 ∧ P52 σ (x1) v1 σ2 ∧ ((v1 = none ∧ (w = .inr 0 ∧ σ' = σ2)) ∨ (∃ q6, v1 = some q6 ∧ ∃ i9, (some q6 : mR) = some (9, i9) ∧ ∃ i11, m_r σ2 9 (i9) 0 = some (5, i11) ∧ ∃ v13 σ14, fw_e w87 σ2 σ14 ∧ P87 σ2 (i11) (m_r σ2 3 (0) 4) v13 σ14 ∧ w = .inl (some (.inl (v13))) ∧ σ' = σ14))
theorem x156 {σ σ' : mS} {x1 : Int32} {w : mX} (hs : HS σ) (h : ev_run sm_all 156 [rf 11 (0), .inl (x1)] σ (w) σ') : P156 σ x1 w σ' := by
  unfold P156
  obtain ⟨F, f, h⟩ := ei_go h z156_at
  replace h : EV F f 156 z156 0 [some (rf 11 (0)), some (.inl (x1)), none] [] σ (w, σ') := h
  replace h := ei_p h rfl rfl rfl rfl
  obtain ⟨f, g, h⟩ := h
  clear g
  replace h : EV F f 156 z156 1 [some (rf 11 (0)), some (.inl (x1)), none] [rf 11 (0)] σ (w, σ') := h
  replace h := ei_get h rfl (HS_g11_1 hs)
  obtain ⟨f, g, h⟩ := h
  clear g
  replace h : EV F f 156 z156 4 [some (rf 11 (0)), some (.inl (x1)), none] [rf 3 (0)] σ (w, σ') := h
  replace h := ei_p h rfl rfl rfl rfl
  obtain ⟨f, g, h⟩ := h
  clear g
  replace h : EV F f 156 z156 5 [some (rf 11 (0)), some (.inl (x1)), none] [.inl (x1), rf 3 (0)] σ (w, σ') := h
  replace h := bk_R (ei_v (as := [.inl (x1)]) h rfl rfl rfl) rfl z52_at rfl
  obtain ⟨v1, σ2, r3, f, g, h⟩ := h
  clear g
  have p4 := x52 hs r3
  have hsσ2 : HS σ2 := HS_run rfl r3 hs
  refine ⟨v1, σ2, fw_run W52 rfl r3, p4, ?_⟩
  replace h : EV F f 156 z156 8 [some (rf 11 (0)), some (.inl (x1)), none] [.inr (.inr (v1))] σ2 (w, σ') := h
  replace h := ei_p h rfl rfl rfl rfl
  obtain ⟨f, g, h⟩ := h
  clear g
  replace h : EV F f 156 z156 9 [some (rf 11 (0)), some (.inl (x1)), some (.inr (.inr (v1)))] [] σ2 (w, σ') := h
  replace h := ei_p h rfl rfl rfl rfl
  obtain ⟨f, g, h⟩ := h
  clear g
  replace h : EV F f 156 z156 10 [some (rf 11 (0)), some (.inl (x1)), some (.inr (.inr (v1)))] [.inr (.inr (v1))] σ2 (w, σ') := h
  rcases r_cs (v1) with e5 | ⟨q6, e5⟩
  · skip
    rw [e5] at h
    refine Or.inl ⟨e5, ?_⟩
    replace h : EV F f 156 z156 10 [some (rf 11 (0)), some (.inl (x1)), some (.inr (.inr none))] [.inr (.inr none)] σ2 (w, σ') := h
    replace h := ei_c h rfl rfl rfl
    rcases h with ⟨hp7, f, g, h⟩ | ⟨hp7, f, g, h⟩
    · exact absurd rfl hp7
    · skip
      clear g
      replace h : EV F f 156 z156 13 [some (rf 11 (0)), some (.inl (x1)), some (.inr (.inr none))] [] σ2 (w, σ') := h
      have e := ei_thr h rfl (by decide)
      cases e
      exact ⟨rfl, rfl⟩
  · skip
    rw [e5] at h
    refine Or.inr ⟨q6, e5, ?_⟩
    replace h : EV F f 156 z156 10 [some (rf 11 (0)), some (.inl (x1)), some (.inr (.inr (some q6)))] [.inr (.inr (some q6))] σ2 (w, σ') := h
    replace h := ei_c h rfl rfl rfl
    rcases h with ⟨hp8, f, g, h⟩ | ⟨hp8, f, g, h⟩
    · skip
      clear g
      replace h : EV F f 156 z156 23 [some (rf 11 (0)), some (.inl (x1)), some (.inr (.inr (some q6)))] [] σ2 (w, σ') := h
      replace h := ei_p h rfl rfl rfl rfl
      obtain ⟨f, g, h⟩ := h
      clear g
      replace h : EV F f 156 z156 24 [some (rf 11 (0)), some (.inl (x1)), some (.inr (.inr (some q6)))] [.inr (.inr (some q6))] σ2 (w, σ') := h
      obtain ⟨i9, e10⟩ := ei_gp h rfl
      rw [Option.some.inj e10] at h
      refine ⟨i9, e10, ?_⟩
      replace h : EV F f 156 z156 24 [some (rf 11 (0)), some (.inl (x1)), some (rf 9 (i9))] [rf 9 (i9)] σ2 (w, σ') := h
      replace h := ei_get h rfl rfl
      obtain ⟨f, g, h⟩ := h
      clear g
      replace h : EV F f 156 z156 27 [some (rf 11 (0)), some (.inl (x1)), some (rf 9 (i9))] [.inr (.inr (m_r σ2 9 (i9) 0))] σ2 (w, σ') := h
      replace h := ei_p h rfl rfl rfl rfl
      obtain ⟨f, g, h⟩ := h
      clear g
      replace h : EV F f 156 z156 28 [some (rf 11 (0)), some (.inl (x1)), some (rf 9 (i9))] [rf 11 (0), .inr (.inr (m_r σ2 9 (i9) 0))] σ2 (w, σ') := h
      replace h := ei_get h rfl (HS_g11_1 hsσ2)
      obtain ⟨f, g, h⟩ := h
      clear g
      replace h : EV F f 156 z156 31 [some (rf 11 (0)), some (.inl (x1)), some (rf 9 (i9))] [rf 3 (0), .inr (.inr (m_r σ2 9 (i9) 0))] σ2 (w, σ') := h
      replace h := ei_get h rfl rfl
      obtain ⟨f, g, h⟩ := h
      clear g
      replace h : EV F f 156 z156 34 [some (rf 11 (0)), some (.inl (x1)), some (rf 9 (i9))] [.inr (.inr (m_r σ2 3 (0) 4)), .inr (.inr (m_r σ2 9 (i9) 0))] σ2 (w, σ') := h
      obtain ⟨i11, e12⟩ := ei_vp (as := [.inr (.inr (m_r σ2 3 (0) 4))]) h rfl rfl
      rw [e12] at h
      refine ⟨i11, e12, ?_⟩
      replace h : EV F f 156 z156 34 [some (rf 11 (0)), some (.inl (x1)), some (rf 9 (i9))] [.inr (.inr (m_r σ2 3 (0) 4)), rf 5 (i11)] σ2 (w, σ') := h
      replace h := bk_I (ei_v (as := [.inr (.inr (m_r σ2 3 (0) 4))]) h rfl rfl rfl) rfl z87_at (Or.inl rfl)
      obtain ⟨v13, σ14, r15, f, g, h⟩ := h
      clear g
      have p16 := x87 hsσ2 r15
      have hsσ14 : HS σ14 := HS_run rfl r15 hsσ2
      refine ⟨v13, σ14, fw_run W87 rfl r15, p16, ?_⟩
      replace h : EV F f 156 z156 37 [some (rf 11 (0)), some (.inl (x1)), some (rf 9 (i9))] [.inl (v13)] σ14 (w, σ') := h
      have e := ei_iret h rfl
      cases e
      exact ⟨rfl, rfl⟩
    · exact absurd (fun z => by cases z) hp8
