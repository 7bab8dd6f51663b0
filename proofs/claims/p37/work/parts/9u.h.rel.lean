/-! the class's methods as relations: 72 letSpreadCome, 115 changeBand, 75 tradeInOpening, 74 openPaper, 62 changePaper, 76 passTicks -/
def z72 : mAl := ((yX4_letSpreadCome, cX4_letSpreadCome, 10, (some .int), { frames := 4, cells := 0, slots := 0, locals := 92 }, []), rw_X4_letSpreadCome, false)
theorem z72_at : m_alF[72]? = some z72 := rfl
abbrev L72 : List (Nat × Nat) := [(0, 2), (2, 5), (6, 2), (6, 5), (7, 6), (7, 7), (7, 9), (7, 11), (7, 12), (8, 2), (8, 3), (8, 7), (10, 0), (10, 1), (10, 2), (10, 3), (10, 4), (10, 5), (10, 6), (10, 7), (10, 8), (10, 9), (14, 0)]
abbrev w72 : Nat → Nat → Bool := wl L72
def S72 : List Nat := [5, 6, 12, 22, 24, 28, 32, 68, 72, 73, 91, 95, 100, 102, 105, 106, 114]
theorem W72 : fw_S w72 S72 = true := by decide +kernel
def J72_161 (u4 : Int32) (u6 : Int32) (τ : mS) (w : Int32) (σ' : mS) : Prop := w = ((u4) - (u6)) ∧ σ' = τ
theorem j72_161 {F f : Nat} {σ' τ : mS} {u4 : Int32} {u6 : Int32} {y0 : Option mV} {y1 : Option mV} {y2 : Option mV} {y3 : Option mV} {y5 : Option mV} {y7 : Option mV} {y8 : Option mV} {y9 : Option mV} {w : Int32} (hsτ : HS τ) (h : EV F f 72 z72 161 [y0, y1, y2, y3, some (.inl (u4)), y5, some (.inl (u6)), y7, y8, y9] [] τ (.inl (some (.inl w)), σ')) : J72_161 u4 u6 τ w σ' := by
  unfold J72_161
  replace h := ei_p h rfl rfl rfl rfl
  obtain ⟨f, g, h⟩ := h
  clear g
  replace h : EV F f 72 z72 163 [y0, y1, y2, y3, some (.inl (u4)), y5, some (.inl (u6)), y7, y8, y9] [.inl (u4)] τ (.inl (some (.inl w)), σ') := h
  replace h := ei_p h rfl rfl rfl rfl
  obtain ⟨f, g, h⟩ := h
  clear g
  replace h : EV F f 72 z72 165 [y0, y1, y2, y3, some (.inl (u4)), y5, some (.inl (u6)), y7, y8, y9] [.inl (u6), .inl (u4)] τ (.inl (some (.inl w)), σ') := h
  replace h := ei_p h rfl rfl rfl rfl
  obtain ⟨f, g, h⟩ := h
  clear g
  replace h : EV F f 72 z72 166 [y0, y1, y2, y3, some (.inl (u4)), y5, some (.inl (u6)), y7, y8, y9] [.inl ((u4) - (u6))] τ (.inl (some (.inl w)), σ') := h
  have e := ei_iret h rfl
  cases e
  exact ⟨rfl, rfl⟩
abbrev B72_7 (c1 : Int32) (c2 : Int32) (c3 : Int32) (c4 : Int32) (c5 : Int32) (ih : Int32 → Int32 → mS → Int32 → mS → Prop) (u6 : Int32) (u7 : Int32) (τ : mS) (w : Int32) (σ' : mS) : Prop := (((1000 : Int) ≤ (u7).toInt ∧ J72_161 (c4) (u6) τ w σ') ∨ (¬ ((1000 : Int) ≤ (u7).toInt) ∧ (((u6).toInt ≤ (0 : Int) ∧ J72_161 (c4) (u6) τ w σ') ∨ (¬ ((u6).toInt ≤ (0 : Int)) ∧ ∃ v3, P28 τ (Int32.ofInt 2) v3 ∧ (((v3).toInt = (0 : Int) ∧ J72_161 (c4) (u6) τ w σ') ∨ (¬ ((v3).toInt = (0 : Int)) ∧ ∃ v8, P6 τ (c2) (Int32.ofInt 1) v8 ∧ ∃ v12, P6 τ (c3) (Int32.ofInt 0) v12 ∧ ((v8 = none ∧ J72_161 (c4) (u6) τ w σ') ∨ (∃ q17, v8 = some q17 ∧ ((v12 = none ∧ J72_161 (c4) (u6) τ w σ') ∨ (∃ q21, v12 = some q21 ∧ ∃ i24, (some q17 : mR) = some (7, i24) ∧ ∃ i26, (some q21 : mR) = some (7, i26) ∧ ((((m_i τ 7 (i24) 4) - (m_i τ 7 (i26) 4)).toInt ≤ (c5).toInt ∧ (((m_i τ 7 (i24) 1).toInt = (c1).toInt ∧ (((m_i τ 7 (i24) 1).toInt ≠ (c1).toInt ∧ ∃ σ32, fw_e w68 τ σ32 ∧ P68 τ none σ32 ∧ (((m_i σ32 7 (i26) 1).toInt ≠ (c1).toInt ∧ ∃ σ37, fw_e w68 σ32 σ37 ∧ P68 σ32 none σ37 ∧ ih (u6) ((u7) + Int32.ofInt 1) σ37 w σ') ∨ (¬ ((m_i σ32 7 (i26) 1).toInt ≠ (c1).toInt) ∧ ∃ σ41, fw_e w68 σ32 σ41 ∧ P68 σ32 (some (7, i26)) σ41 ∧ ih (u6) ((u7) + Int32.ofInt 1) σ41 w σ'))) ∨ (¬ ((m_i τ 7 (i24) 1).toInt ≠ (c1).toInt) ∧ ∃ σ45, fw_e w68 τ σ45 ∧ P68 τ (some (7, i24)) σ45 ∧ (((m_i σ45 7 (i26) 1).toInt ≠ (c1).toInt ∧ ∃ σ50, fw_e w68 σ45 σ50 ∧ P68 σ45 none σ50 ∧ ih (u6) ((u7) + Int32.ofInt 1) σ50 w σ') ∨ (¬ ((m_i σ45 7 (i26) 1).toInt ≠ (c1).toInt) ∧ ∃ σ54, fw_e w68 σ45 σ54 ∧ P68 σ45 (some (7, i26)) σ54 ∧ ih (u6) ((u7) + Int32.ofInt 1) σ54 w σ'))))) ∨ (¬ ((m_i τ 7 (i24) 1).toInt = (c1).toInt) ∧ (((m_i τ 7 (i26) 1).toInt ≠ (c1).toInt ∧ ∃ v58 σ59, fw_e w73 τ σ59 ∧ P73 τ (c1) (some (7, i24)) (some (7, i26)) (u6) v58 σ59 ∧ ih ((u6) - (v58)) ((u7) + Int32.ofInt 1) σ59 w σ') ∨ (¬ ((m_i τ 7 (i26) 1).toInt ≠ (c1).toInt) ∧ (((m_i τ 7 (i24) 1).toInt ≠ (c1).toInt ∧ ∃ σ64, fw_e w68 τ σ64 ∧ P68 τ none σ64 ∧ (((m_i σ64 7 (i26) 1).toInt ≠ (c1).toInt ∧ ∃ σ69, fw_e w68 σ64 σ69 ∧ P68 σ64 none σ69 ∧ ih (u6) ((u7) + Int32.ofInt 1) σ69 w σ') ∨ (¬ ((m_i σ64 7 (i26) 1).toInt ≠ (c1).toInt) ∧ ∃ σ73, fw_e w68 σ64 σ73 ∧ P68 σ64 (some (7, i26)) σ73 ∧ ih (u6) ((u7) + Int32.ofInt 1) σ73 w σ'))) ∨ (¬ ((m_i τ 7 (i24) 1).toInt ≠ (c1).toInt) ∧ ∃ σ77, fw_e w68 τ σ77 ∧ P68 τ (some (7, i24)) σ77 ∧ (((m_i σ77 7 (i26) 1).toInt ≠ (c1).toInt ∧ ∃ σ82, fw_e w68 σ77 σ82 ∧ P68 σ77 none σ82 ∧ ih (u6) ((u7) + Int32.ofInt 1) σ82 w σ') ∨ (¬ ((m_i σ77 7 (i26) 1).toInt ≠ (c1).toInt) ∧ ∃ σ86, fw_e w68 σ77 σ86 ∧ P68 σ77 (some (7, i26)) σ86 ∧ ih (u6) ((u7) + Int32.ofInt 1) σ86 w σ'))))))))) ∨ (¬ (((m_i τ 7 (i24) 4) - (m_i τ 7 (i26) 4)).toInt ≤ (c5).toInt) ∧ J72_161 (c4) (u6) τ w σ'))))))))))))
def Q72_7 (c1 : Int32) (c2 : Int32) (c3 : Int32) (c4 : Int32) (c5 : Int32) : Nat → Int32 → Int32 → mS → Int32 → mS → Prop
  | 0 => fun _ _ _ _ _ => False
  | n + 1 => B72_7 c1 c2 c3 c4 c5 (Q72_7 c1 c2 c3 c4 c5 n)
theorem q72_7 {F : Nat} {σ' : mS} {c1 : Int32} {c2 : Int32} {c3 : Int32} {c4 : Int32} {c5 : Int32} {w : Int32} : ∀ N f, f < N → ∀ (u6 : Int32) (u7 : Int32) (y8 : Option mV) (y9 : Option mV) (τ : mS), HS τ → EV F f 72 z72 7 [some (rf 4 (0)), some (.inl (c1)), some (.inl (c2)), some (.inl (c3)), some (.inl (c4)), some (.inl (c5)), some (.inl (u6)), some (.inl (u7)), y8, y9] [] τ (.inl (some (.inl w)), σ') → Q72_7 c1 c2 c3 c4 c5 N u6 u7 τ w σ' := by
  intro N
  induction N with
  | zero => intro f hf; omega
  | succ N IH =>
    intro f hf0 u6 u7 y8 y9 τ hsτ h
    have hf : f < N + 1 := hf0
    clear hf0
    show B72_7 c1 c2 c3 c4 c5 (Q72_7 c1 c2 c3 c4 c5 N) u6 u7 τ w σ'
    replace h := ei_p h rfl rfl rfl rfl
    obtain ⟨f, g, h⟩ := h
    replace hf := Nat.lt_of_lt_of_le g (Nat.le_of_lt_succ hf)
    clear g
    replace h : EV F f 72 z72 9 [some (rf 4 (0)), some (.inl (c1)), some (.inl (c2)), some (.inl (c3)), some (.inl (c4)), some (.inl (c5)), some (.inl (u6)), some (.inl (u7)), y8, y9] [.inl (u7)] τ (.inl (some (.inl w)), σ') := h
    replace h := ei_p h rfl rfl rfl rfl
    obtain ⟨f, g, h⟩ := h
    replace hf := Nat.lt_trans g hf
    clear g
    replace h : EV F f 72 z72 12 [some (rf 4 (0)), some (.inl (c1)), some (.inl (c2)), some (.inl (c3)), some (.inl (c4)), some (.inl (c5)), some (.inl (u6)), some (.inl (u7)), y8, y9] [.inl (Int32.ofInt 1000), .inl (u7)] τ (.inl (some (.inl w)), σ') := h
    replace h := ei_c h rfl rfl rfl
    rcases h with ⟨hp1, f, g, h⟩ | ⟨hp1, f, g, h⟩
    · skip
      replace hp1 : (1000 : Int) ≤ (u7).toInt := ic_ge.mp hp1
      refine Or.inl ⟨hp1, ?_⟩
      replace hf := Nat.lt_trans g hf
      clear g
      replace h : EV F f 72 z72 161 [some (rf 4 (0)), some (.inl (c1)), some (.inl (c2)), some (.inl (c3)), some (.inl (c4)), some (.inl (c5)), some (.inl (u6)), some (.inl (u7)), y8, y9] [] τ (.inl (some (.inl w)), σ') := h
      exact j72_161 hsτ h
    · skip
      replace hp1 : ¬ ((1000 : Int) ≤ (u7).toInt) := (not_congr ic_ge).mp hp1
      refine Or.inr ⟨hp1, ?_⟩
      replace hf := Nat.lt_trans g hf
      clear g
      replace h : EV F f 72 z72 15 [some (rf 4 (0)), some (.inl (c1)), some (.inl (c2)), some (.inl (c3)), some (.inl (c4)), some (.inl (c5)), some (.inl (u6)), some (.inl (u7)), y8, y9] [] τ (.inl (some (.inl w)), σ') := h
      replace h := ei_p h rfl rfl rfl rfl
      obtain ⟨f, g, h⟩ := h
      replace hf := Nat.lt_trans g hf
      clear g
      replace h : EV F f 72 z72 17 [some (rf 4 (0)), some (.inl (c1)), some (.inl (c2)), some (.inl (c3)), some (.inl (c4)), some (.inl (c5)), some (.inl (u6)), some (.inl (u7)), y8, y9] [.inl (u6)] τ (.inl (some (.inl w)), σ') := h
      replace h := ei_c h rfl rfl rfl
      rcases h with ⟨hp2, f, g, h⟩ | ⟨hp2, f, g, h⟩
      · skip
        replace hp2 : (u6).toInt ≤ (0 : Int) := ic_le.mp hp2
        refine Or.inl ⟨hp2, ?_⟩
        replace hf := Nat.lt_trans g hf
        clear g
        replace h : EV F f 72 z72 161 [some (rf 4 (0)), some (.inl (c1)), some (.inl (c2)), some (.inl (c3)), some (.inl (c4)), some (.inl (c5)), some (.inl (u6)), some (.inl (u7)), y8, y9] [] τ (.inl (some (.inl w)), σ') := h
        exact j72_161 hsτ h
      · skip
        replace hp2 : ¬ ((u6).toInt ≤ (0 : Int)) := (not_congr ic_le).mp hp2
        refine Or.inr ⟨hp2, ?_⟩
        replace hf := Nat.lt_trans g hf
        clear g
        replace h : EV F f 72 z72 20 [some (rf 4 (0)), some (.inl (c1)), some (.inl (c2)), some (.inl (c3)), some (.inl (c4)), some (.inl (c5)), some (.inl (u6)), some (.inl (u7)), y8, y9] [] τ (.inl (some (.inl w)), σ') := h
        replace h := ei_p h rfl rfl rfl rfl
        obtain ⟨f, g, h⟩ := h
        replace hf := Nat.lt_trans g hf
        clear g
        replace h : EV F f 72 z72 21 [some (rf 4 (0)), some (.inl (c1)), some (.inl (c2)), some (.inl (c3)), some (.inl (c4)), some (.inl (c5)), some (.inl (u6)), some (.inl (u7)), y8, y9] [rf 4 (0)] τ (.inl (some (.inl w)), σ') := h
        replace h := ei_get h rfl (HS_g4_1 hsτ)
        obtain ⟨f, g, h⟩ := h
        replace hf := Nat.lt_trans g hf
        clear g
        replace h : EV F f 72 z72 24 [some (rf 4 (0)), some (.inl (c1)), some (.inl (c2)), some (.inl (c3)), some (.inl (c4)), some (.inl (c5)), some (.inl (u6)), some (.inl (u7)), y8, y9] [rf 2 (0)] τ (.inl (some (.inl w)), σ') := h
        replace h := ei_p h rfl rfl rfl rfl
        obtain ⟨f, g, h⟩ := h
        replace hf := Nat.lt_trans g hf
        clear g
        replace h : EV F f 72 z72 25 [some (rf 4 (0)), some (.inl (c1)), some (.inl (c2)), some (.inl (c3)), some (.inl (c4)), some (.inl (c5)), some (.inl (u6)), some (.inl (u7)), y8, y9] [.inl (Int32.ofInt 2), rf 2 (0)] τ (.inl (some (.inl w)), σ') := h
        replace h := bk_I (ei_v (as := [.inl (Int32.ofInt 2)]) h rfl rfl rfl) rfl z28_at (Or.inr rfl)
        obtain ⟨v3, σ4, r5, f, g, h⟩ := h
        replace hf := Nat.lt_trans g hf
        clear g
        have er5 := ro_run rfl r5
        rw [er5] at h r5
        have p6 := x28 hsτ r5
        refine ⟨v3, p6, ?_⟩
        replace h : EV F f 72 z72 28 [some (rf 4 (0)), some (.inl (c1)), some (.inl (c2)), some (.inl (c3)), some (.inl (c4)), some (.inl (c5)), some (.inl (u6)), some (.inl (u7)), y8, y9] [.inl (v3)] τ (.inl (some (.inl w)), σ') := h
        replace h := ei_c h rfl rfl rfl
        rcases h with ⟨hp7, f, g, h⟩ | ⟨hp7, f, g, h⟩
        · skip
          replace hp7 : (v3).toInt = (0 : Int) := ic_eq.mp hp7
          refine Or.inl ⟨hp7, ?_⟩
          replace hf := Nat.lt_trans g hf
          clear g
          replace h : EV F f 72 z72 161 [some (rf 4 (0)), some (.inl (c1)), some (.inl (c2)), some (.inl (c3)), some (.inl (c4)), some (.inl (c5)), some (.inl (u6)), some (.inl (u7)), y8, y9] [] τ (.inl (some (.inl w)), σ') := h
          exact j72_161 hsτ h
        · skip
          replace hp7 : ¬ ((v3).toInt = (0 : Int)) := (not_congr ic_eq).mp hp7
          refine Or.inr ⟨hp7, ?_⟩
          replace hf := Nat.lt_trans g hf
          clear g
          replace h : EV F f 72 z72 31 [some (rf 4 (0)), some (.inl (c1)), some (.inl (c2)), some (.inl (c3)), some (.inl (c4)), some (.inl (c5)), some (.inl (u6)), some (.inl (u7)), y8, y9] [] τ (.inl (some (.inl w)), σ') := h
          replace h := ei_p h rfl rfl rfl rfl
          obtain ⟨f, g, h⟩ := h
          replace hf := Nat.lt_trans g hf
          clear g
          replace h : EV F f 72 z72 32 [some (rf 4 (0)), some (.inl (c1)), some (.inl (c2)), some (.inl (c3)), some (.inl (c4)), some (.inl (c5)), some (.inl (u6)), some (.inl (u7)), y8, y9] [rf 4 (0)] τ (.inl (some (.inl w)), σ') := h
          replace h := ei_get h rfl (HS_g4_0 hsτ)
          obtain ⟨f, g, h⟩ := h
          replace hf := Nat.lt_trans g hf
          clear g
          replace h : EV F f 72 z72 35 [some (rf 4 (0)), some (.inl (c1)), some (.inl (c2)), some (.inl (c3)), some (.inl (c4)), some (.inl (c5)), some (.inl (u6)), some (.inl (u7)), y8, y9] [rf 0 (0)] τ (.inl (some (.inl w)), σ') := h
          replace h := ei_p h rfl rfl rfl rfl
          obtain ⟨f, g, h⟩ := h
          replace hf := Nat.lt_trans g hf
          clear g
          replace h : EV F f 72 z72 36 [some (rf 4 (0)), some (.inl (c1)), some (.inl (c2)), some (.inl (c3)), some (.inl (c4)), some (.inl (c5)), some (.inl (u6)), some (.inl (u7)), y8, y9] [.inl (c2), rf 0 (0)] τ (.inl (some (.inl w)), σ') := h
          replace h := ei_p h rfl rfl rfl rfl
          obtain ⟨f, g, h⟩ := h
          replace hf := Nat.lt_trans g hf
          clear g
          replace h : EV F f 72 z72 37 [some (rf 4 (0)), some (.inl (c1)), some (.inl (c2)), some (.inl (c3)), some (.inl (c4)), some (.inl (c5)), some (.inl (u6)), some (.inl (u7)), y8, y9] [.inl (Int32.ofInt 1), .inl (c2), rf 0 (0)] τ (.inl (some (.inl w)), σ') := h
          replace h := bk_R (ei_v (as := [.inl (Int32.ofInt 1), .inl (c2)]) h rfl rfl rfl) rfl z6_at rfl
          obtain ⟨v8, σ9, r10, f, g, h⟩ := h
          replace hf := Nat.lt_trans g hf
          clear g
          have er10 := ro_run rfl r10
          rw [er10] at h r10
          have p11 := x6 hsτ r10
          refine ⟨v8, p11, ?_⟩
          replace h : EV F f 72 z72 40 [some (rf 4 (0)), some (.inl (c1)), some (.inl (c2)), some (.inl (c3)), some (.inl (c4)), some (.inl (c5)), some (.inl (u6)), some (.inl (u7)), y8, y9] [.inr (.inr (v8))] τ (.inl (some (.inl w)), σ') := h
          replace h := ei_p h rfl rfl rfl rfl
          obtain ⟨f, g, h⟩ := h
          replace hf := Nat.lt_trans g hf
          clear g
          replace h : EV F f 72 z72 42 [some (rf 4 (0)), some (.inl (c1)), some (.inl (c2)), some (.inl (c3)), some (.inl (c4)), some (.inl (c5)), some (.inl (u6)), some (.inl (u7)), some (.inr (.inr (v8))), y9] [] τ (.inl (some (.inl w)), σ') := h
          replace h := ei_p h rfl rfl rfl rfl
          obtain ⟨f, g, h⟩ := h
          replace hf := Nat.lt_trans g hf
          clear g
          replace h : EV F f 72 z72 43 [some (rf 4 (0)), some (.inl (c1)), some (.inl (c2)), some (.inl (c3)), some (.inl (c4)), some (.inl (c5)), some (.inl (u6)), some (.inl (u7)), some (.inr (.inr (v8))), y9] [rf 4 (0)] τ (.inl (some (.inl w)), σ') := h
          replace h := ei_get h rfl (HS_g4_0 hsτ)
          obtain ⟨f, g, h⟩ := h
          replace hf := Nat.lt_trans g hf
          clear g
          replace h : EV F f 72 z72 46 [some (rf 4 (0)), some (.inl (c1)), some (.inl (c2)), some (.inl (c3)), some (.inl (c4)), some (.inl (c5)), some (.inl (u6)), some (.inl (u7)), some (.inr (.inr (v8))), y9] [rf 0 (0)] τ (.inl (some (.inl w)), σ') := h
          replace h := ei_p h rfl rfl rfl rfl
          obtain ⟨f, g, h⟩ := h
          replace hf := Nat.lt_trans g hf
          clear g
          replace h : EV F f 72 z72 47 [some (rf 4 (0)), some (.inl (c1)), some (.inl (c2)), some (.inl (c3)), some (.inl (c4)), some (.inl (c5)), some (.inl (u6)), some (.inl (u7)), some (.inr (.inr (v8))), y9] [.inl (c3), rf 0 (0)] τ (.inl (some (.inl w)), σ') := h
          replace h := ei_p h rfl rfl rfl rfl
          obtain ⟨f, g, h⟩ := h
          replace hf := Nat.lt_trans g hf
          clear g
          replace h : EV F f 72 z72 48 [some (rf 4 (0)), some (.inl (c1)), some (.inl (c2)), some (.inl (c3)), some (.inl (c4)), some (.inl (c5)), some (.inl (u6)), some (.inl (u7)), some (.inr (.inr (v8))), y9] [.inl (Int32.ofInt 0), .inl (c3), rf 0 (0)] τ (.inl (some (.inl w)), σ') := h
          replace h := bk_R (ei_v (as := [.inl (Int32.ofInt 0), .inl (c3)]) h rfl rfl rfl) rfl z6_at rfl
          obtain ⟨v12, σ13, r14, f, g, h⟩ := h
          replace hf := Nat.lt_trans g hf
          clear g
          have er14 := ro_run rfl r14
          rw [er14] at h r14
          have p15 := x6 hsτ r14
          refine ⟨v12, p15, ?_⟩
          replace h : EV F f 72 z72 51 [some (rf 4 (0)), some (.inl (c1)), some (.inl (c2)), some (.inl (c3)), some (.inl (c4)), some (.inl (c5)), some (.inl (u6)), some (.inl (u7)), some (.inr (.inr (v8))), y9] [.inr (.inr (v12))] τ (.inl (some (.inl w)), σ') := h
          replace h := ei_p h rfl rfl rfl rfl
          obtain ⟨f, g, h⟩ := h
          replace hf := Nat.lt_trans g hf
          clear g
          replace h : EV F f 72 z72 53 [some (rf 4 (0)), some (.inl (c1)), some (.inl (c2)), some (.inl (c3)), some (.inl (c4)), some (.inl (c5)), some (.inl (u6)), some (.inl (u7)), some (.inr (.inr (v8))), some (.inr (.inr (v12)))] [] τ (.inl (some (.inl w)), σ') := h
          replace h := ei_p h rfl rfl rfl rfl
          obtain ⟨f, g, h⟩ := h
          replace hf := Nat.lt_trans g hf
          clear g
          replace h : EV F f 72 z72 55 [some (rf 4 (0)), some (.inl (c1)), some (.inl (c2)), some (.inl (c3)), some (.inl (c4)), some (.inl (c5)), some (.inl (u6)), some (.inl (u7)), some (.inr (.inr (v8))), some (.inr (.inr (v12)))] [.inr (.inr (v8))] τ (.inl (some (.inl w)), σ') := h
          rcases r_cs (v8) with e16 | ⟨q17, e16⟩
          · skip
            rw [e16] at h
            refine Or.inl ⟨e16, ?_⟩
            replace h : EV F f 72 z72 55 [some (rf 4 (0)), some (.inl (c1)), some (.inl (c2)), some (.inl (c3)), some (.inl (c4)), some (.inl (c5)), some (.inl (u6)), some (.inl (u7)), some (.inr (.inr none)), some (.inr (.inr (v12)))] [.inr (.inr none)] τ (.inl (some (.inl w)), σ') := h
            replace h := ei_c h rfl rfl rfl
            rcases h with ⟨hp18, f, g, h⟩ | ⟨hp18, f, g, h⟩
            · skip
              replace hf := Nat.lt_trans g hf
              clear g
              replace h : EV F f 72 z72 161 [some (rf 4 (0)), some (.inl (c1)), some (.inl (c2)), some (.inl (c3)), some (.inl (c4)), some (.inl (c5)), some (.inl (u6)), some (.inl (u7)), some (.inr (.inr none)), some (.inr (.inr (v12)))] [] τ (.inl (some (.inl w)), σ') := h
              exact j72_161 hsτ h
            · exact absurd rfl hp18
          · skip
            rw [e16] at h
            refine Or.inr ⟨q17, e16, ?_⟩
            replace h : EV F f 72 z72 55 [some (rf 4 (0)), some (.inl (c1)), some (.inl (c2)), some (.inl (c3)), some (.inl (c4)), some (.inl (c5)), some (.inl (u6)), some (.inl (u7)), some (.inr (.inr (some q17))), some (.inr (.inr (v12)))] [.inr (.inr (some q17))] τ (.inl (some (.inl w)), σ') := h
            replace h := ei_c h rfl rfl rfl
            rcases h with ⟨hp19, f, g, h⟩ | ⟨hp19, f, g, h⟩
            · exact absurd hp19 (fun z => by cases z)
            · skip
              replace hf := Nat.lt_trans g hf
              clear g
              replace h : EV F f 72 z72 58 [some (rf 4 (0)), some (.inl (c1)), some (.inl (c2)), some (.inl (c3)), some (.inl (c4)), some (.inl (c5)), some (.inl (u6)), some (.inl (u7)), some (.inr (.inr (some q17))), some (.inr (.inr (v12)))] [] τ (.inl (some (.inl w)), σ') := h
              replace h := ei_p h rfl rfl rfl rfl
              obtain ⟨f, g, h⟩ := h
              replace hf := Nat.lt_trans g hf
              clear g
              replace h : EV F f 72 z72 60 [some (rf 4 (0)), some (.inl (c1)), some (.inl (c2)), some (.inl (c3)), some (.inl (c4)), some (.inl (c5)), some (.inl (u6)), some (.inl (u7)), some (.inr (.inr (some q17))), some (.inr (.inr (v12)))] [.inr (.inr (v12))] τ (.inl (some (.inl w)), σ') := h
              rcases r_cs (v12) with e20 | ⟨q21, e20⟩
              · skip
                rw [e20] at h
                refine Or.inl ⟨e20, ?_⟩
                replace h : EV F f 72 z72 60 [some (rf 4 (0)), some (.inl (c1)), some (.inl (c2)), some (.inl (c3)), some (.inl (c4)), some (.inl (c5)), some (.inl (u6)), some (.inl (u7)), some (.inr (.inr (some q17))), some (.inr (.inr none))] [.inr (.inr none)] τ (.inl (some (.inl w)), σ') := h
                replace h := ei_c h rfl rfl rfl
                rcases h with ⟨hp22, f, g, h⟩ | ⟨hp22, f, g, h⟩
                · skip
                  replace hf := Nat.lt_trans g hf
                  clear g
                  replace h : EV F f 72 z72 161 [some (rf 4 (0)), some (.inl (c1)), some (.inl (c2)), some (.inl (c3)), some (.inl (c4)), some (.inl (c5)), some (.inl (u6)), some (.inl (u7)), some (.inr (.inr (some q17))), some (.inr (.inr none))] [] τ (.inl (some (.inl w)), σ') := h
                  exact j72_161 hsτ h
                · exact absurd rfl hp22
              · skip
                rw [e20] at h
                refine Or.inr ⟨q21, e20, ?_⟩
                replace h : EV F f 72 z72 60 [some (rf 4 (0)), some (.inl (c1)), some (.inl (c2)), some (.inl (c3)), some (.inl (c4)), some (.inl (c5)), some (.inl (u6)), some (.inl (u7)), some (.inr (.inr (some q17))), some (.inr (.inr (some q21)))] [.inr (.inr (some q21))] τ (.inl (some (.inl w)), σ') := h
                replace h := ei_c h rfl rfl rfl
                rcases h with ⟨hp23, f, g, h⟩ | ⟨hp23, f, g, h⟩
                · exact absurd hp23 (fun z => by cases z)
                · skip
                  replace hf := Nat.lt_trans g hf
                  clear g
                  replace h : EV F f 72 z72 63 [some (rf 4 (0)), some (.inl (c1)), some (.inl (c2)), some (.inl (c3)), some (.inl (c4)), some (.inl (c5)), some (.inl (u6)), some (.inl (u7)), some (.inr (.inr (some q17))), some (.inr (.inr (some q21)))] [] τ (.inl (some (.inl w)), σ') := h
                  replace h := ei_p h rfl rfl rfl rfl
                  obtain ⟨f, g, h⟩ := h
                  replace hf := Nat.lt_trans g hf
                  clear g
                  replace h : EV F f 72 z72 65 [some (rf 4 (0)), some (.inl (c1)), some (.inl (c2)), some (.inl (c3)), some (.inl (c4)), some (.inl (c5)), some (.inl (u6)), some (.inl (u7)), some (.inr (.inr (some q17))), some (.inr (.inr (some q21)))] [.inr (.inr (some q17))] τ (.inl (some (.inl w)), σ') := h
                  obtain ⟨i24, e25⟩ := ei_gp h rfl
                  rw [Option.some.inj e25] at h
                  refine ⟨i24, e25, ?_⟩
                  replace h : EV F f 72 z72 65 [some (rf 4 (0)), some (.inl (c1)), some (.inl (c2)), some (.inl (c3)), some (.inl (c4)), some (.inl (c5)), some (.inl (u6)), some (.inl (u7)), some (rf 7 (i24)), some (.inr (.inr (some q21)))] [rf 7 (i24)] τ (.inl (some (.inl w)), σ') := h
                  replace h := ei_get h rfl rfl
                  obtain ⟨f, g, h⟩ := h
                  replace hf := Nat.lt_trans g hf
                  clear g
                  replace h : EV F f 72 z72 68 [some (rf 4 (0)), some (.inl (c1)), some (.inl (c2)), some (.inl (c3)), some (.inl (c4)), some (.inl (c5)), some (.inl (u6)), some (.inl (u7)), some (rf 7 (i24)), some (.inr (.inr (some q21)))] [.inl (m_i τ 7 (i24) 4)] τ (.inl (some (.inl w)), σ') := h
                  replace h := ei_p h rfl rfl rfl rfl
                  obtain ⟨f, g, h⟩ := h
                  replace hf := Nat.lt_trans g hf
                  clear g
                  replace h : EV F f 72 z72 70 [some (rf 4 (0)), some (.inl (c1)), some (.inl (c2)), some (.inl (c3)), some (.inl (c4)), some (.inl (c5)), some (.inl (u6)), some (.inl (u7)), some (rf 7 (i24)), some (.inr (.inr (some q21)))] [.inr (.inr (some q21)), .inl (m_i τ 7 (i24) 4)] τ (.inl (some (.inl w)), σ') := h
                  obtain ⟨i26, e27⟩ := ei_gp h rfl
                  rw [Option.some.inj e27] at h
                  refine ⟨i26, e27, ?_⟩
                  replace h : EV F f 72 z72 70 [some (rf 4 (0)), some (.inl (c1)), some (.inl (c2)), some (.inl (c3)), some (.inl (c4)), some (.inl (c5)), some (.inl (u6)), some (.inl (u7)), some (rf 7 (i24)), some (rf 7 (i26))] [rf 7 (i26), .inl (m_i τ 7 (i24) 4)] τ (.inl (some (.inl w)), σ') := h
                  replace h := ei_get h rfl rfl
                  obtain ⟨f, g, h⟩ := h
                  replace hf := Nat.lt_trans g hf
                  clear g
                  replace h : EV F f 72 z72 73 [some (rf 4 (0)), some (.inl (c1)), some (.inl (c2)), some (.inl (c3)), some (.inl (c4)), some (.inl (c5)), some (.inl (u6)), some (.inl (u7)), some (rf 7 (i24)), some (rf 7 (i26))] [.inl (m_i τ 7 (i26) 4), .inl (m_i τ 7 (i24) 4)] τ (.inl (some (.inl w)), σ') := h
                  replace h := ei_p h rfl rfl rfl rfl
                  obtain ⟨f, g, h⟩ := h
                  replace hf := Nat.lt_trans g hf
                  clear g
                  replace h : EV F f 72 z72 74 [some (rf 4 (0)), some (.inl (c1)), some (.inl (c2)), some (.inl (c3)), some (.inl (c4)), some (.inl (c5)), some (.inl (u6)), some (.inl (u7)), some (rf 7 (i24)), some (rf 7 (i26))] [.inl ((m_i τ 7 (i24) 4) - (m_i τ 7 (i26) 4))] τ (.inl (some (.inl w)), σ') := h
                  replace h := ei_p h rfl rfl rfl rfl
                  obtain ⟨f, g, h⟩ := h
                  replace hf := Nat.lt_trans g hf
                  clear g
                  replace h : EV F f 72 z72 76 [some (rf 4 (0)), some (.inl (c1)), some (.inl (c2)), some (.inl (c3)), some (.inl (c4)), some (.inl (c5)), some (.inl (u6)), some (.inl (u7)), some (rf 7 (i24)), some (rf 7 (i26))] [.inl (c5), .inl ((m_i τ 7 (i24) 4) - (m_i τ 7 (i26) 4))] τ (.inl (some (.inl w)), σ') := h
                  replace h := ei_c h rfl rfl rfl
                  rcases h with ⟨hp28, f, g, h⟩ | ⟨hp28, f, g, h⟩
                  · skip
                    replace hp28 : ((m_i τ 7 (i24) 4) - (m_i τ 7 (i26) 4)).toInt ≤ (c5).toInt := ic_le.mp hp28
                    refine Or.inl ⟨hp28, ?_⟩
                    replace hf := Nat.lt_trans g hf
                    clear g
                    replace h : EV F f 72 z72 82 [some (rf 4 (0)), some (.inl (c1)), some (.inl (c2)), some (.inl (c3)), some (.inl (c4)), some (.inl (c5)), some (.inl (u6)), some (.inl (u7)), some (rf 7 (i24)), some (rf 7 (i26))] [] τ (.inl (some (.inl w)), σ') := h
                    replace h := ei_p h rfl rfl rfl rfl
                    obtain ⟨f, g, h⟩ := h
                    replace hf := Nat.lt_trans g hf
                    clear g
                    replace h : EV F f 72 z72 84 [some (rf 4 (0)), some (.inl (c1)), some (.inl (c2)), some (.inl (c3)), some (.inl (c4)), some (.inl (c5)), some (.inl (u6)), some (.inl (u7)), some (rf 7 (i24)), some (rf 7 (i26))] [rf 7 (i24)] τ (.inl (some (.inl w)), σ') := h
                    replace h := ei_get h rfl rfl
                    obtain ⟨f, g, h⟩ := h
                    replace hf := Nat.lt_trans g hf
                    clear g
                    replace h : EV F f 72 z72 87 [some (rf 4 (0)), some (.inl (c1)), some (.inl (c2)), some (.inl (c3)), some (.inl (c4)), some (.inl (c5)), some (.inl (u6)), some (.inl (u7)), some (rf 7 (i24)), some (rf 7 (i26))] [.inl (m_i τ 7 (i24) 1)] τ (.inl (some (.inl w)), σ') := h
                    replace h := ei_p h rfl rfl rfl rfl
                    obtain ⟨f, g, h⟩ := h
                    replace hf := Nat.lt_trans g hf
                    clear g
                    replace h : EV F f 72 z72 88 [some (rf 4 (0)), some (.inl (c1)), some (.inl (c2)), some (.inl (c3)), some (.inl (c4)), some (.inl (c5)), some (.inl (u6)), some (.inl (u7)), some (rf 7 (i24)), some (rf 7 (i26))] [.inl (c1), .inl (m_i τ 7 (i24) 1)] τ (.inl (some (.inl w)), σ') := h
                    replace h := ei_c h rfl rfl rfl
                    rcases h with ⟨hp29, f, g, h⟩ | ⟨hp29, f, g, h⟩
                    · skip
                      replace hp29 : (m_i τ 7 (i24) 1).toInt = (c1).toInt := ic_eq.mp hp29
                      refine Or.inl ⟨hp29, ?_⟩
                      replace hf := Nat.lt_trans g hf
                      clear g
                      replace h : EV F f 72 z72 100 [some (rf 4 (0)), some (.inl (c1)), some (.inl (c2)), some (.inl (c3)), some (.inl (c4)), some (.inl (c5)), some (.inl (u6)), some (.inl (u7)), some (rf 7 (i24)), some (rf 7 (i26))] [] τ (.inl (some (.inl w)), σ') := h
                      replace h := ei_p h rfl rfl rfl rfl
                      obtain ⟨f, g, h⟩ := h
                      replace hf := Nat.lt_trans g hf
                      clear g
                      replace h : EV F f 72 z72 102 [some (rf 4 (0)), some (.inl (c1)), some (.inl (c2)), some (.inl (c3)), some (.inl (c4)), some (.inl (c5)), some (.inl (u6)), some (.inl (u7)), some (rf 7 (i24)), some (rf 7 (i26))] [rf 7 (i24)] τ (.inl (some (.inl w)), σ') := h
                      replace h := ei_get h rfl rfl
                      obtain ⟨f, g, h⟩ := h
                      replace hf := Nat.lt_trans g hf
                      clear g
                      replace h : EV F f 72 z72 105 [some (rf 4 (0)), some (.inl (c1)), some (.inl (c2)), some (.inl (c3)), some (.inl (c4)), some (.inl (c5)), some (.inl (u6)), some (.inl (u7)), some (rf 7 (i24)), some (rf 7 (i26))] [.inl (m_i τ 7 (i24) 1)] τ (.inl (some (.inl w)), σ') := h
                      replace h := ei_p h rfl rfl rfl rfl
                      obtain ⟨f, g, h⟩ := h
                      replace hf := Nat.lt_trans g hf
                      clear g
                      replace h : EV F f 72 z72 106 [some (rf 4 (0)), some (.inl (c1)), some (.inl (c2)), some (.inl (c3)), some (.inl (c4)), some (.inl (c5)), some (.inl (u6)), some (.inl (u7)), some (rf 7 (i24)), some (rf 7 (i26))] [.inl (c1), .inl (m_i τ 7 (i24) 1)] τ (.inl (some (.inl w)), σ') := h
                      replace h := ei_c h rfl rfl rfl
                      rcases h with ⟨hp30, f, g, h⟩ | ⟨hp30, f, g, h⟩
                      · skip
                        replace hp30 : (m_i τ 7 (i24) 1).toInt ≠ (c1).toInt := ic_ne.mp hp30
                        refine Or.inl ⟨hp30, ?_⟩
                        replace hf := Nat.lt_trans g hf
                        clear g
                        replace h : EV F f 72 z72 114 [some (rf 4 (0)), some (.inl (c1)), some (.inl (c2)), some (.inl (c3)), some (.inl (c4)), some (.inl (c5)), some (.inl (u6)), some (.inl (u7)), some (rf 7 (i24)), some (rf 7 (i26))] [] τ (.inl (some (.inl w)), σ') := h
                        replace h := ei_p h rfl rfl rfl rfl
                        obtain ⟨f, g, h⟩ := h
                        replace hf := Nat.lt_trans g hf
                        clear g
                        replace h : EV F f 72 z72 115 [some (rf 4 (0)), some (.inl (c1)), some (.inl (c2)), some (.inl (c3)), some (.inl (c4)), some (.inl (c5)), some (.inl (u6)), some (.inl (u7)), some (rf 7 (i24)), some (rf 7 (i26))] [.inr (.inr none)] τ (.inl (some (.inl w)), σ') := h
                        replace h := bk_0 (ei_s (as := [.inr (.inr none)]) h rfl (Nat.le_of_ble_eq_true rfl) rfl rfl) rfl z68_at rfl
                        obtain ⟨σ32, r33, f, g, h⟩ := h
                        replace hf := Nat.lt_trans g hf
                        clear g
                        have p34 := x68 hsτ r33
                        have hsσ32 : HS σ32 := HS_run rfl r33 hsτ
                        refine ⟨σ32, fw_run W68 rfl r33, p34, ?_⟩
                        replace h : EV F f 72 z72 118 [some (rf 4 (0)), some (.inl (c1)), some (.inl (c2)), some (.inl (c3)), some (.inl (c4)), some (.inl (c5)), some (.inl (u6)), some (.inl (u7)), some (rf 7 (i24)), some (rf 7 (i26))] [] σ32 (.inl (some (.inl w)), σ') := h
                        replace h := ei_p h rfl rfl rfl rfl
                        obtain ⟨f, g, h⟩ := h
                        replace hf := Nat.lt_trans g hf
                        clear g
                        replace h : EV F f 72 z72 120 [some (rf 4 (0)), some (.inl (c1)), some (.inl (c2)), some (.inl (c3)), some (.inl (c4)), some (.inl (c5)), some (.inl (u6)), some (.inl (u7)), some (rf 7 (i24)), some (rf 7 (i26))] [rf 7 (i26)] σ32 (.inl (some (.inl w)), σ') := h
                        replace h := ei_get h rfl rfl
                        obtain ⟨f, g, h⟩ := h
                        replace hf := Nat.lt_trans g hf
                        clear g
                        replace h : EV F f 72 z72 123 [some (rf 4 (0)), some (.inl (c1)), some (.inl (c2)), some (.inl (c3)), some (.inl (c4)), some (.inl (c5)), some (.inl (u6)), some (.inl (u7)), some (rf 7 (i24)), some (rf 7 (i26))] [.inl (m_i σ32 7 (i26) 1)] σ32 (.inl (some (.inl w)), σ') := h
                        replace h := ei_p h rfl rfl rfl rfl
                        obtain ⟨f, g, h⟩ := h
                        replace hf := Nat.lt_trans g hf
                        clear g
                        replace h : EV F f 72 z72 124 [some (rf 4 (0)), some (.inl (c1)), some (.inl (c2)), some (.inl (c3)), some (.inl (c4)), some (.inl (c5)), some (.inl (u6)), some (.inl (u7)), some (rf 7 (i24)), some (rf 7 (i26))] [.inl (c1), .inl (m_i σ32 7 (i26) 1)] σ32 (.inl (some (.inl w)), σ') := h
                        replace h := ei_c h rfl rfl rfl
                        rcases h with ⟨hp35, f, g, h⟩ | ⟨hp35, f, g, h⟩
                        · skip
                          replace hp35 : (m_i σ32 7 (i26) 1).toInt ≠ (c1).toInt := ic_ne.mp hp35
                          refine Or.inl ⟨hp35, ?_⟩
                          replace hf := Nat.lt_trans g hf
                          clear g
                          replace h : EV F f 72 z72 132 [some (rf 4 (0)), some (.inl (c1)), some (.inl (c2)), some (.inl (c3)), some (.inl (c4)), some (.inl (c5)), some (.inl (u6)), some (.inl (u7)), some (rf 7 (i24)), some (rf 7 (i26))] [] σ32 (.inl (some (.inl w)), σ') := h
                          replace h := ei_p h rfl rfl rfl rfl
                          obtain ⟨f, g, h⟩ := h
                          replace hf := Nat.lt_trans g hf
                          clear g
                          replace h : EV F f 72 z72 133 [some (rf 4 (0)), some (.inl (c1)), some (.inl (c2)), some (.inl (c3)), some (.inl (c4)), some (.inl (c5)), some (.inl (u6)), some (.inl (u7)), some (rf 7 (i24)), some (rf 7 (i26))] [.inr (.inr none)] σ32 (.inl (some (.inl w)), σ') := h
                          replace h := bk_0 (ei_s (as := [.inr (.inr none)]) h rfl (Nat.le_of_ble_eq_true rfl) rfl rfl) rfl z68_at rfl
                          obtain ⟨σ37, r38, f, g, h⟩ := h
                          replace hf := Nat.lt_trans g hf
                          clear g
                          have p39 := x68 hsσ32 r38
                          have hsσ37 : HS σ37 := HS_run rfl r38 hsσ32
                          refine ⟨σ37, fw_run W68 rfl r38, p39, ?_⟩
                          replace h : EV F f 72 z72 136 [some (rf 4 (0)), some (.inl (c1)), some (.inl (c2)), some (.inl (c3)), some (.inl (c4)), some (.inl (c5)), some (.inl (u6)), some (.inl (u7)), some (rf 7 (i24)), some (rf 7 (i26))] [] σ37 (.inl (some (.inl w)), σ') := h
                          replace h := ei_p h rfl rfl rfl rfl
                          obtain ⟨f, g, h⟩ := h
                          replace hf := Nat.lt_trans g hf
                          clear g
                          replace h : EV F f 72 z72 155 [some (rf 4 (0)), some (.inl (c1)), some (.inl (c2)), some (.inl (c3)), some (.inl (c4)), some (.inl (c5)), some (.inl (u6)), some (.inl (u7)), some (rf 7 (i24)), some (rf 7 (i26))] [] σ37 (.inl (some (.inl w)), σ') := h
                          replace h := ei_p h rfl rfl rfl rfl
                          obtain ⟨f, g, h⟩ := h
                          replace hf := Nat.lt_trans g hf
                          clear g
                          replace h : EV F f 72 z72 158 [some (rf 4 (0)), some (.inl (c1)), some (.inl (c2)), some (.inl (c3)), some (.inl (c4)), some (.inl (c5)), some (.inl (u6)), some (.inl ((u7) + Int32.ofInt 1)), some (rf 7 (i24)), some (rf 7 (i26))] [] σ37 (.inl (some (.inl w)), σ') := h
                          replace h := ei_p h rfl rfl rfl rfl
                          obtain ⟨f, g, h⟩ := h
                          replace hf := Nat.lt_trans g hf
                          clear g
                          replace h : EV F f 72 z72 7 [some (rf 4 (0)), some (.inl (c1)), some (.inl (c2)), some (.inl (c3)), some (.inl (c4)), some (.inl (c5)), some (.inl (u6)), some (.inl ((u7) + Int32.ofInt 1)), some (rf 7 (i24)), some (rf 7 (i26))] [] σ37 (.inl (some (.inl w)), σ') := h
                          exact IH f hf (u6) ((u7) + Int32.ofInt 1) (some (rf 7 (i24))) (some (rf 7 (i26))) σ37 hsσ37 h
                        · skip
                          replace hp35 : ¬ ((m_i σ32 7 (i26) 1).toInt ≠ (c1).toInt) := (not_congr ic_ne).mp hp35
                          refine Or.inr ⟨hp35, ?_⟩
                          replace hf := Nat.lt_trans g hf
                          clear g
                          replace h : EV F f 72 z72 127 [some (rf 4 (0)), some (.inl (c1)), some (.inl (c2)), some (.inl (c3)), some (.inl (c4)), some (.inl (c5)), some (.inl (u6)), some (.inl (u7)), some (rf 7 (i24)), some (rf 7 (i26))] [] σ32 (.inl (some (.inl w)), σ') := h
                          replace h := ei_p h rfl rfl rfl rfl
                          obtain ⟨f, g, h⟩ := h
                          replace hf := Nat.lt_trans g hf
                          clear g
                          replace h : EV F f 72 z72 129 [some (rf 4 (0)), some (.inl (c1)), some (.inl (c2)), some (.inl (c3)), some (.inl (c4)), some (.inl (c5)), some (.inl (u6)), some (.inl (u7)), some (rf 7 (i24)), some (rf 7 (i26))] [rf 7 (i26)] σ32 (.inl (some (.inl w)), σ') := h
                          replace h := ei_p h rfl rfl rfl rfl
                          obtain ⟨f, g, h⟩ := h
                          replace hf := Nat.lt_trans g hf
                          clear g
                          replace h : EV F f 72 z72 133 [some (rf 4 (0)), some (.inl (c1)), some (.inl (c2)), some (.inl (c3)), some (.inl (c4)), some (.inl (c5)), some (.inl (u6)), some (.inl (u7)), some (rf 7 (i24)), some (rf 7 (i26))] [rf 7 (i26)] σ32 (.inl (some (.inl w)), σ') := h
                          replace h := bk_0 (ei_s (as := [rf 7 (i26)]) h rfl (Nat.le_of_ble_eq_true rfl) rfl rfl) rfl z68_at rfl
                          obtain ⟨σ41, r42, f, g, h⟩ := h
                          replace hf := Nat.lt_trans g hf
                          clear g
                          have p43 := x68 hsσ32 r42
                          have hsσ41 : HS σ41 := HS_run rfl r42 hsσ32
                          refine ⟨σ41, fw_run W68 rfl r42, p43, ?_⟩
                          replace h : EV F f 72 z72 136 [some (rf 4 (0)), some (.inl (c1)), some (.inl (c2)), some (.inl (c3)), some (.inl (c4)), some (.inl (c5)), some (.inl (u6)), some (.inl (u7)), some (rf 7 (i24)), some (rf 7 (i26))] [] σ41 (.inl (some (.inl w)), σ') := h
                          replace h := ei_p h rfl rfl rfl rfl
                          obtain ⟨f, g, h⟩ := h
                          replace hf := Nat.lt_trans g hf
                          clear g
                          replace h : EV F f 72 z72 155 [some (rf 4 (0)), some (.inl (c1)), some (.inl (c2)), some (.inl (c3)), some (.inl (c4)), some (.inl (c5)), some (.inl (u6)), some (.inl (u7)), some (rf 7 (i24)), some (rf 7 (i26))] [] σ41 (.inl (some (.inl w)), σ') := h
                          replace h := ei_p h rfl rfl rfl rfl
                          obtain ⟨f, g, h⟩ := h
                          replace hf := Nat.lt_trans g hf
                          clear g
                          replace h : EV F f 72 z72 158 [some (rf 4 (0)), some (.inl (c1)), some (.inl (c2)), some (.inl (c3)), some (.inl (c4)), some (.inl (c5)), some (.inl (u6)), some (.inl ((u7) + Int32.ofInt 1)), some (rf 7 (i24)), some (rf 7 (i26))] [] σ41 (.inl (some (.inl w)), σ') := h
                          replace h := ei_p h rfl rfl rfl rfl
                          obtain ⟨f, g, h⟩ := h
                          replace hf := Nat.lt_trans g hf
                          clear g
                          replace h : EV F f 72 z72 7 [some (rf 4 (0)), some (.inl (c1)), some (.inl (c2)), some (.inl (c3)), some (.inl (c4)), some (.inl (c5)), some (.inl (u6)), some (.inl ((u7) + Int32.ofInt 1)), some (rf 7 (i24)), some (rf 7 (i26))] [] σ41 (.inl (some (.inl w)), σ') := h
                          exact IH f hf (u6) ((u7) + Int32.ofInt 1) (some (rf 7 (i24))) (some (rf 7 (i26))) σ41 hsσ41 h
                      · skip
                        replace hp30 : ¬ ((m_i τ 7 (i24) 1).toInt ≠ (c1).toInt) := (not_congr ic_ne).mp hp30
                        refine Or.inr ⟨hp30, ?_⟩
                        replace hf := Nat.lt_trans g hf
                        clear g
                        replace h : EV F f 72 z72 109 [some (rf 4 (0)), some (.inl (c1)), some (.inl (c2)), some (.inl (c3)), some (.inl (c4)), some (.inl (c5)), some (.inl (u6)), some (.inl (u7)), some (rf 7 (i24)), some (rf 7 (i26))] [] τ (.inl (some (.inl w)), σ') := h
                        replace h := ei_p h rfl rfl rfl rfl
                        obtain ⟨f, g, h⟩ := h
                        replace hf := Nat.lt_trans g hf
                        clear g
                        replace h : EV F f 72 z72 111 [some (rf 4 (0)), some (.inl (c1)), some (.inl (c2)), some (.inl (c3)), some (.inl (c4)), some (.inl (c5)), some (.inl (u6)), some (.inl (u7)), some (rf 7 (i24)), some (rf 7 (i26))] [rf 7 (i24)] τ (.inl (some (.inl w)), σ') := h
                        replace h := ei_p h rfl rfl rfl rfl
                        obtain ⟨f, g, h⟩ := h
                        replace hf := Nat.lt_trans g hf
                        clear g
                        replace h : EV F f 72 z72 115 [some (rf 4 (0)), some (.inl (c1)), some (.inl (c2)), some (.inl (c3)), some (.inl (c4)), some (.inl (c5)), some (.inl (u6)), some (.inl (u7)), some (rf 7 (i24)), some (rf 7 (i26))] [rf 7 (i24)] τ (.inl (some (.inl w)), σ') := h
                        replace h := bk_0 (ei_s (as := [rf 7 (i24)]) h rfl (Nat.le_of_ble_eq_true rfl) rfl rfl) rfl z68_at rfl
                        obtain ⟨σ45, r46, f, g, h⟩ := h
                        replace hf := Nat.lt_trans g hf
                        clear g
                        have p47 := x68 hsτ r46
                        have hsσ45 : HS σ45 := HS_run rfl r46 hsτ
                        refine ⟨σ45, fw_run W68 rfl r46, p47, ?_⟩
                        replace h : EV F f 72 z72 118 [some (rf 4 (0)), some (.inl (c1)), some (.inl (c2)), some (.inl (c3)), some (.inl (c4)), some (.inl (c5)), some (.inl (u6)), some (.inl (u7)), some (rf 7 (i24)), some (rf 7 (i26))] [] σ45 (.inl (some (.inl w)), σ') := h
                        replace h := ei_p h rfl rfl rfl rfl
                        obtain ⟨f, g, h⟩ := h
                        replace hf := Nat.lt_trans g hf
                        clear g
                        replace h : EV F f 72 z72 120 [some (rf 4 (0)), some (.inl (c1)), some (.inl (c2)), some (.inl (c3)), some (.inl (c4)), some (.inl (c5)), some (.inl (u6)), some (.inl (u7)), some (rf 7 (i24)), some (rf 7 (i26))] [rf 7 (i26)] σ45 (.inl (some (.inl w)), σ') := h
                        replace h := ei_get h rfl rfl
                        obtain ⟨f, g, h⟩ := h
                        replace hf := Nat.lt_trans g hf
                        clear g
                        replace h : EV F f 72 z72 123 [some (rf 4 (0)), some (.inl (c1)), some (.inl (c2)), some (.inl (c3)), some (.inl (c4)), some (.inl (c5)), some (.inl (u6)), some (.inl (u7)), some (rf 7 (i24)), some (rf 7 (i26))] [.inl (m_i σ45 7 (i26) 1)] σ45 (.inl (some (.inl w)), σ') := h
                        replace h := ei_p h rfl rfl rfl rfl
                        obtain ⟨f, g, h⟩ := h
                        replace hf := Nat.lt_trans g hf
                        clear g
                        replace h : EV F f 72 z72 124 [some (rf 4 (0)), some (.inl (c1)), some (.inl (c2)), some (.inl (c3)), some (.inl (c4)), some (.inl (c5)), some (.inl (u6)), some (.inl (u7)), some (rf 7 (i24)), some (rf 7 (i26))] [.inl (c1), .inl (m_i σ45 7 (i26) 1)] σ45 (.inl (some (.inl w)), σ') := h
                        replace h := ei_c h rfl rfl rfl
                        rcases h with ⟨hp48, f, g, h⟩ | ⟨hp48, f, g, h⟩
                        · skip
                          replace hp48 : (m_i σ45 7 (i26) 1).toInt ≠ (c1).toInt := ic_ne.mp hp48
                          refine Or.inl ⟨hp48, ?_⟩
                          replace hf := Nat.lt_trans g hf
                          clear g
                          replace h : EV F f 72 z72 132 [some (rf 4 (0)), some (.inl (c1)), some (.inl (c2)), some (.inl (c3)), some (.inl (c4)), some (.inl (c5)), some (.inl (u6)), some (.inl (u7)), some (rf 7 (i24)), some (rf 7 (i26))] [] σ45 (.inl (some (.inl w)), σ') := h
                          replace h := ei_p h rfl rfl rfl rfl
                          obtain ⟨f, g, h⟩ := h
                          replace hf := Nat.lt_trans g hf
                          clear g
                          replace h : EV F f 72 z72 133 [some (rf 4 (0)), some (.inl (c1)), some (.inl (c2)), some (.inl (c3)), some (.inl (c4)), some (.inl (c5)), some (.inl (u6)), some (.inl (u7)), some (rf 7 (i24)), some (rf 7 (i26))] [.inr (.inr none)] σ45 (.inl (some (.inl w)), σ') := h
                          replace h := bk_0 (ei_s (as := [.inr (.inr none)]) h rfl (Nat.le_of_ble_eq_true rfl) rfl rfl) rfl z68_at rfl
                          obtain ⟨σ50, r51, f, g, h⟩ := h
                          replace hf := Nat.lt_trans g hf
                          clear g
                          have p52 := x68 hsσ45 r51
                          have hsσ50 : HS σ50 := HS_run rfl r51 hsσ45
                          refine ⟨σ50, fw_run W68 rfl r51, p52, ?_⟩
                          replace h : EV F f 72 z72 136 [some (rf 4 (0)), some (.inl (c1)), some (.inl (c2)), some (.inl (c3)), some (.inl (c4)), some (.inl (c5)), some (.inl (u6)), some (.inl (u7)), some (rf 7 (i24)), some (rf 7 (i26))] [] σ50 (.inl (some (.inl w)), σ') := h
                          replace h := ei_p h rfl rfl rfl rfl
                          obtain ⟨f, g, h⟩ := h
                          replace hf := Nat.lt_trans g hf
                          clear g
                          replace h : EV F f 72 z72 155 [some (rf 4 (0)), some (.inl (c1)), some (.inl (c2)), some (.inl (c3)), some (.inl (c4)), some (.inl (c5)), some (.inl (u6)), some (.inl (u7)), some (rf 7 (i24)), some (rf 7 (i26))] [] σ50 (.inl (some (.inl w)), σ') := h
                          replace h := ei_p h rfl rfl rfl rfl
                          obtain ⟨f, g, h⟩ := h
                          replace hf := Nat.lt_trans g hf
                          clear g
                          replace h : EV F f 72 z72 158 [some (rf 4 (0)), some (.inl (c1)), some (.inl (c2)), some (.inl (c3)), some (.inl (c4)), some (.inl (c5)), some (.inl (u6)), some (.inl ((u7) + Int32.ofInt 1)), some (rf 7 (i24)), some (rf 7 (i26))] [] σ50 (.inl (some (.inl w)), σ') := h
                          replace h := ei_p h rfl rfl rfl rfl
                          obtain ⟨f, g, h⟩ := h
                          replace hf := Nat.lt_trans g hf
                          clear g
                          replace h : EV F f 72 z72 7 [some (rf 4 (0)), some (.inl (c1)), some (.inl (c2)), some (.inl (c3)), some (.inl (c4)), some (.inl (c5)), some (.inl (u6)), some (.inl ((u7) + Int32.ofInt 1)), some (rf 7 (i24)), some (rf 7 (i26))] [] σ50 (.inl (some (.inl w)), σ') := h
                          exact IH f hf (u6) ((u7) + Int32.ofInt 1) (some (rf 7 (i24))) (some (rf 7 (i26))) σ50 hsσ50 h
                        · skip
                          replace hp48 : ¬ ((m_i σ45 7 (i26) 1).toInt ≠ (c1).toInt) := (not_congr ic_ne).mp hp48
                          refine Or.inr ⟨hp48, ?_⟩
                          replace hf := Nat.lt_trans g hf
                          clear g
                          replace h : EV F f 72 z72 127 [some (rf 4 (0)), some (.inl (c1)), some (.inl (c2)), some (.inl (c3)), some (.inl (c4)), some (.inl (c5)), some (.inl (u6)), some (.inl (u7)), some (rf 7 (i24)), some (rf 7 (i26))] [] σ45 (.inl (some (.inl w)), σ') := h
                          replace h := ei_p h rfl rfl rfl rfl
                          obtain ⟨f, g, h⟩ := h
                          replace hf := Nat.lt_trans g hf
                          clear g
                          replace h : EV F f 72 z72 129 [some (rf 4 (0)), some (.inl (c1)), some (.inl (c2)), some (.inl (c3)), some (.inl (c4)), some (.inl (c5)), some (.inl (u6)), some (.inl (u7)), some (rf 7 (i24)), some (rf 7 (i26))] [rf 7 (i26)] σ45 (.inl (some (.inl w)), σ') := h
                          replace h := ei_p h rfl rfl rfl rfl
                          obtain ⟨f, g, h⟩ := h
                          replace hf := Nat.lt_trans g hf
                          clear g
                          replace h : EV F f 72 z72 133 [some (rf 4 (0)), some (.inl (c1)), some (.inl (c2)), some (.inl (c3)), some (.inl (c4)), some (.inl (c5)), some (.inl (u6)), some (.inl (u7)), some (rf 7 (i24)), some (rf 7 (i26))] [rf 7 (i26)] σ45 (.inl (some (.inl w)), σ') := h
                          replace h := bk_0 (ei_s (as := [rf 7 (i26)]) h rfl (Nat.le_of_ble_eq_true rfl) rfl rfl) rfl z68_at rfl
                          obtain ⟨σ54, r55, f, g, h⟩ := h
                          replace hf := Nat.lt_trans g hf
                          clear g
                          have p56 := x68 hsσ45 r55
                          have hsσ54 : HS σ54 := HS_run rfl r55 hsσ45
                          refine ⟨σ54, fw_run W68 rfl r55, p56, ?_⟩
                          replace h : EV F f 72 z72 136 [some (rf 4 (0)), some (.inl (c1)), some (.inl (c2)), some (.inl (c3)), some (.inl (c4)), some (.inl (c5)), some (.inl (u6)), some (.inl (u7)), some (rf 7 (i24)), some (rf 7 (i26))] [] σ54 (.inl (some (.inl w)), σ') := h
                          replace h := ei_p h rfl rfl rfl rfl
                          obtain ⟨f, g, h⟩ := h
                          replace hf := Nat.lt_trans g hf
                          clear g
                          replace h : EV F f 72 z72 155 [some (rf 4 (0)), some (.inl (c1)), some (.inl (c2)), some (.inl (c3)), some (.inl (c4)), some (.inl (c5)), some (.inl (u6)), some (.inl (u7)), some (rf 7 (i24)), some (rf 7 (i26))] [] σ54 (.inl (some (.inl w)), σ') := h
                          replace h := ei_p h rfl rfl rfl rfl
                          obtain ⟨f, g, h⟩ := h
                          replace hf := Nat.lt_trans g hf
                          clear g
                          replace h : EV F f 72 z72 158 [some (rf 4 (0)), some (.inl (c1)), some (.inl (c2)), some (.inl (c3)), some (.inl (c4)), some (.inl (c5)), some (.inl (u6)), some (.inl ((u7) + Int32.ofInt 1)), some (rf 7 (i24)), some (rf 7 (i26))] [] σ54 (.inl (some (.inl w)), σ') := h
                          replace h := ei_p h rfl rfl rfl rfl
                          obtain ⟨f, g, h⟩ := h
                          replace hf := Nat.lt_trans g hf
                          clear g
                          replace h : EV F f 72 z72 7 [some (rf 4 (0)), some (.inl (c1)), some (.inl (c2)), some (.inl (c3)), some (.inl (c4)), some (.inl (c5)), some (.inl (u6)), some (.inl ((u7) + Int32.ofInt 1)), some (rf 7 (i24)), some (rf 7 (i26))] [] σ54 (.inl (some (.inl w)), σ') := h
                          exact IH f hf (u6) ((u7) + Int32.ofInt 1) (some (rf 7 (i24))) (some (rf 7 (i26))) σ54 hsσ54 h
                    · skip
                      replace hp29 : ¬ ((m_i τ 7 (i24) 1).toInt = (c1).toInt) := (not_congr ic_eq).mp hp29
                      refine Or.inr ⟨hp29, ?_⟩
                      replace hf := Nat.lt_trans g hf
                      clear g
                      replace h : EV F f 72 z72 91 [some (rf 4 (0)), some (.inl (c1)), some (.inl (c2)), some (.inl (c3)), some (.inl (c4)), some (.inl (c5)), some (.inl (u6)), some (.inl (u7)), some (rf 7 (i24)), some (rf 7 (i26))] [] τ (.inl (some (.inl w)), σ') := h
                      replace h := ei_p h rfl rfl rfl rfl
                      obtain ⟨f, g, h⟩ := h
                      replace hf := Nat.lt_trans g hf
                      clear g
                      replace h : EV F f 72 z72 93 [some (rf 4 (0)), some (.inl (c1)), some (.inl (c2)), some (.inl (c3)), some (.inl (c4)), some (.inl (c5)), some (.inl (u6)), some (.inl (u7)), some (rf 7 (i24)), some (rf 7 (i26))] [rf 7 (i26)] τ (.inl (some (.inl w)), σ') := h
                      replace h := ei_get h rfl rfl
                      obtain ⟨f, g, h⟩ := h
                      replace hf := Nat.lt_trans g hf
                      clear g
                      replace h : EV F f 72 z72 96 [some (rf 4 (0)), some (.inl (c1)), some (.inl (c2)), some (.inl (c3)), some (.inl (c4)), some (.inl (c5)), some (.inl (u6)), some (.inl (u7)), some (rf 7 (i24)), some (rf 7 (i26))] [.inl (m_i τ 7 (i26) 1)] τ (.inl (some (.inl w)), σ') := h
                      replace h := ei_p h rfl rfl rfl rfl
                      obtain ⟨f, g, h⟩ := h
                      replace hf := Nat.lt_trans g hf
                      clear g
                      replace h : EV F f 72 z72 97 [some (rf 4 (0)), some (.inl (c1)), some (.inl (c2)), some (.inl (c3)), some (.inl (c4)), some (.inl (c5)), some (.inl (u6)), some (.inl (u7)), some (rf 7 (i24)), some (rf 7 (i26))] [.inl (c1), .inl (m_i τ 7 (i26) 1)] τ (.inl (some (.inl w)), σ') := h
                      replace h := ei_c h rfl rfl rfl
                      rcases h with ⟨hp57, f, g, h⟩ | ⟨hp57, f, g, h⟩
                      · skip
                        replace hp57 : (m_i τ 7 (i26) 1).toInt ≠ (c1).toInt := ic_ne.mp hp57
                        refine Or.inl ⟨hp57, ?_⟩
                        replace hf := Nat.lt_trans g hf
                        clear g
                        replace h : EV F f 72 z72 139 [some (rf 4 (0)), some (.inl (c1)), some (.inl (c2)), some (.inl (c3)), some (.inl (c4)), some (.inl (c5)), some (.inl (u6)), some (.inl (u7)), some (rf 7 (i24)), some (rf 7 (i26))] [] τ (.inl (some (.inl w)), σ') := h
                        replace h := ei_p h rfl rfl rfl rfl
                        obtain ⟨f, g, h⟩ := h
                        replace hf := Nat.lt_trans g hf
                        clear g
                        replace h : EV F f 72 z72 141 [some (rf 4 (0)), some (.inl (c1)), some (.inl (c2)), some (.inl (c3)), some (.inl (c4)), some (.inl (c5)), some (.inl (u6)), some (.inl (u7)), some (rf 7 (i24)), some (rf 7 (i26))] [.inl (u6)] τ (.inl (some (.inl w)), σ') := h
                        replace h := ei_p h rfl rfl rfl rfl
                        obtain ⟨f, g, h⟩ := h
                        replace hf := Nat.lt_trans g hf
                        clear g
                        replace h : EV F f 72 z72 142 [some (rf 4 (0)), some (.inl (c1)), some (.inl (c2)), some (.inl (c3)), some (.inl (c4)), some (.inl (c5)), some (.inl (u6)), some (.inl (u7)), some (rf 7 (i24)), some (rf 7 (i26))] [rf 4 (0), .inl (u6)] τ (.inl (some (.inl w)), σ') := h
                        replace h := ei_p h rfl rfl rfl rfl
                        obtain ⟨f, g, h⟩ := h
                        replace hf := Nat.lt_trans g hf
                        clear g
                        replace h : EV F f 72 z72 143 [some (rf 4 (0)), some (.inl (c1)), some (.inl (c2)), some (.inl (c3)), some (.inl (c4)), some (.inl (c5)), some (.inl (u6)), some (.inl (u7)), some (rf 7 (i24)), some (rf 7 (i26))] [.inl (c1), rf 4 (0), .inl (u6)] τ (.inl (some (.inl w)), σ') := h
                        replace h := ei_p h rfl rfl rfl rfl
                        obtain ⟨f, g, h⟩ := h
                        replace hf := Nat.lt_trans g hf
                        clear g
                        replace h : EV F f 72 z72 145 [some (rf 4 (0)), some (.inl (c1)), some (.inl (c2)), some (.inl (c3)), some (.inl (c4)), some (.inl (c5)), some (.inl (u6)), some (.inl (u7)), some (rf 7 (i24)), some (rf 7 (i26))] [rf 7 (i24), .inl (c1), rf 4 (0), .inl (u6)] τ (.inl (some (.inl w)), σ') := h
                        replace h := ei_p h rfl rfl rfl rfl
                        obtain ⟨f, g, h⟩ := h
                        replace hf := Nat.lt_trans g hf
                        clear g
                        replace h : EV F f 72 z72 147 [some (rf 4 (0)), some (.inl (c1)), some (.inl (c2)), some (.inl (c3)), some (.inl (c4)), some (.inl (c5)), some (.inl (u6)), some (.inl (u7)), some (rf 7 (i24)), some (rf 7 (i26))] [rf 7 (i26), rf 7 (i24), .inl (c1), rf 4 (0), .inl (u6)] τ (.inl (some (.inl w)), σ') := h
                        replace h := ei_p h rfl rfl rfl rfl
                        obtain ⟨f, g, h⟩ := h
                        replace hf := Nat.lt_trans g hf
                        clear g
                        replace h : EV F f 72 z72 149 [some (rf 4 (0)), some (.inl (c1)), some (.inl (c2)), some (.inl (c3)), some (.inl (c4)), some (.inl (c5)), some (.inl (u6)), some (.inl (u7)), some (rf 7 (i24)), some (rf 7 (i26))] [.inl (u6), rf 7 (i26), rf 7 (i24), .inl (c1), rf 4 (0), .inl (u6)] τ (.inl (some (.inl w)), σ') := h
                        replace h := bk_I (ei_v (as := [.inl (u6), rf 7 (i26), rf 7 (i24), .inl (c1)]) h rfl rfl rfl) rfl z73_at (Or.inl rfl)
                        obtain ⟨v58, σ59, r60, f, g, h⟩ := h
                        replace hf := Nat.lt_trans g hf
                        clear g
                        have p61 := x73 hsτ r60
                        have hsσ59 : HS σ59 := HS_run rfl r60 hsτ
                        refine ⟨v58, σ59, fw_run W73 rfl r60, p61, ?_⟩
                        replace h : EV F f 72 z72 152 [some (rf 4 (0)), some (.inl (c1)), some (.inl (c2)), some (.inl (c3)), some (.inl (c4)), some (.inl (c5)), some (.inl (u6)), some (.inl (u7)), some (rf 7 (i24)), some (rf 7 (i26))] [.inl (v58), .inl (u6)] σ59 (.inl (some (.inl w)), σ') := h
                        replace h := ei_p h rfl rfl rfl rfl
                        obtain ⟨f, g, h⟩ := h
                        replace hf := Nat.lt_trans g hf
                        clear g
                        replace h : EV F f 72 z72 153 [some (rf 4 (0)), some (.inl (c1)), some (.inl (c2)), some (.inl (c3)), some (.inl (c4)), some (.inl (c5)), some (.inl (u6)), some (.inl (u7)), some (rf 7 (i24)), some (rf 7 (i26))] [.inl ((u6) - (v58))] σ59 (.inl (some (.inl w)), σ') := h
                        replace h := ei_p h rfl rfl rfl rfl
                        obtain ⟨f, g, h⟩ := h
                        replace hf := Nat.lt_trans g hf
                        clear g
                        replace h : EV F f 72 z72 155 [some (rf 4 (0)), some (.inl (c1)), some (.inl (c2)), some (.inl (c3)), some (.inl (c4)), some (.inl (c5)), some (.inl ((u6) - (v58))), some (.inl (u7)), some (rf 7 (i24)), some (rf 7 (i26))] [] σ59 (.inl (some (.inl w)), σ') := h
                        replace h := ei_p h rfl rfl rfl rfl
                        obtain ⟨f, g, h⟩ := h
                        replace hf := Nat.lt_trans g hf
                        clear g
                        replace h : EV F f 72 z72 158 [some (rf 4 (0)), some (.inl (c1)), some (.inl (c2)), some (.inl (c3)), some (.inl (c4)), some (.inl (c5)), some (.inl ((u6) - (v58))), some (.inl ((u7) + Int32.ofInt 1)), some (rf 7 (i24)), some (rf 7 (i26))] [] σ59 (.inl (some (.inl w)), σ') := h
                        replace h := ei_p h rfl rfl rfl rfl
                        obtain ⟨f, g, h⟩ := h
                        replace hf := Nat.lt_trans g hf
                        clear g
                        replace h : EV F f 72 z72 7 [some (rf 4 (0)), some (.inl (c1)), some (.inl (c2)), some (.inl (c3)), some (.inl (c4)), some (.inl (c5)), some (.inl ((u6) - (v58))), some (.inl ((u7) + Int32.ofInt 1)), some (rf 7 (i24)), some (rf 7 (i26))] [] σ59 (.inl (some (.inl w)), σ') := h
                        exact IH f hf ((u6) - (v58)) ((u7) + Int32.ofInt 1) (some (rf 7 (i24))) (some (rf 7 (i26))) σ59 hsσ59 h
                      · skip
                        replace hp57 : ¬ ((m_i τ 7 (i26) 1).toInt ≠ (c1).toInt) := (not_congr ic_ne).mp hp57
                        refine Or.inr ⟨hp57, ?_⟩
                        replace hf := Nat.lt_trans g hf
                        clear g
                        replace h : EV F f 72 z72 100 [some (rf 4 (0)), some (.inl (c1)), some (.inl (c2)), some (.inl (c3)), some (.inl (c4)), some (.inl (c5)), some (.inl (u6)), some (.inl (u7)), some (rf 7 (i24)), some (rf 7 (i26))] [] τ (.inl (some (.inl w)), σ') := h
                        replace h := ei_p h rfl rfl rfl rfl
                        obtain ⟨f, g, h⟩ := h
                        replace hf := Nat.lt_trans g hf
                        clear g
                        replace h : EV F f 72 z72 102 [some (rf 4 (0)), some (.inl (c1)), some (.inl (c2)), some (.inl (c3)), some (.inl (c4)), some (.inl (c5)), some (.inl (u6)), some (.inl (u7)), some (rf 7 (i24)), some (rf 7 (i26))] [rf 7 (i24)] τ (.inl (some (.inl w)), σ') := h
                        replace h := ei_get h rfl rfl
                        obtain ⟨f, g, h⟩ := h
                        replace hf := Nat.lt_trans g hf
                        clear g
                        replace h : EV F f 72 z72 105 [some (rf 4 (0)), some (.inl (c1)), some (.inl (c2)), some (.inl (c3)), some (.inl (c4)), some (.inl (c5)), some (.inl (u6)), some (.inl (u7)), some (rf 7 (i24)), some (rf 7 (i26))] [.inl (m_i τ 7 (i24) 1)] τ (.inl (some (.inl w)), σ') := h
                        replace h := ei_p h rfl rfl rfl rfl
                        obtain ⟨f, g, h⟩ := h
                        replace hf := Nat.lt_trans g hf
                        clear g
                        replace h : EV F f 72 z72 106 [some (rf 4 (0)), some (.inl (c1)), some (.inl (c2)), some (.inl (c3)), some (.inl (c4)), some (.inl (c5)), some (.inl (u6)), some (.inl (u7)), some (rf 7 (i24)), some (rf 7 (i26))] [.inl (c1), .inl (m_i τ 7 (i24) 1)] τ (.inl (some (.inl w)), σ') := h
                        replace h := ei_c h rfl rfl rfl
                        rcases h with ⟨hp62, f, g, h⟩ | ⟨hp62, f, g, h⟩
                        · skip
                          replace hp62 : (m_i τ 7 (i24) 1).toInt ≠ (c1).toInt := ic_ne.mp hp62
                          refine Or.inl ⟨hp62, ?_⟩
                          replace hf := Nat.lt_trans g hf
                          clear g
                          replace h : EV F f 72 z72 114 [some (rf 4 (0)), some (.inl (c1)), some (.inl (c2)), some (.inl (c3)), some (.inl (c4)), some (.inl (c5)), some (.inl (u6)), some (.inl (u7)), some (rf 7 (i24)), some (rf 7 (i26))] [] τ (.inl (some (.inl w)), σ') := h
                          replace h := ei_p h rfl rfl rfl rfl
                          obtain ⟨f, g, h⟩ := h
                          replace hf := Nat.lt_trans g hf
                          clear g
                          replace h : EV F f 72 z72 115 [some (rf 4 (0)), some (.inl (c1)), some (.inl (c2)), some (.inl (c3)), some (.inl (c4)), some (.inl (c5)), some (.inl (u6)), some (.inl (u7)), some (rf 7 (i24)), some (rf 7 (i26))] [.inr (.inr none)] τ (.inl (some (.inl w)), σ') := h
                          replace h := bk_0 (ei_s (as := [.inr (.inr none)]) h rfl (Nat.le_of_ble_eq_true rfl) rfl rfl) rfl z68_at rfl
                          obtain ⟨σ64, r65, f, g, h⟩ := h
                          replace hf := Nat.lt_trans g hf
                          clear g
                          have p66 := x68 hsτ r65
                          have hsσ64 : HS σ64 := HS_run rfl r65 hsτ
                          refine ⟨σ64, fw_run W68 rfl r65, p66, ?_⟩
                          replace h : EV F f 72 z72 118 [some (rf 4 (0)), some (.inl (c1)), some (.inl (c2)), some (.inl (c3)), some (.inl (c4)), some (.inl (c5)), some (.inl (u6)), some (.inl (u7)), some (rf 7 (i24)), some (rf 7 (i26))] [] σ64 (.inl (some (.inl w)), σ') := h
                          replace h := ei_p h rfl rfl rfl rfl
                          obtain ⟨f, g, h⟩ := h
                          replace hf := Nat.lt_trans g hf
                          clear g
                          replace h : EV F f 72 z72 120 [some (rf 4 (0)), some (.inl (c1)), some (.inl (c2)), some (.inl (c3)), some (.inl (c4)), some (.inl (c5)), some (.inl (u6)), some (.inl (u7)), some (rf 7 (i24)), some (rf 7 (i26))] [rf 7 (i26)] σ64 (.inl (some (.inl w)), σ') := h
                          replace h := ei_get h rfl rfl
                          obtain ⟨f, g, h⟩ := h
                          replace hf := Nat.lt_trans g hf
                          clear g
                          replace h : EV F f 72 z72 123 [some (rf 4 (0)), some (.inl (c1)), some (.inl (c2)), some (.inl (c3)), some (.inl (c4)), some (.inl (c5)), some (.inl (u6)), some (.inl (u7)), some (rf 7 (i24)), some (rf 7 (i26))] [.inl (m_i σ64 7 (i26) 1)] σ64 (.inl (some (.inl w)), σ') := h
                          replace h := ei_p h rfl rfl rfl rfl
                          obtain ⟨f, g, h⟩ := h
                          replace hf := Nat.lt_trans g hf
                          clear g
                          replace h : EV F f 72 z72 124 [some (rf 4 (0)), some (.inl (c1)), some (.inl (c2)), some (.inl (c3)), some (.inl (c4)), some (.inl (c5)), some (.inl (u6)), some (.inl (u7)), some (rf 7 (i24)), some (rf 7 (i26))] [.inl (c1), .inl (m_i σ64 7 (i26) 1)] σ64 (.inl (some (.inl w)), σ') := h
                          replace h := ei_c h rfl rfl rfl
                          rcases h with ⟨hp67, f, g, h⟩ | ⟨hp67, f, g, h⟩
                          · skip
                            replace hp67 : (m_i σ64 7 (i26) 1).toInt ≠ (c1).toInt := ic_ne.mp hp67
                            refine Or.inl ⟨hp67, ?_⟩
                            replace hf := Nat.lt_trans g hf
                            clear g
                            replace h : EV F f 72 z72 132 [some (rf 4 (0)), some (.inl (c1)), some (.inl (c2)), some (.inl (c3)), some (.inl (c4)), some (.inl (c5)), some (.inl (u6)), some (.inl (u7)), some (rf 7 (i24)), some (rf 7 (i26))] [] σ64 (.inl (some (.inl w)), σ') := h
                            replace h := ei_p h rfl rfl rfl rfl
                            obtain ⟨f, g, h⟩ := h
                            replace hf := Nat.lt_trans g hf
                            clear g
                            replace h : EV F f 72 z72 133 [some (rf 4 (0)), some (.inl (c1)), some (.inl (c2)), some (.inl (c3)), some (.inl (c4)), some (.inl (c5)), some (.inl (u6)), some (.inl (u7)), some (rf 7 (i24)), some (rf 7 (i26))] [.inr (.inr none)] σ64 (.inl (some (.inl w)), σ') := h
                            replace h := bk_0 (ei_s (as := [.inr (.inr none)]) h rfl (Nat.le_of_ble_eq_true rfl) rfl rfl) rfl z68_at rfl
                            obtain ⟨σ69, r70, f, g, h⟩ := h
                            replace hf := Nat.lt_trans g hf
                            clear g
                            have p71 := x68 hsσ64 r70
                            have hsσ69 : HS σ69 := HS_run rfl r70 hsσ64
                            refine ⟨σ69, fw_run W68 rfl r70, p71, ?_⟩
                            replace h : EV F f 72 z72 136 [some (rf 4 (0)), some (.inl (c1)), some (.inl (c2)), some (.inl (c3)), some (.inl (c4)), some (.inl (c5)), some (.inl (u6)), some (.inl (u7)), some (rf 7 (i24)), some (rf 7 (i26))] [] σ69 (.inl (some (.inl w)), σ') := h
                            replace h := ei_p h rfl rfl rfl rfl
                            obtain ⟨f, g, h⟩ := h
                            replace hf := Nat.lt_trans g hf
                            clear g
                            replace h : EV F f 72 z72 155 [some (rf 4 (0)), some (.inl (c1)), some (.inl (c2)), some (.inl (c3)), some (.inl (c4)), some (.inl (c5)), some (.inl (u6)), some (.inl (u7)), some (rf 7 (i24)), some (rf 7 (i26))] [] σ69 (.inl (some (.inl w)), σ') := h
                            replace h := ei_p h rfl rfl rfl rfl
                            obtain ⟨f, g, h⟩ := h
                            replace hf := Nat.lt_trans g hf
                            clear g
                            replace h : EV F f 72 z72 158 [some (rf 4 (0)), some (.inl (c1)), some (.inl (c2)), some (.inl (c3)), some (.inl (c4)), some (.inl (c5)), some (.inl (u6)), some (.inl ((u7) + Int32.ofInt 1)), some (rf 7 (i24)), some (rf 7 (i26))] [] σ69 (.inl (some (.inl w)), σ') := h
                            replace h := ei_p h rfl rfl rfl rfl
                            obtain ⟨f, g, h⟩ := h
                            replace hf := Nat.lt_trans g hf
                            clear g
                            replace h : EV F f 72 z72 7 [some (rf 4 (0)), some (.inl (c1)), some (.inl (c2)), some (.inl (c3)), some (.inl (c4)), some (.inl (c5)), some (.inl (u6)), some (.inl ((u7) + Int32.ofInt 1)), some (rf 7 (i24)), some (rf 7 (i26))] [] σ69 (.inl (some (.inl w)), σ') := h
                            exact IH f hf (u6) ((u7) + Int32.ofInt 1) (some (rf 7 (i24))) (some (rf 7 (i26))) σ69 hsσ69 h
                          · skip
                            replace hp67 : ¬ ((m_i σ64 7 (i26) 1).toInt ≠ (c1).toInt) := (not_congr ic_ne).mp hp67
                            refine Or.inr ⟨hp67, ?_⟩
                            replace hf := Nat.lt_trans g hf
                            clear g
                            replace h : EV F f 72 z72 127 [some (rf 4 (0)), some (.inl (c1)), some (.inl (c2)), some (.inl (c3)), some (.inl (c4)), some (.inl (c5)), some (.inl (u6)), some (.inl (u7)), some (rf 7 (i24)), some (rf 7 (i26))] [] σ64 (.inl (some (.inl w)), σ') := h
                            replace h := ei_p h rfl rfl rfl rfl
                            obtain ⟨f, g, h⟩ := h
                            replace hf := Nat.lt_trans g hf
                            clear g
                            replace h : EV F f 72 z72 129 [some (rf 4 (0)), some (.inl (c1)), some (.inl (c2)), some (.inl (c3)), some (.inl (c4)), some (.inl (c5)), some (.inl (u6)), some (.inl (u7)), some (rf 7 (i24)), some (rf 7 (i26))] [rf 7 (i26)] σ64 (.inl (some (.inl w)), σ') := h
                            replace h := ei_p h rfl rfl rfl rfl
                            obtain ⟨f, g, h⟩ := h
                            replace hf := Nat.lt_trans g hf
                            clear g
                            replace h : EV F f 72 z72 133 [some (rf 4 (0)), some (.inl (c1)), some (.inl (c2)), some (.inl (c3)), some (.inl (c4)), some (.inl (c5)), some (.inl (u6)), some (.inl (u7)), some (rf 7 (i24)), some (rf 7 (i26))] [rf 7 (i26)] σ64 (.inl (some (.inl w)), σ') := h
                            replace h := bk_0 (ei_s (as := [rf 7 (i26)]) h rfl (Nat.le_of_ble_eq_true rfl) rfl rfl) rfl z68_at rfl
                            obtain ⟨σ73, r74, f, g, h⟩ := h
                            replace hf := Nat.lt_trans g hf
                            clear g
                            have p75 := x68 hsσ64 r74
                            have hsσ73 : HS σ73 := HS_run rfl r74 hsσ64
                            refine ⟨σ73, fw_run W68 rfl r74, p75, ?_⟩
                            replace h : EV F f 72 z72 136 [some (rf 4 (0)), some (.inl (c1)), some (.inl (c2)), some (.inl (c3)), some (.inl (c4)), some (.inl (c5)), some (.inl (u6)), some (.inl (u7)), some (rf 7 (i24)), some (rf 7 (i26))] [] σ73 (.inl (some (.inl w)), σ') := h
                            replace h := ei_p h rfl rfl rfl rfl
                            obtain ⟨f, g, h⟩ := h
                            replace hf := Nat.lt_trans g hf
                            clear g
                            replace h : EV F f 72 z72 155 [some (rf 4 (0)), some (.inl (c1)), some (.inl (c2)), some (.inl (c3)), some (.inl (c4)), some (.inl (c5)), some (.inl (u6)), some (.inl (u7)), some (rf 7 (i24)), some (rf 7 (i26))] [] σ73 (.inl (some (.inl w)), σ') := h
                            replace h := ei_p h rfl rfl rfl rfl
                            obtain ⟨f, g, h⟩ := h
                            replace hf := Nat.lt_trans g hf
                            clear g
                            replace h : EV F f 72 z72 158 [some (rf 4 (0)), some (.inl (c1)), some (.inl (c2)), some (.inl (c3)), some (.inl (c4)), some (.inl (c5)), some (.inl (u6)), some (.inl ((u7) + Int32.ofInt 1)), some (rf 7 (i24)), some (rf 7 (i26))] [] σ73 (.inl (some (.inl w)), σ') := h
                            replace h := ei_p h rfl rfl rfl rfl
                            obtain ⟨f, g, h⟩ := h
                            replace hf := Nat.lt_trans g hf
                            clear g
                            replace h : EV F f 72 z72 7 [some (rf 4 (0)), some (.inl (c1)), some (.inl (c2)), some (.inl (c3)), some (.inl (c4)), some (.inl (c5)), some (.inl (u6)), some (.inl ((u7) + Int32.ofInt 1)), some (rf 7 (i24)), some (rf 7 (i26))] [] σ73 (.inl (some (.inl w)), σ') := h
                            exact IH f hf (u6) ((u7) + Int32.ofInt 1) (some (rf 7 (i24))) (some (rf 7 (i26))) σ73 hsσ73 h
                        · skip
                          replace hp62 : ¬ ((m_i τ 7 (i24) 1).toInt ≠ (c1).toInt) := (not_congr ic_ne).mp hp62
                          refine Or.inr ⟨hp62, ?_⟩
                          replace hf := Nat.lt_trans g hf
                          clear g
                          replace h : EV F f 72 z72 109 [some (rf 4 (0)), some (.inl (c1)), some (.inl (c2)), some (.inl (c3)), some (.inl (c4)), some (.inl (c5)), some (.inl (u6)), some (.inl (u7)), some (rf 7 (i24)), some (rf 7 (i26))] [] τ (.inl (some (.inl w)), σ') := h
                          replace h := ei_p h rfl rfl rfl rfl
                          obtain ⟨f, g, h⟩ := h
                          replace hf := Nat.lt_trans g hf
                          clear g
                          replace h : EV F f 72 z72 111 [some (rf 4 (0)), some (.inl (c1)), some (.inl (c2)), some (.inl (c3)), some (.inl (c4)), some (.inl (c5)), some (.inl (u6)), some (.inl (u7)), some (rf 7 (i24)), some (rf 7 (i26))] [rf 7 (i24)] τ (.inl (some (.inl w)), σ') := h
                          replace h := ei_p h rfl rfl rfl rfl
                          obtain ⟨f, g, h⟩ := h
                          replace hf := Nat.lt_trans g hf
                          clear g
                          replace h : EV F f 72 z72 115 [some (rf 4 (0)), some (.inl (c1)), some (.inl (c2)), some (.inl (c3)), some (.inl (c4)), some (.inl (c5)), some (.inl (u6)), some (.inl (u7)), some (rf 7 (i24)), some (rf 7 (i26))] [rf 7 (i24)] τ (.inl (some (.inl w)), σ') := h
                          replace h := bk_0 (ei_s (as := [rf 7 (i24)]) h rfl (Nat.le_of_ble_eq_true rfl) rfl rfl) rfl z68_at rfl
                          obtain ⟨σ77, r78, f, g, h⟩ := h
                          replace hf := Nat.lt_trans g hf
                          clear g
                          have p79 := x68 hsτ r78
                          have hsσ77 : HS σ77 := HS_run rfl r78 hsτ
                          refine ⟨σ77, fw_run W68 rfl r78, p79, ?_⟩
                          replace h : EV F f 72 z72 118 [some (rf 4 (0)), some (.inl (c1)), some (.inl (c2)), some (.inl (c3)), some (.inl (c4)), some (.inl (c5)), some (.inl (u6)), some (.inl (u7)), some (rf 7 (i24)), some (rf 7 (i26))] [] σ77 (.inl (some (.inl w)), σ') := h
                          replace h := ei_p h rfl rfl rfl rfl
                          obtain ⟨f, g, h⟩ := h
                          replace hf := Nat.lt_trans g hf
                          clear g
                          replace h : EV F f 72 z72 120 [some (rf 4 (0)), some (.inl (c1)), some (.inl (c2)), some (.inl (c3)), some (.inl (c4)), some (.inl (c5)), some (.inl (u6)), some (.inl (u7)), some (rf 7 (i24)), some (rf 7 (i26))] [rf 7 (i26)] σ77 (.inl (some (.inl w)), σ') := h
                          replace h := ei_get h rfl rfl
                          obtain ⟨f, g, h⟩ := h
                          replace hf := Nat.lt_trans g hf
                          clear g
                          replace h : EV F f 72 z72 123 [some (rf 4 (0)), some (.inl (c1)), some (.inl (c2)), some (.inl (c3)), some (.inl (c4)), some (.inl (c5)), some (.inl (u6)), some (.inl (u7)), some (rf 7 (i24)), some (rf 7 (i26))] [.inl (m_i σ77 7 (i26) 1)] σ77 (.inl (some (.inl w)), σ') := h
                          replace h := ei_p h rfl rfl rfl rfl
                          obtain ⟨f, g, h⟩ := h
                          replace hf := Nat.lt_trans g hf
                          clear g
                          replace h : EV F f 72 z72 124 [some (rf 4 (0)), some (.inl (c1)), some (.inl (c2)), some (.inl (c3)), some (.inl (c4)), some (.inl (c5)), some (.inl (u6)), some (.inl (u7)), some (rf 7 (i24)), some (rf 7 (i26))] [.inl (c1), .inl (m_i σ77 7 (i26) 1)] σ77 (.inl (some (.inl w)), σ') := h
                          replace h := ei_c h rfl rfl rfl
                          rcases h with ⟨hp80, f, g, h⟩ | ⟨hp80, f, g, h⟩
                          · skip
                            replace hp80 : (m_i σ77 7 (i26) 1).toInt ≠ (c1).toInt := ic_ne.mp hp80
                            refine Or.inl ⟨hp80, ?_⟩
                            replace hf := Nat.lt_trans g hf
                            clear g
                            replace h : EV F f 72 z72 132 [some (rf 4 (0)), some (.inl (c1)), some (.inl (c2)), some (.inl (c3)), some (.inl (c4)), some (.inl (c5)), some (.inl (u6)), some (.inl (u7)), some (rf 7 (i24)), some (rf 7 (i26))] [] σ77 (.inl (some (.inl w)), σ') := h
                            replace h := ei_p h rfl rfl rfl rfl
                            obtain ⟨f, g, h⟩ := h
                            replace hf := Nat.lt_trans g hf
                            clear g
                            replace h : EV F f 72 z72 133 [some (rf 4 (0)), some (.inl (c1)), some (.inl (c2)), some (.inl (c3)), some (.inl (c4)), some (.inl (c5)), some (.inl (u6)), some (.inl (u7)), some (rf 7 (i24)), some (rf 7 (i26))] [.inr (.inr none)] σ77 (.inl (some (.inl w)), σ') := h
                            replace h := bk_0 (ei_s (as := [.inr (.inr none)]) h rfl (Nat.le_of_ble_eq_true rfl) rfl rfl) rfl z68_at rfl
                            obtain ⟨σ82, r83, f, g, h⟩ := h
                            replace hf := Nat.lt_trans g hf
                            clear g
                            have p84 := x68 hsσ77 r83
                            have hsσ82 : HS σ82 := HS_run rfl r83 hsσ77
                            refine ⟨σ82, fw_run W68 rfl r83, p84, ?_⟩
                            replace h : EV F f 72 z72 136 [some (rf 4 (0)), some (.inl (c1)), some (.inl (c2)), some (.inl (c3)), some (.inl (c4)), some (.inl (c5)), some (.inl (u6)), some (.inl (u7)), some (rf 7 (i24)), some (rf 7 (i26))] [] σ82 (.inl (some (.inl w)), σ') := h
                            replace h := ei_p h rfl rfl rfl rfl
                            obtain ⟨f, g, h⟩ := h
                            replace hf := Nat.lt_trans g hf
                            clear g
                            replace h : EV F f 72 z72 155 [some (rf 4 (0)), some (.inl (c1)), some (.inl (c2)), some (.inl (c3)), some (.inl (c4)), some (.inl (c5)), some (.inl (u6)), some (.inl (u7)), some (rf 7 (i24)), some (rf 7 (i26))] [] σ82 (.inl (some (.inl w)), σ') := h
                            replace h := ei_p h rfl rfl rfl rfl
                            obtain ⟨f, g, h⟩ := h
                            replace hf := Nat.lt_trans g hf
                            clear g
                            replace h : EV F f 72 z72 158 [some (rf 4 (0)), some (.inl (c1)), some (.inl (c2)), some (.inl (c3)), some (.inl (c4)), some (.inl (c5)), some (.inl (u6)), some (.inl ((u7) + Int32.ofInt 1)), some (rf 7 (i24)), some (rf 7 (i26))] [] σ82 (.inl (some (.inl w)), σ') := h
                            replace h := ei_p h rfl rfl rfl rfl
                            obtain ⟨f, g, h⟩ := h
                            replace hf := Nat.lt_trans g hf
                            clear g
                            replace h : EV F f 72 z72 7 [some (rf 4 (0)), some (.inl (c1)), some (.inl (c2)), some (.inl (c3)), some (.inl (c4)), some (.inl (c5)), some (.inl (u6)), some (.inl ((u7) + Int32.ofInt 1)), some (rf 7 (i24)), some (rf 7 (i26))] [] σ82 (.inl (some (.inl w)), σ') := h
                            exact IH f hf (u6) ((u7) + Int32.ofInt 1) (some (rf 7 (i24))) (some (rf 7 (i26))) σ82 hsσ82 h
                          · skip
                            replace hp80 : ¬ ((m_i σ77 7 (i26) 1).toInt ≠ (c1).toInt) := (not_congr ic_ne).mp hp80
                            refine Or.inr ⟨hp80, ?_⟩
                            replace hf := Nat.lt_trans g hf
                            clear g
                            replace h : EV F f 72 z72 127 [some (rf 4 (0)), some (.inl (c1)), some (.inl (c2)), some (.inl (c3)), some (.inl (c4)), some (.inl (c5)), some (.inl (u6)), some (.inl (u7)), some (rf 7 (i24)), some (rf 7 (i26))] [] σ77 (.inl (some (.inl w)), σ') := h
                            replace h := ei_p h rfl rfl rfl rfl
                            obtain ⟨f, g, h⟩ := h
                            replace hf := Nat.lt_trans g hf
                            clear g
                            replace h : EV F f 72 z72 129 [some (rf 4 (0)), some (.inl (c1)), some (.inl (c2)), some (.inl (c3)), some (.inl (c4)), some (.inl (c5)), some (.inl (u6)), some (.inl (u7)), some (rf 7 (i24)), some (rf 7 (i26))] [rf 7 (i26)] σ77 (.inl (some (.inl w)), σ') := h
                            replace h := ei_p h rfl rfl rfl rfl
                            obtain ⟨f, g, h⟩ := h
                            replace hf := Nat.lt_trans g hf
                            clear g
                            replace h : EV F f 72 z72 133 [some (rf 4 (0)), some (.inl (c1)), some (.inl (c2)), some (.inl (c3)), some (.inl (c4)), some (.inl (c5)), some (.inl (u6)), some (.inl (u7)), some (rf 7 (i24)), some (rf 7 (i26))] [rf 7 (i26)] σ77 (.inl (some (.inl w)), σ') := h
                            replace h := bk_0 (ei_s (as := [rf 7 (i26)]) h rfl (Nat.le_of_ble_eq_true rfl) rfl rfl) rfl z68_at rfl
                            obtain ⟨σ86, r87, f, g, h⟩ := h
                            replace hf := Nat.lt_trans g hf
                            clear g
                            have p88 := x68 hsσ77 r87
                            have hsσ86 : HS σ86 := HS_run rfl r87 hsσ77
                            refine ⟨σ86, fw_run W68 rfl r87, p88, ?_⟩
                            replace h : EV F f 72 z72 136 [some (rf 4 (0)), some (.inl (c1)), some (.inl (c2)), some (.inl (c3)), some (.inl (c4)), some (.inl (c5)), some (.inl (u6)), some (.inl (u7)), some (rf 7 (i24)), some (rf 7 (i26))] [] σ86 (.inl (some (.inl w)), σ') := h
                            replace h := ei_p h rfl rfl rfl rfl
                            obtain ⟨f, g, h⟩ := h
                            replace hf := Nat.lt_trans g hf
                            clear g
                            replace h : EV F f 72 z72 155 [some (rf 4 (0)), some (.inl (c1)), some (.inl (c2)), some (.inl (c3)), some (.inl (c4)), some (.inl (c5)), some (.inl (u6)), some (.inl (u7)), some (rf 7 (i24)), some (rf 7 (i26))] [] σ86 (.inl (some (.inl w)), σ') := h
                            replace h := ei_p h rfl rfl rfl rfl
                            obtain ⟨f, g, h⟩ := h
                            replace hf := Nat.lt_trans g hf
                            clear g
                            replace h : EV F f 72 z72 158 [some (rf 4 (0)), some (.inl (c1)), some (.inl (c2)), some (.inl (c3)), some (.inl (c4)), some (.inl (c5)), some (.inl (u6)), some (.inl ((u7) + Int32.ofInt 1)), some (rf 7 (i24)), some (rf 7 (i26))] [] σ86 (.inl (some (.inl w)), σ') := h
                            replace h := ei_p h rfl rfl rfl rfl
                            obtain ⟨f, g, h⟩ := h
                            replace hf := Nat.lt_trans g hf
                            clear g
                            replace h : EV F f 72 z72 7 [some (rf 4 (0)), some (.inl (c1)), some (.inl (c2)), some (.inl (c3)), some (.inl (c4)), some (.inl (c5)), some (.inl (u6)), some (.inl ((u7) + Int32.ofInt 1)), some (rf 7 (i24)), some (rf 7 (i26))] [] σ86 (.inl (some (.inl w)), σ') := h
                            exact IH f hf (u6) ((u7) + Int32.ofInt 1) (some (rf 7 (i24))) (some (rf 7 (i26))) σ86 hsσ86 h
                  · skip
                    replace hp28 : ¬ (((m_i τ 7 (i24) 4) - (m_i τ 7 (i26) 4)).toInt ≤ (c5).toInt) := (not_congr ic_le).mp hp28
                    refine Or.inr ⟨hp28, ?_⟩
                    replace hf := Nat.lt_trans g hf
                    clear g
                    replace h : EV F f 72 z72 79 [some (rf 4 (0)), some (.inl (c1)), some (.inl (c2)), some (.inl (c3)), some (.inl (c4)), some (.inl (c5)), some (.inl (u6)), some (.inl (u7)), some (rf 7 (i24)), some (rf 7 (i26))] [] τ (.inl (some (.inl w)), σ') := h
                    replace h := ei_p h rfl rfl rfl rfl
                    obtain ⟨f, g, h⟩ := h
                    replace hf := Nat.lt_trans g hf
                    clear g
                    replace h : EV F f 72 z72 161 [some (rf 4 (0)), some (.inl (c1)), some (.inl (c2)), some (.inl (c3)), some (.inl (c4)), some (.inl (c5)), some (.inl (u6)), some (.inl (u7)), some (rf 7 (i24)), some (rf 7 (i26))] [] τ (.inl (some (.inl w)), σ') := h
                    exact j72_161 hsτ h
def P72 (σ : mS) (x1 : Int32) (x2 : Int32) (x3 : Int32) (x4 : Int32) (x5 : Int32) (w : Int32) (σ' : mS) : Prop := ∃ n, Q72_7 (x1) (x2) (x3) (x4) (x5) n (x4) (Int32.ofInt 0) σ w σ'
theorem x72 {σ σ' : mS} {x1 : Int32} {x2 : Int32} {x3 : Int32} {x4 : Int32} {x5 : Int32} {w : Int32} (hs : HS σ) (h : ev_run sm_all 72 [rf 4 (0), .inl (x1), .inl (x2), .inl (x3), .inl (x4), .inl (x5)] σ (.inl (some (.inl w))) σ') : P72 σ x1 x2 x3 x4 x5 w σ' := by
  unfold P72
  obtain ⟨F, f, h⟩ := ei_go h z72_at
  replace h : EV F f 72 z72 0 [some (rf 4 (0)), some (.inl (x1)), some (.inl (x2)), some (.inl (x3)), some (.inl (x4)), some (.inl (x5)), none, none, none, none] [] σ (.inl (some (.inl w)), σ') := h
  replace h := ei_p h rfl rfl rfl rfl
  obtain ⟨f, g, h⟩ := h
  clear g
  replace h : EV F f 72 z72 2 [some (rf 4 (0)), some (.inl (x1)), some (.inl (x2)), some (.inl (x3)), some (.inl (x4)), some (.inl (x5)), none, none, none, none] [.inl (x4)] σ (.inl (some (.inl w)), σ') := h
  replace h := ei_p h rfl rfl rfl rfl
  obtain ⟨f, g, h⟩ := h
  clear g
  replace h : EV F f 72 z72 4 [some (rf 4 (0)), some (.inl (x1)), some (.inl (x2)), some (.inl (x3)), some (.inl (x4)), some (.inl (x5)), some (.inl (x4)), none, none, none] [] σ (.inl (some (.inl w)), σ') := h
  replace h := ei_p h rfl rfl rfl rfl
  obtain ⟨f, g, h⟩ := h
  clear g
  replace h : EV F f 72 z72 5 [some (rf 4 (0)), some (.inl (x1)), some (.inl (x2)), some (.inl (x3)), some (.inl (x4)), some (.inl (x5)), some (.inl (x4)), none, none, none] [.inl (Int32.ofInt 0)] σ (.inl (some (.inl w)), σ') := h
  replace h := ei_p h rfl rfl rfl rfl
  obtain ⟨f, g, h⟩ := h
  clear g
  replace h : EV F f 72 z72 7 [some (rf 4 (0)), some (.inl (x1)), some (.inl (x2)), some (.inl (x3)), some (.inl (x4)), some (.inl (x5)), some (.inl (x4)), some (.inl (Int32.ofInt 0)), none, none] [] σ (.inl (some (.inl w)), σ') := h
  exact ⟨f + 1, q72_7 (f + 1) f (Nat.lt_succ_self f) (x4) (Int32.ofInt 0) _ _ σ hs h⟩
def z115 : mAl := ((yX8_changeBand, cX8_changeBand, 3, (some .int), { frames := 0, cells := 0, slots := 0, locals := 0 }, []), rw_X8_changeBand, false)
theorem z115_at : m_alF[115]? = some z115 := rfl
abbrev L115 : List (Nat × Nat) := [(8, 4)]
abbrev w115 : Nat → Nat → Bool := wl L115
def S115 : List Nat := [115]
theorem W115 : fw_S w115 S115 = true := by decide +kernel
def P115 (σ : mS) (a : Nat) (x1 : Int32) (w : Int32) (σ' : mS) : Prop := ∃ σ2, σ2 = m_set σ 8 (a) (4) (.inl (x1)) ∧ w = (m_i σ 8 (a) 4) ∧ σ' = σ2
theorem x115 {σ σ' : mS} {a : Nat} {x1 : Int32} {w : Int32} (hs : HS σ) (h : ev_run sm_all 115 [rf 8 (a), .inl (x1)] σ (.inl (some (.inl w))) σ') : P115 σ a x1 w σ' := by
  unfold P115
  obtain ⟨F, f, h⟩ := ei_go h z115_at
  replace h : EV F f 115 z115 0 [some (rf 8 (a)), some (.inl (x1)), none] [] σ (.inl (some (.inl w)), σ') := h
  replace h := ei_p h rfl rfl rfl rfl
  obtain ⟨f, g, h⟩ := h
  clear g
  replace h : EV F f 115 z115 1 [some (rf 8 (a)), some (.inl (x1)), none] [rf 8 (a)] σ (.inl (some (.inl w)), σ') := h
  replace h := ei_get h rfl rfl
  obtain ⟨f, g, h⟩ := h
  clear g
  replace h : EV F f 115 z115 4 [some (rf 8 (a)), some (.inl (x1)), none] [.inl (m_i σ 8 (a) 4)] σ (.inl (some (.inl w)), σ') := h
  replace h := ei_p h rfl rfl rfl rfl
  obtain ⟨f, g, h⟩ := h
  clear g
  replace h : EV F f 115 z115 5 [some (rf 8 (a)), some (.inl (x1)), some (.inl (m_i σ 8 (a) 4))] [] σ (.inl (some (.inl w)), σ') := h
  replace h := ei_p h rfl rfl rfl rfl
  obtain ⟨f, g, h⟩ := h
  clear g
  replace h : EV F f 115 z115 6 [some (rf 8 (a)), some (.inl (x1)), some (.inl (m_i σ 8 (a) 4))] [rf 8 (a)] σ (.inl (some (.inl w)), σ') := h
  replace h := ei_p h rfl rfl rfl rfl
  obtain ⟨f, g, h⟩ := h
  clear g
  replace h : EV F f 115 z115 7 [some (rf 8 (a)), some (.inl (x1)), some (.inl (m_i σ 8 (a) 4))] [.inl (x1), rf 8 (a)] σ (.inl (some (.inl w)), σ') := h
  replace h := ei_put h rfl
  obtain ⟨ht1, f, g, h⟩ := h
  clear g
  obtain ⟨σ2, e3⟩ : ∃ s, s = m_set σ 8 (a) (4) (.inl (x1)) := ⟨_, rfl⟩
  rw [← e3] at h
  have hsσ2 : HS σ2 := by rw [e3]; exact HS_set hs rfl
  refine ⟨σ2, e3, ?_⟩
  replace h : EV F f 115 z115 10 [some (rf 8 (a)), some (.inl (x1)), some (.inl (m_i σ 8 (a) 4))] [] σ2 (.inl (some (.inl w)), σ') := h
  replace h := ei_p h rfl rfl rfl rfl
  obtain ⟨f, g, h⟩ := h
  clear g
  replace h : EV F f 115 z115 11 [some (rf 8 (a)), some (.inl (x1)), some (.inl (m_i σ 8 (a) 4))] [.inl (m_i σ 8 (a) 4)] σ2 (.inl (some (.inl w)), σ') := h
  have e := ei_iret h rfl
  cases e
  exact ⟨rfl, rfl⟩
def z75 : mAl := ((yX4_tradeInOpening, cX4_tradeInOpening, 7, (some .int), { frames := 2, cells := 0, slots := 0, locals := 60 }, []), rw_X4_tradeInOpening, false)
theorem z75_at : m_alF[75]? = some z75 := rfl
abbrev L75 : List (Nat × Nat) := [(2, 5), (6, 2), (6, 5), (7, 6), (7, 7), (7, 9), (7, 12), (8, 2), (8, 3), (8, 7), (10, 0), (10, 1), (10, 2), (10, 3), (10, 4), (10, 5), (10, 6), (10, 7), (10, 8), (10, 9), (14, 0)]
abbrev w75 : Nat → Nat → Bool := wl L75
def S75 : List Nat := [13, 22, 32, 68, 75, 91, 95, 105, 106, 114]
theorem W75 : fw_S w75 S75 = true := by decide +kernel
def P75 (σ : mS) (x1 : mR) (x2 : Int32) (x3 : mR) (x4 : mR) (x5 : Int32) (w : Int32) (σ' : mS) : Prop := ∃ i1, x3 = some (7, i1) ∧ ∃ i3, x4 = some (7, i3) ∧ ∃ n5, n5 = jmin (x5) (jmin (m_i σ 7 (i1) 6) (m_i σ 7 (i3) 6)) ∧ ∃ σ8, fw_e w32 σ σ8 ∧ P32 σ (x1) (x2) (n5) (m_i σ 7 (i1) 1) (m_i σ 7 (i3) 1) (Int32.ofInt 0) σ8 ∧ ∃ σ12, fw_e w68 σ8 σ12 ∧ P68 σ8 (m_r σ8 7 (i1) 12) σ12 ∧ ∃ σ16, fw_e w68 σ12 σ16 ∧ P68 σ12 (m_r σ12 7 (i3) 12) σ16 ∧ ∃ σ20, fw_e w13 σ16 σ20 ∧ P13 σ16 (some (7, i1)) (n5) σ20 ∧ ∃ σ24, fw_e w13 σ20 σ24 ∧ P13 σ20 (some (7, i3)) (n5) σ24 ∧ w = (n5) ∧ σ' = σ24
theorem x75 {σ σ' : mS} {x1 : mR} {x2 : Int32} {x3 : mR} {x4 : mR} {x5 : Int32} {w : Int32} (hs : HS σ) (h : ev_run sm_all 75 [rf 4 (0), .inr (.inr (x1)), .inl (x2), .inr (.inr (x3)), .inr (.inr (x4)), .inl (x5)] σ (.inl (some (.inl w))) σ') : P75 σ x1 x2 x3 x4 x5 w σ' := by
  unfold P75
  obtain ⟨F, f, h⟩ := ei_go h z75_at
  replace h : EV F f 75 z75 0 [some (rf 4 (0)), some (.inr (.inr (x1))), some (.inl (x2)), some (.inr (.inr (x3))), some (.inr (.inr (x4))), some (.inl (x5)), none] [] σ (.inl (some (.inl w)), σ') := h
  replace h := ei_p h rfl rfl rfl rfl
  obtain ⟨f, g, h⟩ := h
  clear g
  replace h : EV F f 75 z75 2 [some (rf 4 (0)), some (.inr (.inr (x1))), some (.inl (x2)), some (.inr (.inr (x3))), some (.inr (.inr (x4))), some (.inl (x5)), none] [.inl (x5)] σ (.inl (some (.inl w)), σ') := h
  replace h := ei_p h rfl rfl rfl rfl
  obtain ⟨f, g, h⟩ := h
  clear g
  replace h : EV F f 75 z75 3 [some (rf 4 (0)), some (.inr (.inr (x1))), some (.inl (x2)), some (.inr (.inr (x3))), some (.inr (.inr (x4))), some (.inl (x5)), none] [.inr (.inr (x3)), .inl (x5)] σ (.inl (some (.inl w)), σ') := h
  obtain ⟨i1, e2⟩ := ei_gp h rfl
  rw [e2] at h
  refine ⟨i1, e2, ?_⟩
  replace h : EV F f 75 z75 3 [some (rf 4 (0)), some (.inr (.inr (x1))), some (.inl (x2)), some (rf 7 (i1)), some (.inr (.inr (x4))), some (.inl (x5)), none] [rf 7 (i1), .inl (x5)] σ (.inl (some (.inl w)), σ') := h
  replace h := ei_get h rfl rfl
  obtain ⟨f, g, h⟩ := h
  clear g
  replace h : EV F f 75 z75 6 [some (rf 4 (0)), some (.inr (.inr (x1))), some (.inl (x2)), some (rf 7 (i1)), some (.inr (.inr (x4))), some (.inl (x5)), none] [.inl (m_i σ 7 (i1) 6), .inl (x5)] σ (.inl (some (.inl w)), σ') := h
  replace h := ei_p h rfl rfl rfl rfl
  obtain ⟨f, g, h⟩ := h
  clear g
  replace h : EV F f 75 z75 8 [some (rf 4 (0)), some (.inr (.inr (x1))), some (.inl (x2)), some (rf 7 (i1)), some (.inr (.inr (x4))), some (.inl (x5)), none] [.inr (.inr (x4)), .inl (m_i σ 7 (i1) 6), .inl (x5)] σ (.inl (some (.inl w)), σ') := h
  obtain ⟨i3, e4⟩ := ei_gp h rfl
  rw [e4] at h
  refine ⟨i3, e4, ?_⟩
  replace h : EV F f 75 z75 8 [some (rf 4 (0)), some (.inr (.inr (x1))), some (.inl (x2)), some (rf 7 (i1)), some (rf 7 (i3)), some (.inl (x5)), none] [rf 7 (i3), .inl (m_i σ 7 (i1) 6), .inl (x5)] σ (.inl (some (.inl w)), σ') := h
  replace h := ei_get h rfl rfl
  obtain ⟨f, g, h⟩ := h
  clear g
  replace h : EV F f 75 z75 11 [some (rf 4 (0)), some (.inr (.inr (x1))), some (.inl (x2)), some (rf 7 (i1)), some (rf 7 (i3)), some (.inl (x5)), none] [.inl (m_i σ 7 (i3) 6), .inl (m_i σ 7 (i1) 6), .inl (x5)] σ (.inl (some (.inl w)), σ') := h
  replace h := ei_m (st' := [.inl (jmin (m_i σ 7 (i1) 6) (m_i σ 7 (i3) 6)), .inl (x5)]) h rfl (Nat.le_of_ble_eq_true rfl) (fun w hw => (Option.some.inj (ev_if_some.mp hw).2).symm)
  obtain ⟨f, g, h⟩ := h
  clear g
  replace h : EV F f 75 z75 14 [some (rf 4 (0)), some (.inr (.inr (x1))), some (.inl (x2)), some (rf 7 (i1)), some (rf 7 (i3)), some (.inl (x5)), none] [.inl (jmin (m_i σ 7 (i1) 6) (m_i σ 7 (i3) 6)), .inl (x5)] σ (.inl (some (.inl w)), σ') := h
  replace h := ei_m (st' := [.inl (jmin (x5) (jmin (m_i σ 7 (i1) 6) (m_i σ 7 (i3) 6)))]) h rfl (Nat.le_of_ble_eq_true rfl) (fun w hw => (Option.some.inj (ev_if_some.mp hw).2).symm)
  obtain ⟨f, g, h⟩ := h
  clear g
  replace h : EV F f 75 z75 17 [some (rf 4 (0)), some (.inr (.inr (x1))), some (.inl (x2)), some (rf 7 (i1)), some (rf 7 (i3)), some (.inl (x5)), none] [.inl (jmin (x5) (jmin (m_i σ 7 (i1) 6) (m_i σ 7 (i3) 6)))] σ (.inl (some (.inl w)), σ') := h
  replace h := ei_p h rfl rfl rfl rfl
  obtain ⟨f, g, h⟩ := h
  clear g
  replace h : EV F f 75 z75 19 [some (rf 4 (0)), some (.inr (.inr (x1))), some (.inl (x2)), some (rf 7 (i1)), some (rf 7 (i3)), some (.inl (x5)), some (.inl (jmin (x5) (jmin (m_i σ 7 (i1) 6) (m_i σ 7 (i3) 6))))] [] σ (.inl (some (.inl w)), σ') := h
  obtain ⟨n5, e6⟩ : ∃ s, s = jmin (x5) (jmin (m_i σ 7 (i1) 6) (m_i σ 7 (i3) 6)) := ⟨_, rfl⟩
  rw [← e6] at h
  refine ⟨n5, e6, ?_⟩
  replace h : EV F f 75 z75 19 [some (rf 4 (0)), some (.inr (.inr (x1))), some (.inl (x2)), some (rf 7 (i1)), some (rf 7 (i3)), some (.inl (x5)), some (.inl (n5))] [] σ (.inl (some (.inl w)), σ') := h
  replace h := ei_p h rfl rfl rfl rfl
  obtain ⟨f, g, h⟩ := h
  clear g
  replace h : EV F f 75 z75 20 [some (rf 4 (0)), some (.inr (.inr (x1))), some (.inl (x2)), some (rf 7 (i1)), some (rf 7 (i3)), some (.inl (x5)), some (.inl (n5))] [rf 4 (0)] σ (.inl (some (.inl w)), σ') := h
  replace h := ei_get h rfl (HS_g4_1 hs)
  obtain ⟨f, g, h⟩ := h
  clear g
  replace h : EV F f 75 z75 23 [some (rf 4 (0)), some (.inr (.inr (x1))), some (.inl (x2)), some (rf 7 (i1)), some (rf 7 (i3)), some (.inl (x5)), some (.inl (n5))] [rf 2 (0)] σ (.inl (some (.inl w)), σ') := h
  replace h := ei_p h rfl rfl rfl rfl
  obtain ⟨f, g, h⟩ := h
  clear g
  replace h : EV F f 75 z75 24 [some (rf 4 (0)), some (.inr (.inr (x1))), some (.inl (x2)), some (rf 7 (i1)), some (rf 7 (i3)), some (.inl (x5)), some (.inl (n5))] [.inr (.inr (x1)), rf 2 (0)] σ (.inl (some (.inl w)), σ') := h
  replace h := ei_p h rfl rfl rfl rfl
  obtain ⟨f, g, h⟩ := h
  clear g
  replace h : EV F f 75 z75 25 [some (rf 4 (0)), some (.inr (.inr (x1))), some (.inl (x2)), some (rf 7 (i1)), some (rf 7 (i3)), some (.inl (x5)), some (.inl (n5))] [.inl (x2), .inr (.inr (x1)), rf 2 (0)] σ (.inl (some (.inl w)), σ') := h
  replace h := ei_p h rfl rfl rfl rfl
  obtain ⟨f, g, h⟩ := h
  clear g
  replace h : EV F f 75 z75 27 [some (rf 4 (0)), some (.inr (.inr (x1))), some (.inl (x2)), some (rf 7 (i1)), some (rf 7 (i3)), some (.inl (x5)), some (.inl (n5))] [.inl (n5), .inl (x2), .inr (.inr (x1)), rf 2 (0)] σ (.inl (some (.inl w)), σ') := h
  replace h := ei_p h rfl rfl rfl rfl
  obtain ⟨f, g, h⟩ := h
  clear g
  replace h : EV F f 75 z75 28 [some (rf 4 (0)), some (.inr (.inr (x1))), some (.inl (x2)), some (rf 7 (i1)), some (rf 7 (i3)), some (.inl (x5)), some (.inl (n5))] [rf 7 (i1), .inl (n5), .inl (x2), .inr (.inr (x1)), rf 2 (0)] σ (.inl (some (.inl w)), σ') := h
  replace h := ei_get h rfl rfl
  obtain ⟨f, g, h⟩ := h
  clear g
  replace h : EV F f 75 z75 31 [some (rf 4 (0)), some (.inr (.inr (x1))), some (.inl (x2)), some (rf 7 (i1)), some (rf 7 (i3)), some (.inl (x5)), some (.inl (n5))] [.inl (m_i σ 7 (i1) 1), .inl (n5), .inl (x2), .inr (.inr (x1)), rf 2 (0)] σ (.inl (some (.inl w)), σ') := h
  replace h := ei_p h rfl rfl rfl rfl
  obtain ⟨f, g, h⟩ := h
  clear g
  replace h : EV F f 75 z75 33 [some (rf 4 (0)), some (.inr (.inr (x1))), some (.inl (x2)), some (rf 7 (i1)), some (rf 7 (i3)), some (.inl (x5)), some (.inl (n5))] [rf 7 (i3), .inl (m_i σ 7 (i1) 1), .inl (n5), .inl (x2), .inr (.inr (x1)), rf 2 (0)] σ (.inl (some (.inl w)), σ') := h
  replace h := ei_get h rfl rfl
  obtain ⟨f, g, h⟩ := h
  clear g
  replace h : EV F f 75 z75 36 [some (rf 4 (0)), some (.inr (.inr (x1))), some (.inl (x2)), some (rf 7 (i1)), some (rf 7 (i3)), some (.inl (x5)), some (.inl (n5))] [.inl (m_i σ 7 (i3) 1), .inl (m_i σ 7 (i1) 1), .inl (n5), .inl (x2), .inr (.inr (x1)), rf 2 (0)] σ (.inl (some (.inl w)), σ') := h
  replace h := ei_p h rfl rfl rfl rfl
  obtain ⟨f, g, h⟩ := h
  clear g
  replace h : EV F f 75 z75 37 [some (rf 4 (0)), some (.inr (.inr (x1))), some (.inl (x2)), some (rf 7 (i1)), some (rf 7 (i3)), some (.inl (x5)), some (.inl (n5))] [.inl (Int32.ofInt 0), .inl (m_i σ 7 (i3) 1), .inl (m_i σ 7 (i1) 1), .inl (n5), .inl (x2), .inr (.inr (x1)), rf 2 (0)] σ (.inl (some (.inl w)), σ') := h
  replace h := bk_0 (ei_v (as := [.inl (Int32.ofInt 0), .inl (m_i σ 7 (i3) 1), .inl (m_i σ 7 (i1) 1), .inl (n5), .inl (x2), .inr (.inr (x1))]) h rfl rfl rfl) rfl z32_at rfl
  obtain ⟨σ8, r9, f, g, h⟩ := h
  clear g
  have p10 := x32 hs r9
  have hsσ8 : HS σ8 := HS_run rfl r9 hs
  refine ⟨σ8, fw_run W32 rfl r9, p10, ?_⟩
  replace h : EV F f 75 z75 40 [some (rf 4 (0)), some (.inr (.inr (x1))), some (.inl (x2)), some (rf 7 (i1)), some (rf 7 (i3)), some (.inl (x5)), some (.inl (n5))] [] σ8 (.inl (some (.inl w)), σ') := h
  replace h := ei_p h rfl rfl rfl rfl
  obtain ⟨f, g, h⟩ := h
  clear g
  replace h : EV F f 75 z75 41 [some (rf 4 (0)), some (.inr (.inr (x1))), some (.inl (x2)), some (rf 7 (i1)), some (rf 7 (i3)), some (.inl (x5)), some (.inl (n5))] [rf 7 (i1)] σ8 (.inl (some (.inl w)), σ') := h
  replace h := ei_get h rfl rfl
  obtain ⟨f, g, h⟩ := h
  clear g
  replace h : EV F f 75 z75 44 [some (rf 4 (0)), some (.inr (.inr (x1))), some (.inl (x2)), some (rf 7 (i1)), some (rf 7 (i3)), some (.inl (x5)), some (.inl (n5))] [.inr (.inr (m_r σ8 7 (i1) 12))] σ8 (.inl (some (.inl w)), σ') := h
  replace h := bk_0 (ei_s (as := [.inr (.inr (m_r σ8 7 (i1) 12))]) h rfl (Nat.le_of_ble_eq_true rfl) rfl rfl) rfl z68_at rfl
  obtain ⟨σ12, r13, f, g, h⟩ := h
  clear g
  have p14 := x68 hsσ8 r13
  have hsσ12 : HS σ12 := HS_run rfl r13 hsσ8
  refine ⟨σ12, fw_run W68 rfl r13, p14, ?_⟩
  replace h : EV F f 75 z75 47 [some (rf 4 (0)), some (.inr (.inr (x1))), some (.inl (x2)), some (rf 7 (i1)), some (rf 7 (i3)), some (.inl (x5)), some (.inl (n5))] [] σ12 (.inl (some (.inl w)), σ') := h
  replace h := ei_p h rfl rfl rfl rfl
  obtain ⟨f, g, h⟩ := h
  clear g
  replace h : EV F f 75 z75 49 [some (rf 4 (0)), some (.inr (.inr (x1))), some (.inl (x2)), some (rf 7 (i1)), some (rf 7 (i3)), some (.inl (x5)), some (.inl (n5))] [rf 7 (i3)] σ12 (.inl (some (.inl w)), σ') := h
  replace h := ei_get h rfl rfl
  obtain ⟨f, g, h⟩ := h
  clear g
  replace h : EV F f 75 z75 52 [some (rf 4 (0)), some (.inr (.inr (x1))), some (.inl (x2)), some (rf 7 (i1)), some (rf 7 (i3)), some (.inl (x5)), some (.inl (n5))] [.inr (.inr (m_r σ12 7 (i3) 12))] σ12 (.inl (some (.inl w)), σ') := h
  replace h := bk_0 (ei_s (as := [.inr (.inr (m_r σ12 7 (i3) 12))]) h rfl (Nat.le_of_ble_eq_true rfl) rfl rfl) rfl z68_at rfl
  obtain ⟨σ16, r17, f, g, h⟩ := h
  clear g
  have p18 := x68 hsσ12 r17
  have hsσ16 : HS σ16 := HS_run rfl r17 hsσ12
  refine ⟨σ16, fw_run W68 rfl r17, p18, ?_⟩
  replace h : EV F f 75 z75 55 [some (rf 4 (0)), some (.inr (.inr (x1))), some (.inl (x2)), some (rf 7 (i1)), some (rf 7 (i3)), some (.inl (x5)), some (.inl (n5))] [] σ16 (.inl (some (.inl w)), σ') := h
  replace h := ei_p h rfl rfl rfl rfl
  obtain ⟨f, g, h⟩ := h
  clear g
  replace h : EV F f 75 z75 56 [some (rf 4 (0)), some (.inr (.inr (x1))), some (.inl (x2)), some (rf 7 (i1)), some (rf 7 (i3)), some (.inl (x5)), some (.inl (n5))] [rf 4 (0)] σ16 (.inl (some (.inl w)), σ') := h
  replace h := ei_get h rfl (HS_g4_0 hsσ16)
  obtain ⟨f, g, h⟩ := h
  clear g
  replace h : EV F f 75 z75 59 [some (rf 4 (0)), some (.inr (.inr (x1))), some (.inl (x2)), some (rf 7 (i1)), some (rf 7 (i3)), some (.inl (x5)), some (.inl (n5))] [rf 0 (0)] σ16 (.inl (some (.inl w)), σ') := h
  replace h := ei_p h rfl rfl rfl rfl
  obtain ⟨f, g, h⟩ := h
  clear g
  replace h : EV F f 75 z75 60 [some (rf 4 (0)), some (.inr (.inr (x1))), some (.inl (x2)), some (rf 7 (i1)), some (rf 7 (i3)), some (.inl (x5)), some (.inl (n5))] [rf 7 (i1), rf 0 (0)] σ16 (.inl (some (.inl w)), σ') := h
  replace h := ei_p h rfl rfl rfl rfl
  obtain ⟨f, g, h⟩ := h
  clear g
  replace h : EV F f 75 z75 62 [some (rf 4 (0)), some (.inr (.inr (x1))), some (.inl (x2)), some (rf 7 (i1)), some (rf 7 (i3)), some (.inl (x5)), some (.inl (n5))] [.inl (n5), rf 7 (i1), rf 0 (0)] σ16 (.inl (some (.inl w)), σ') := h
  replace h := bk_0 (ei_v (as := [.inl (n5), rf 7 (i1)]) h rfl rfl rfl) rfl z13_at rfl
  obtain ⟨σ20, r21, f, g, h⟩ := h
  clear g
  have p22 := x13 hsσ16 r21
  have hsσ20 : HS σ20 := HS_run rfl r21 hsσ16
  refine ⟨σ20, fw_run W13 rfl r21, p22, ?_⟩
  replace h : EV F f 75 z75 65 [some (rf 4 (0)), some (.inr (.inr (x1))), some (.inl (x2)), some (rf 7 (i1)), some (rf 7 (i3)), some (.inl (x5)), some (.inl (n5))] [] σ20 (.inl (some (.inl w)), σ') := h
  replace h := ei_p h rfl rfl rfl rfl
  obtain ⟨f, g, h⟩ := h
  clear g
  replace h : EV F f 75 z75 66 [some (rf 4 (0)), some (.inr (.inr (x1))), some (.inl (x2)), some (rf 7 (i1)), some (rf 7 (i3)), some (.inl (x5)), some (.inl (n5))] [rf 4 (0)] σ20 (.inl (some (.inl w)), σ') := h
  replace h := ei_get h rfl (HS_g4_0 hsσ20)
  obtain ⟨f, g, h⟩ := h
  clear g
  replace h : EV F f 75 z75 69 [some (rf 4 (0)), some (.inr (.inr (x1))), some (.inl (x2)), some (rf 7 (i1)), some (rf 7 (i3)), some (.inl (x5)), some (.inl (n5))] [rf 0 (0)] σ20 (.inl (some (.inl w)), σ') := h
  replace h := ei_p h rfl rfl rfl rfl
  obtain ⟨f, g, h⟩ := h
  clear g
  replace h : EV F f 75 z75 71 [some (rf 4 (0)), some (.inr (.inr (x1))), some (.inl (x2)), some (rf 7 (i1)), some (rf 7 (i3)), some (.inl (x5)), some (.inl (n5))] [rf 7 (i3), rf 0 (0)] σ20 (.inl (some (.inl w)), σ') := h
  replace h := ei_p h rfl rfl rfl rfl
  obtain ⟨f, g, h⟩ := h
  clear g
  replace h : EV F f 75 z75 73 [some (rf 4 (0)), some (.inr (.inr (x1))), some (.inl (x2)), some (rf 7 (i1)), some (rf 7 (i3)), some (.inl (x5)), some (.inl (n5))] [.inl (n5), rf 7 (i3), rf 0 (0)] σ20 (.inl (some (.inl w)), σ') := h
  replace h := bk_0 (ei_v (as := [.inl (n5), rf 7 (i3)]) h rfl rfl rfl) rfl z13_at rfl
  obtain ⟨σ24, r25, f, g, h⟩ := h
  clear g
  have p26 := x13 hsσ20 r25
  have hsσ24 : HS σ24 := HS_run rfl r25 hsσ20
  refine ⟨σ24, fw_run W13 rfl r25, p26, ?_⟩
  replace h : EV F f 75 z75 76 [some (rf 4 (0)), some (.inr (.inr (x1))), some (.inl (x2)), some (rf 7 (i1)), some (rf 7 (i3)), some (.inl (x5)), some (.inl (n5))] [] σ24 (.inl (some (.inl w)), σ') := h
  replace h := ei_p h rfl rfl rfl rfl
  obtain ⟨f, g, h⟩ := h
  clear g
  replace h : EV F f 75 z75 78 [some (rf 4 (0)), some (.inr (.inr (x1))), some (.inl (x2)), some (rf 7 (i1)), some (rf 7 (i3)), some (.inl (x5)), some (.inl (n5))] [.inl (n5)] σ24 (.inl (some (.inl w)), σ') := h
  have e := ei_iret h rfl
  cases e
  exact ⟨rfl, rfl⟩
def z74 : mAl := ((yX4_openPaper, cX4_openPaper, 8, (some .int), { frames := 4, cells := 0, slots := 0, locals := 105 }, []), rw_X4_openPaper, false)
theorem z74_at : m_alF[74]? = some z74 := rfl
abbrev L74 : List (Nat × Nat) := [(2, 5), (6, 2), (6, 5), (7, 6), (7, 7), (7, 9), (7, 12), (8, 1), (8, 2), (8, 3), (8, 7), (10, 0), (10, 1), (10, 2), (10, 3), (10, 4), (10, 5), (10, 6), (10, 7), (10, 8), (10, 9), (14, 0)]
abbrev w74 : Nat → Nat → Bool := wl L74
def S74 : List Nat := [6, 8, 9, 10, 11, 13, 22, 28, 32, 68, 74, 75, 91, 95, 99, 100, 102, 103, 105, 106, 114]
theorem W74 : fw_S w74 S74 = true := by decide +kernel
def J74_193 (u1 : mR) (u4 : Int32) (τ : mS) (w : Int32) (σ' : mS) : Prop := ∃ i1, u1 = some (8, i1) ∧ ∃ σ4, σ4 = m_set τ 8 (i1) (1) (.inl (Int32.ofInt 0)) ∧ w = (u4) ∧ σ' = σ4
theorem j74_193 {F f : Nat} {σ' τ : mS} {u1 : mR} {u4 : Int32} {y0 : Option mV} {y2 : Option mV} {y3 : Option mV} {y5 : Option mV} {y6 : Option mV} {y7 : Option mV} {w : Int32} (hsτ : HS τ) (h : EV F f 74 z74 193 [y0, some (.inr (.inr (u1))), y2, y3, some (.inl (u4)), y5, y6, y7] [] τ (.inl (some (.inl w)), σ')) : J74_193 u1 u4 τ w σ' := by
  unfold J74_193
  replace h := ei_p h rfl rfl rfl rfl
  obtain ⟨f, g, h⟩ := h
  clear g
  replace h : EV F f 74 z74 194 [y0, some (.inr (.inr (u1))), y2, y3, some (.inl (u4)), y5, y6, y7] [.inr (.inr (u1))] τ (.inl (some (.inl w)), σ') := h
  replace h := ei_p h rfl rfl rfl rfl
  obtain ⟨f, g, h⟩ := h
  clear g
  replace h : EV F f 74 z74 195 [y0, some (.inr (.inr (u1))), y2, y3, some (.inl (u4)), y5, y6, y7] [.inl (Int32.ofInt 0), .inr (.inr (u1))] τ (.inl (some (.inl w)), σ') := h
  obtain ⟨i1, e2⟩ := ei_pp h rfl
  rw [e2] at h
  refine ⟨i1, e2, ?_⟩
  replace h : EV F f 74 z74 195 [y0, some (rf 8 (i1)), y2, y3, some (.inl (u4)), y5, y6, y7] [.inl (Int32.ofInt 0), rf 8 (i1)] τ (.inl (some (.inl w)), σ') := h
  replace h := ei_put h rfl
  obtain ⟨ht3, f, g, h⟩ := h
  clear g
  obtain ⟨σ4, e5⟩ : ∃ s, s = m_set τ 8 (i1) (1) (.inl (Int32.ofInt 0)) := ⟨_, rfl⟩
  rw [← e5] at h
  have hsσ4 : HS σ4 := by rw [e5]; exact HS_set hsτ rfl
  refine ⟨σ4, e5, ?_⟩
  replace h : EV F f 74 z74 198 [y0, some (rf 8 (i1)), y2, y3, some (.inl (u4)), y5, y6, y7] [] σ4 (.inl (some (.inl w)), σ') := h
  replace h := ei_p h rfl rfl rfl rfl
  obtain ⟨f, g, h⟩ := h
  clear g
  replace h : EV F f 74 z74 200 [y0, some (rf 8 (i1)), y2, y3, some (.inl (u4)), y5, y6, y7] [.inl (u4)] σ4 (.inl (some (.inl w)), σ') := h
  have e := ei_iret h rfl
  cases e
  exact ⟨rfl, rfl⟩
def J74_183 (u1 : mR) (u2 : Int32) (u4 : Int32) (τ : mS) (w : Int32) (σ' : mS) : Prop := (((u4).toInt ≤ (0 : Int) ∧ J74_193 (u1) (u4) τ w σ') ∨ (¬ ((u4).toInt ≤ (0 : Int)) ∧ ∃ i2, u1 = some (8, i2) ∧ ∃ σ5, σ5 = m_set τ 8 (i2) (3) (.inl (u2)) ∧ J74_193 (some (8, i2)) (u4) σ5 w σ'))
theorem j74_183 {F f : Nat} {σ' τ : mS} {u1 : mR} {u2 : Int32} {u4 : Int32} {y0 : Option mV} {y3 : Option mV} {y5 : Option mV} {y6 : Option mV} {y7 : Option mV} {w : Int32} (hsτ : HS τ) (h : EV F f 74 z74 183 [y0, some (.inr (.inr (u1))), some (.inl (u2)), y3, some (.inl (u4)), y5, y6, y7] [] τ (.inl (some (.inl w)), σ')) : J74_183 u1 u2 u4 τ w σ' := by
  unfold J74_183
  replace h := ei_p h rfl rfl rfl rfl
  obtain ⟨f, g, h⟩ := h
  clear g
  replace h : EV F f 74 z74 185 [y0, some (.inr (.inr (u1))), some (.inl (u2)), y3, some (.inl (u4)), y5, y6, y7] [.inl (u4)] τ (.inl (some (.inl w)), σ') := h
  replace h := ei_c h rfl rfl rfl
  rcases h with ⟨hp1, f, g, h⟩ | ⟨hp1, f, g, h⟩
  · skip
    replace hp1 : (u4).toInt ≤ (0 : Int) := ic_le.mp hp1
    refine Or.inl ⟨hp1, ?_⟩
    clear g
    replace h : EV F f 74 z74 193 [y0, some (.inr (.inr (u1))), some (.inl (u2)), y3, some (.inl (u4)), y5, y6, y7] [] τ (.inl (some (.inl w)), σ') := h
    exact j74_193 hsτ h
  · skip
    replace hp1 : ¬ ((u4).toInt ≤ (0 : Int)) := (not_congr ic_le).mp hp1
    refine Or.inr ⟨hp1, ?_⟩
    clear g
    replace h : EV F f 74 z74 188 [y0, some (.inr (.inr (u1))), some (.inl (u2)), y3, some (.inl (u4)), y5, y6, y7] [] τ (.inl (some (.inl w)), σ') := h
    replace h := ei_p h rfl rfl rfl rfl
    obtain ⟨f, g, h⟩ := h
    clear g
    replace h : EV F f 74 z74 189 [y0, some (.inr (.inr (u1))), some (.inl (u2)), y3, some (.inl (u4)), y5, y6, y7] [.inr (.inr (u1))] τ (.inl (some (.inl w)), σ') := h
    replace h := ei_p h rfl rfl rfl rfl
    obtain ⟨f, g, h⟩ := h
    clear g
    replace h : EV F f 74 z74 190 [y0, some (.inr (.inr (u1))), some (.inl (u2)), y3, some (.inl (u4)), y5, y6, y7] [.inl (u2), .inr (.inr (u1))] τ (.inl (some (.inl w)), σ') := h
    obtain ⟨i2, e3⟩ := ei_pp h rfl
    rw [e3] at h
    refine ⟨i2, e3, ?_⟩
    replace h : EV F f 74 z74 190 [y0, some (rf 8 (i2)), some (.inl (u2)), y3, some (.inl (u4)), y5, y6, y7] [.inl (u2), rf 8 (i2)] τ (.inl (some (.inl w)), σ') := h
    replace h := ei_put h rfl
    obtain ⟨ht4, f, g, h⟩ := h
    clear g
    obtain ⟨σ5, e6⟩ : ∃ s, s = m_set τ 8 (i2) (3) (.inl (u2)) := ⟨_, rfl⟩
    rw [← e6] at h
    have hsσ5 : HS σ5 := by rw [e6]; exact HS_set hsτ rfl
    refine ⟨σ5, e6, ?_⟩
    replace h : EV F f 74 z74 193 [y0, some (rf 8 (i2)), some (.inl (u2)), y3, some (.inl (u4)), y5, y6, y7] [] σ5 (.inl (some (.inl w)), σ') := h
    exact j74_193 hsσ5 h
abbrev B74_35 (c1 : Nat) (c2 : Int32) (c3 : Int32) (ih : Int32 → Int32 → mS → Int32 → mS → Prop) (u4 : Int32) (u5 : Int32) (τ : mS) (w : Int32) (σ' : mS) : Prop := (((1000 : Int) ≤ (u5).toInt ∧ J74_183 (some (8, c1)) (c2) (u4) τ w σ') ∨ (¬ ((1000 : Int) ≤ (u5).toInt) ∧ (((c3).toInt ≤ (u4).toInt ∧ J74_183 (some (8, c1)) (c2) (u4) τ w σ') ∨ (¬ ((c3).toInt ≤ (u4).toInt) ∧ ∃ v3, P28 τ (Int32.ofInt 1) v3 ∧ (((v3).toInt = (0 : Int) ∧ J74_183 (some (8, c1)) (c2) (u4) τ w σ') ∨ (¬ ((v3).toInt = (0 : Int)) ∧ ∃ v8, P6 τ (m_i τ 8 (c1) 0) (Int32.ofInt 0) v8 ∧ ∃ v12, P6 τ (m_i τ 8 (c1) 0) (Int32.ofInt 1) v12 ∧ ((v8 = none ∧ J74_183 (some (8, c1)) (c2) (u4) τ w σ') ∨ (∃ q17, v8 = some q17 ∧ ((v12 = none ∧ J74_183 (some (8, c1)) (c2) (u4) τ w σ') ∨ (∃ q21, v12 = some q21 ∧ ∃ i24, (some q17 : mR) = some (7, i24) ∧ ∃ v26, P103 τ (i24) (c2) v26 ∧ (((v26).toInt = (0 : Int) ∧ J74_183 (some (8, c1)) (c2) (u4) τ w σ') ∨ (¬ ((v26).toInt = (0 : Int)) ∧ ∃ i31, (some q21 : mR) = some (7, i31) ∧ ∃ v33, P103 τ (i31) (c2) v33 ∧ (((v33).toInt ≠ (0 : Int) ∧ (((m_i τ 7 (i24) 1).toInt ≠ (m_i τ 7 (i31) 1).toInt ∧ ∃ v39 σ40, fw_e w75 τ σ40 ∧ P75 τ (some (8, c1)) (c2) (some (7, i24)) (some (7, i31)) ((c3) - (u4)) v39 σ40 ∧ ih ((u4) + (v39)) ((u5) + Int32.ofInt 1) σ40 w σ') ∨ (¬ ((m_i τ 7 (i24) 1).toInt ≠ (m_i τ 7 (i31) 1).toInt) ∧ (((m_i τ 7 (i24) 0).toInt ≤ (m_i τ 7 (i31) 0).toInt ∧ ∃ σ45, fw_e w68 τ σ45 ∧ P68 τ (some (7, i31)) σ45 ∧ ih (u4) ((u5) + Int32.ofInt 1) σ45 w σ') ∨ (¬ ((m_i τ 7 (i24) 0).toInt ≤ (m_i τ 7 (i31) 0).toInt) ∧ ∃ σ49, fw_e w68 τ σ49 ∧ P68 τ (some (7, i24)) σ49 ∧ ih (u4) ((u5) + Int32.ofInt 1) σ49 w σ'))))) ∨ (¬ ((v33).toInt ≠ (0 : Int)) ∧ J74_183 (some (8, c1)) (c2) (u4) τ w σ'))))))))))))))
def Q74_35 (c1 : Nat) (c2 : Int32) (c3 : Int32) : Nat → Int32 → Int32 → mS → Int32 → mS → Prop
  | 0 => fun _ _ _ _ _ => False
  | n + 1 => B74_35 c1 c2 c3 (Q74_35 c1 c2 c3 n)
theorem q74_35 {F : Nat} {σ' : mS} {c1 : Nat} {c2 : Int32} {c3 : Int32} {w : Int32} : ∀ N f, f < N → ∀ (u4 : Int32) (u5 : Int32) (y6 : Option mV) (y7 : Option mV) (τ : mS), HS τ → EV F f 74 z74 35 [some (rf 4 (0)), some (rf 8 (c1)), some (.inl (c2)), some (.inl (c3)), some (.inl (u4)), some (.inl (u5)), y6, y7] [] τ (.inl (some (.inl w)), σ') → Q74_35 c1 c2 c3 N u4 u5 τ w σ' := by
  intro N
  induction N with
  | zero => intro f hf; omega
  | succ N IH =>
    intro f hf0 u4 u5 y6 y7 τ hsτ h
    have hf : f < N + 1 := hf0
    clear hf0
    show B74_35 c1 c2 c3 (Q74_35 c1 c2 c3 N) u4 u5 τ w σ'
    replace h := ei_p h rfl rfl rfl rfl
    obtain ⟨f, g, h⟩ := h
    replace hf := Nat.lt_of_lt_of_le g (Nat.le_of_lt_succ hf)
    clear g
    replace h : EV F f 74 z74 37 [some (rf 4 (0)), some (rf 8 (c1)), some (.inl (c2)), some (.inl (c3)), some (.inl (u4)), some (.inl (u5)), y6, y7] [.inl (u5)] τ (.inl (some (.inl w)), σ') := h
    replace h := ei_p h rfl rfl rfl rfl
    obtain ⟨f, g, h⟩ := h
    replace hf := Nat.lt_trans g hf
    clear g
    replace h : EV F f 74 z74 40 [some (rf 4 (0)), some (rf 8 (c1)), some (.inl (c2)), some (.inl (c3)), some (.inl (u4)), some (.inl (u5)), y6, y7] [.inl (Int32.ofInt 1000), .inl (u5)] τ (.inl (some (.inl w)), σ') := h
    replace h := ei_c h rfl rfl rfl
    rcases h with ⟨hp1, f, g, h⟩ | ⟨hp1, f, g, h⟩
    · skip
      replace hp1 : (1000 : Int) ≤ (u5).toInt := ic_ge.mp hp1
      refine Or.inl ⟨hp1, ?_⟩
      replace hf := Nat.lt_trans g hf
      clear g
      replace h : EV F f 74 z74 183 [some (rf 4 (0)), some (rf 8 (c1)), some (.inl (c2)), some (.inl (c3)), some (.inl (u4)), some (.inl (u5)), y6, y7] [] τ (.inl (some (.inl w)), σ') := h
      exact j74_183 hsτ h
    · skip
      replace hp1 : ¬ ((1000 : Int) ≤ (u5).toInt) := (not_congr ic_ge).mp hp1
      refine Or.inr ⟨hp1, ?_⟩
      replace hf := Nat.lt_trans g hf
      clear g
      replace h : EV F f 74 z74 43 [some (rf 4 (0)), some (rf 8 (c1)), some (.inl (c2)), some (.inl (c3)), some (.inl (u4)), some (.inl (u5)), y6, y7] [] τ (.inl (some (.inl w)), σ') := h
      replace h := ei_p h rfl rfl rfl rfl
      obtain ⟨f, g, h⟩ := h
      replace hf := Nat.lt_trans g hf
      clear g
      replace h : EV F f 74 z74 45 [some (rf 4 (0)), some (rf 8 (c1)), some (.inl (c2)), some (.inl (c3)), some (.inl (u4)), some (.inl (u5)), y6, y7] [.inl (u4)] τ (.inl (some (.inl w)), σ') := h
      replace h := ei_p h rfl rfl rfl rfl
      obtain ⟨f, g, h⟩ := h
      replace hf := Nat.lt_trans g hf
      clear g
      replace h : EV F f 74 z74 46 [some (rf 4 (0)), some (rf 8 (c1)), some (.inl (c2)), some (.inl (c3)), some (.inl (u4)), some (.inl (u5)), y6, y7] [.inl (c3), .inl (u4)] τ (.inl (some (.inl w)), σ') := h
      replace h := ei_c h rfl rfl rfl
      rcases h with ⟨hp2, f, g, h⟩ | ⟨hp2, f, g, h⟩
      · skip
        replace hp2 : (c3).toInt ≤ (u4).toInt := ic_ge.mp hp2
        refine Or.inl ⟨hp2, ?_⟩
        replace hf := Nat.lt_trans g hf
        clear g
        replace h : EV F f 74 z74 183 [some (rf 4 (0)), some (rf 8 (c1)), some (.inl (c2)), some (.inl (c3)), some (.inl (u4)), some (.inl (u5)), y6, y7] [] τ (.inl (some (.inl w)), σ') := h
        exact j74_183 hsτ h
      · skip
        replace hp2 : ¬ ((c3).toInt ≤ (u4).toInt) := (not_congr ic_ge).mp hp2
        refine Or.inr ⟨hp2, ?_⟩
        replace hf := Nat.lt_trans g hf
        clear g
        replace h : EV F f 74 z74 49 [some (rf 4 (0)), some (rf 8 (c1)), some (.inl (c2)), some (.inl (c3)), some (.inl (u4)), some (.inl (u5)), y6, y7] [] τ (.inl (some (.inl w)), σ') := h
        replace h := ei_p h rfl rfl rfl rfl
        obtain ⟨f, g, h⟩ := h
        replace hf := Nat.lt_trans g hf
        clear g
        replace h : EV F f 74 z74 50 [some (rf 4 (0)), some (rf 8 (c1)), some (.inl (c2)), some (.inl (c3)), some (.inl (u4)), some (.inl (u5)), y6, y7] [rf 4 (0)] τ (.inl (some (.inl w)), σ') := h
        replace h := ei_get h rfl (HS_g4_1 hsτ)
        obtain ⟨f, g, h⟩ := h
        replace hf := Nat.lt_trans g hf
        clear g
        replace h : EV F f 74 z74 53 [some (rf 4 (0)), some (rf 8 (c1)), some (.inl (c2)), some (.inl (c3)), some (.inl (u4)), some (.inl (u5)), y6, y7] [rf 2 (0)] τ (.inl (some (.inl w)), σ') := h
        replace h := ei_p h rfl rfl rfl rfl
        obtain ⟨f, g, h⟩ := h
        replace hf := Nat.lt_trans g hf
        clear g
        replace h : EV F f 74 z74 54 [some (rf 4 (0)), some (rf 8 (c1)), some (.inl (c2)), some (.inl (c3)), some (.inl (u4)), some (.inl (u5)), y6, y7] [.inl (Int32.ofInt 1), rf 2 (0)] τ (.inl (some (.inl w)), σ') := h
        replace h := bk_I (ei_v (as := [.inl (Int32.ofInt 1)]) h rfl rfl rfl) rfl z28_at (Or.inr rfl)
        obtain ⟨v3, σ4, r5, f, g, h⟩ := h
        replace hf := Nat.lt_trans g hf
        clear g
        have er5 := ro_run rfl r5
        rw [er5] at h r5
        have p6 := x28 hsτ r5
        refine ⟨v3, p6, ?_⟩
        replace h : EV F f 74 z74 57 [some (rf 4 (0)), some (rf 8 (c1)), some (.inl (c2)), some (.inl (c3)), some (.inl (u4)), some (.inl (u5)), y6, y7] [.inl (v3)] τ (.inl (some (.inl w)), σ') := h
        replace h := ei_c h rfl rfl rfl
        rcases h with ⟨hp7, f, g, h⟩ | ⟨hp7, f, g, h⟩
        · skip
          replace hp7 : (v3).toInt = (0 : Int) := ic_eq.mp hp7
          refine Or.inl ⟨hp7, ?_⟩
          replace hf := Nat.lt_trans g hf
          clear g
          replace h : EV F f 74 z74 183 [some (rf 4 (0)), some (rf 8 (c1)), some (.inl (c2)), some (.inl (c3)), some (.inl (u4)), some (.inl (u5)), y6, y7] [] τ (.inl (some (.inl w)), σ') := h
          exact j74_183 hsτ h
        · skip
          replace hp7 : ¬ ((v3).toInt = (0 : Int)) := (not_congr ic_eq).mp hp7
          refine Or.inr ⟨hp7, ?_⟩
          replace hf := Nat.lt_trans g hf
          clear g
          replace h : EV F f 74 z74 60 [some (rf 4 (0)), some (rf 8 (c1)), some (.inl (c2)), some (.inl (c3)), some (.inl (u4)), some (.inl (u5)), y6, y7] [] τ (.inl (some (.inl w)), σ') := h
          replace h := ei_p h rfl rfl rfl rfl
          obtain ⟨f, g, h⟩ := h
          replace hf := Nat.lt_trans g hf
          clear g
          replace h : EV F f 74 z74 61 [some (rf 4 (0)), some (rf 8 (c1)), some (.inl (c2)), some (.inl (c3)), some (.inl (u4)), some (.inl (u5)), y6, y7] [rf 4 (0)] τ (.inl (some (.inl w)), σ') := h
          replace h := ei_get h rfl (HS_g4_0 hsτ)
          obtain ⟨f, g, h⟩ := h
          replace hf := Nat.lt_trans g hf
          clear g
          replace h : EV F f 74 z74 64 [some (rf 4 (0)), some (rf 8 (c1)), some (.inl (c2)), some (.inl (c3)), some (.inl (u4)), some (.inl (u5)), y6, y7] [rf 0 (0)] τ (.inl (some (.inl w)), σ') := h
          replace h := ei_p h rfl rfl rfl rfl
          obtain ⟨f, g, h⟩ := h
          replace hf := Nat.lt_trans g hf
          clear g
          replace h : EV F f 74 z74 65 [some (rf 4 (0)), some (rf 8 (c1)), some (.inl (c2)), some (.inl (c3)), some (.inl (u4)), some (.inl (u5)), y6, y7] [rf 8 (c1), rf 0 (0)] τ (.inl (some (.inl w)), σ') := h
          replace h := ei_get h rfl rfl
          obtain ⟨f, g, h⟩ := h
          replace hf := Nat.lt_trans g hf
          clear g
          replace h : EV F f 74 z74 68 [some (rf 4 (0)), some (rf 8 (c1)), some (.inl (c2)), some (.inl (c3)), some (.inl (u4)), some (.inl (u5)), y6, y7] [.inl (m_i τ 8 (c1) 0), rf 0 (0)] τ (.inl (some (.inl w)), σ') := h
          replace h := ei_p h rfl rfl rfl rfl
          obtain ⟨f, g, h⟩ := h
          replace hf := Nat.lt_trans g hf
          clear g
          replace h : EV F f 74 z74 69 [some (rf 4 (0)), some (rf 8 (c1)), some (.inl (c2)), some (.inl (c3)), some (.inl (u4)), some (.inl (u5)), y6, y7] [.inl (Int32.ofInt 0), .inl (m_i τ 8 (c1) 0), rf 0 (0)] τ (.inl (some (.inl w)), σ') := h
          replace h := bk_R (ei_v (as := [.inl (Int32.ofInt 0), .inl (m_i τ 8 (c1) 0)]) h rfl rfl rfl) rfl z6_at rfl
          obtain ⟨v8, σ9, r10, f, g, h⟩ := h
          replace hf := Nat.lt_trans g hf
          clear g
          have er10 := ro_run rfl r10
          rw [er10] at h r10
          have p11 := x6 hsτ r10
          refine ⟨v8, p11, ?_⟩
          replace h : EV F f 74 z74 72 [some (rf 4 (0)), some (rf 8 (c1)), some (.inl (c2)), some (.inl (c3)), some (.inl (u4)), some (.inl (u5)), y6, y7] [.inr (.inr (v8))] τ (.inl (some (.inl w)), σ') := h
          replace h := ei_p h rfl rfl rfl rfl
          obtain ⟨f, g, h⟩ := h
          replace hf := Nat.lt_trans g hf
          clear g
          replace h : EV F f 74 z74 74 [some (rf 4 (0)), some (rf 8 (c1)), some (.inl (c2)), some (.inl (c3)), some (.inl (u4)), some (.inl (u5)), some (.inr (.inr (v8))), y7] [] τ (.inl (some (.inl w)), σ') := h
          replace h := ei_p h rfl rfl rfl rfl
          obtain ⟨f, g, h⟩ := h
          replace hf := Nat.lt_trans g hf
          clear g
          replace h : EV F f 74 z74 75 [some (rf 4 (0)), some (rf 8 (c1)), some (.inl (c2)), some (.inl (c3)), some (.inl (u4)), some (.inl (u5)), some (.inr (.inr (v8))), y7] [rf 4 (0)] τ (.inl (some (.inl w)), σ') := h
          replace h := ei_get h rfl (HS_g4_0 hsτ)
          obtain ⟨f, g, h⟩ := h
          replace hf := Nat.lt_trans g hf
          clear g
          replace h : EV F f 74 z74 78 [some (rf 4 (0)), some (rf 8 (c1)), some (.inl (c2)), some (.inl (c3)), some (.inl (u4)), some (.inl (u5)), some (.inr (.inr (v8))), y7] [rf 0 (0)] τ (.inl (some (.inl w)), σ') := h
          replace h := ei_p h rfl rfl rfl rfl
          obtain ⟨f, g, h⟩ := h
          replace hf := Nat.lt_trans g hf
          clear g
          replace h : EV F f 74 z74 79 [some (rf 4 (0)), some (rf 8 (c1)), some (.inl (c2)), some (.inl (c3)), some (.inl (u4)), some (.inl (u5)), some (.inr (.inr (v8))), y7] [rf 8 (c1), rf 0 (0)] τ (.inl (some (.inl w)), σ') := h
          replace h := ei_get h rfl rfl
          obtain ⟨f, g, h⟩ := h
          replace hf := Nat.lt_trans g hf
          clear g
          replace h : EV F f 74 z74 82 [some (rf 4 (0)), some (rf 8 (c1)), some (.inl (c2)), some (.inl (c3)), some (.inl (u4)), some (.inl (u5)), some (.inr (.inr (v8))), y7] [.inl (m_i τ 8 (c1) 0), rf 0 (0)] τ (.inl (some (.inl w)), σ') := h
          replace h := ei_p h rfl rfl rfl rfl
          obtain ⟨f, g, h⟩ := h
          replace hf := Nat.lt_trans g hf
          clear g
          replace h : EV F f 74 z74 83 [some (rf 4 (0)), some (rf 8 (c1)), some (.inl (c2)), some (.inl (c3)), some (.inl (u4)), some (.inl (u5)), some (.inr (.inr (v8))), y7] [.inl (Int32.ofInt 1), .inl (m_i τ 8 (c1) 0), rf 0 (0)] τ (.inl (some (.inl w)), σ') := h
          replace h := bk_R (ei_v (as := [.inl (Int32.ofInt 1), .inl (m_i τ 8 (c1) 0)]) h rfl rfl rfl) rfl z6_at rfl
          obtain ⟨v12, σ13, r14, f, g, h⟩ := h
          replace hf := Nat.lt_trans g hf
          clear g
          have er14 := ro_run rfl r14
          rw [er14] at h r14
          have p15 := x6 hsτ r14
          refine ⟨v12, p15, ?_⟩
          replace h : EV F f 74 z74 86 [some (rf 4 (0)), some (rf 8 (c1)), some (.inl (c2)), some (.inl (c3)), some (.inl (u4)), some (.inl (u5)), some (.inr (.inr (v8))), y7] [.inr (.inr (v12))] τ (.inl (some (.inl w)), σ') := h
          replace h := ei_p h rfl rfl rfl rfl
          obtain ⟨f, g, h⟩ := h
          replace hf := Nat.lt_trans g hf
          clear g
          replace h : EV F f 74 z74 88 [some (rf 4 (0)), some (rf 8 (c1)), some (.inl (c2)), some (.inl (c3)), some (.inl (u4)), some (.inl (u5)), some (.inr (.inr (v8))), some (.inr (.inr (v12)))] [] τ (.inl (some (.inl w)), σ') := h
          replace h := ei_p h rfl rfl rfl rfl
          obtain ⟨f, g, h⟩ := h
          replace hf := Nat.lt_trans g hf
          clear g
          replace h : EV F f 74 z74 90 [some (rf 4 (0)), some (rf 8 (c1)), some (.inl (c2)), some (.inl (c3)), some (.inl (u4)), some (.inl (u5)), some (.inr (.inr (v8))), some (.inr (.inr (v12)))] [.inr (.inr (v8))] τ (.inl (some (.inl w)), σ') := h
          rcases r_cs (v8) with e16 | ⟨q17, e16⟩
          · skip
            rw [e16] at h
            refine Or.inl ⟨e16, ?_⟩
            replace h : EV F f 74 z74 90 [some (rf 4 (0)), some (rf 8 (c1)), some (.inl (c2)), some (.inl (c3)), some (.inl (u4)), some (.inl (u5)), some (.inr (.inr none)), some (.inr (.inr (v12)))] [.inr (.inr none)] τ (.inl (some (.inl w)), σ') := h
            replace h := ei_c h rfl rfl rfl
            rcases h with ⟨hp18, f, g, h⟩ | ⟨hp18, f, g, h⟩
            · skip
              replace hf := Nat.lt_trans g hf
              clear g
              replace h : EV F f 74 z74 183 [some (rf 4 (0)), some (rf 8 (c1)), some (.inl (c2)), some (.inl (c3)), some (.inl (u4)), some (.inl (u5)), some (.inr (.inr none)), some (.inr (.inr (v12)))] [] τ (.inl (some (.inl w)), σ') := h
              exact j74_183 hsτ h
            · exact absurd rfl hp18
          · skip
            rw [e16] at h
            refine Or.inr ⟨q17, e16, ?_⟩
            replace h : EV F f 74 z74 90 [some (rf 4 (0)), some (rf 8 (c1)), some (.inl (c2)), some (.inl (c3)), some (.inl (u4)), some (.inl (u5)), some (.inr (.inr (some q17))), some (.inr (.inr (v12)))] [.inr (.inr (some q17))] τ (.inl (some (.inl w)), σ') := h
            replace h := ei_c h rfl rfl rfl
            rcases h with ⟨hp19, f, g, h⟩ | ⟨hp19, f, g, h⟩
            · exact absurd hp19 (fun z => by cases z)
            · skip
              replace hf := Nat.lt_trans g hf
              clear g
              replace h : EV F f 74 z74 93 [some (rf 4 (0)), some (rf 8 (c1)), some (.inl (c2)), some (.inl (c3)), some (.inl (u4)), some (.inl (u5)), some (.inr (.inr (some q17))), some (.inr (.inr (v12)))] [] τ (.inl (some (.inl w)), σ') := h
              replace h := ei_p h rfl rfl rfl rfl
              obtain ⟨f, g, h⟩ := h
              replace hf := Nat.lt_trans g hf
              clear g
              replace h : EV F f 74 z74 95 [some (rf 4 (0)), some (rf 8 (c1)), some (.inl (c2)), some (.inl (c3)), some (.inl (u4)), some (.inl (u5)), some (.inr (.inr (some q17))), some (.inr (.inr (v12)))] [.inr (.inr (v12))] τ (.inl (some (.inl w)), σ') := h
              rcases r_cs (v12) with e20 | ⟨q21, e20⟩
              · skip
                rw [e20] at h
                refine Or.inl ⟨e20, ?_⟩
                replace h : EV F f 74 z74 95 [some (rf 4 (0)), some (rf 8 (c1)), some (.inl (c2)), some (.inl (c3)), some (.inl (u4)), some (.inl (u5)), some (.inr (.inr (some q17))), some (.inr (.inr none))] [.inr (.inr none)] τ (.inl (some (.inl w)), σ') := h
                replace h := ei_c h rfl rfl rfl
                rcases h with ⟨hp22, f, g, h⟩ | ⟨hp22, f, g, h⟩
                · skip
                  replace hf := Nat.lt_trans g hf
                  clear g
                  replace h : EV F f 74 z74 183 [some (rf 4 (0)), some (rf 8 (c1)), some (.inl (c2)), some (.inl (c3)), some (.inl (u4)), some (.inl (u5)), some (.inr (.inr (some q17))), some (.inr (.inr none))] [] τ (.inl (some (.inl w)), σ') := h
                  exact j74_183 hsτ h
                · exact absurd rfl hp22
              · skip
                rw [e20] at h
                refine Or.inr ⟨q21, e20, ?_⟩
                replace h : EV F f 74 z74 95 [some (rf 4 (0)), some (rf 8 (c1)), some (.inl (c2)), some (.inl (c3)), some (.inl (u4)), some (.inl (u5)), some (.inr (.inr (some q17))), some (.inr (.inr (some q21)))] [.inr (.inr (some q21))] τ (.inl (some (.inl w)), σ') := h
                replace h := ei_c h rfl rfl rfl
                rcases h with ⟨hp23, f, g, h⟩ | ⟨hp23, f, g, h⟩
                · exact absurd hp23 (fun z => by cases z)
                · skip
                  replace hf := Nat.lt_trans g hf
                  clear g
                  replace h : EV F f 74 z74 98 [some (rf 4 (0)), some (rf 8 (c1)), some (.inl (c2)), some (.inl (c3)), some (.inl (u4)), some (.inl (u5)), some (.inr (.inr (some q17))), some (.inr (.inr (some q21)))] [] τ (.inl (some (.inl w)), σ') := h
                  replace h := ei_p h rfl rfl rfl rfl
                  obtain ⟨f, g, h⟩ := h
                  replace hf := Nat.lt_trans g hf
                  clear g
                  replace h : EV F f 74 z74 100 [some (rf 4 (0)), some (rf 8 (c1)), some (.inl (c2)), some (.inl (c3)), some (.inl (u4)), some (.inl (u5)), some (.inr (.inr (some q17))), some (.inr (.inr (some q21)))] [.inr (.inr (some q17))] τ (.inl (some (.inl w)), σ') := h
                  replace h := ei_p h rfl rfl rfl rfl
                  obtain ⟨f, g, h⟩ := h
                  replace hf := Nat.lt_trans g hf
                  clear g
                  replace h : EV F f 74 z74 101 [some (rf 4 (0)), some (rf 8 (c1)), some (.inl (c2)), some (.inl (c3)), some (.inl (u4)), some (.inl (u5)), some (.inr (.inr (some q17))), some (.inr (.inr (some q21)))] [.inl (c2), .inr (.inr (some q17))] τ (.inl (some (.inl w)), σ') := h
                  obtain ⟨i24, e25⟩ := ei_vp (as := [.inl (c2)]) h rfl rfl
                  rw [Option.some.inj e25] at h
                  refine ⟨i24, e25, ?_⟩
                  replace h : EV F f 74 z74 101 [some (rf 4 (0)), some (rf 8 (c1)), some (.inl (c2)), some (.inl (c3)), some (.inl (u4)), some (.inl (u5)), some (rf 7 (i24)), some (.inr (.inr (some q21)))] [.inl (c2), rf 7 (i24)] τ (.inl (some (.inl w)), σ') := h
                  replace h := bk_I (ei_v (as := [.inl (c2)]) h rfl rfl rfl) rfl z103_at (Or.inr rfl)
                  obtain ⟨v26, σ27, r28, f, g, h⟩ := h
                  replace hf := Nat.lt_trans g hf
                  clear g
                  have er28 := ro_run rfl r28
                  rw [er28] at h r28
                  have p29 := x103 hsτ r28
                  refine ⟨v26, p29, ?_⟩
                  replace h : EV F f 74 z74 104 [some (rf 4 (0)), some (rf 8 (c1)), some (.inl (c2)), some (.inl (c3)), some (.inl (u4)), some (.inl (u5)), some (rf 7 (i24)), some (.inr (.inr (some q21)))] [.inl (v26)] τ (.inl (some (.inl w)), σ') := h
                  replace h := ei_c h rfl rfl rfl
                  rcases h with ⟨hp30, f, g, h⟩ | ⟨hp30, f, g, h⟩
                  · skip
                    replace hp30 : (v26).toInt = (0 : Int) := ic_eq.mp hp30
                    refine Or.inl ⟨hp30, ?_⟩
                    replace hf := Nat.lt_trans g hf
                    clear g
                    replace h : EV F f 74 z74 183 [some (rf 4 (0)), some (rf 8 (c1)), some (.inl (c2)), some (.inl (c3)), some (.inl (u4)), some (.inl (u5)), some (rf 7 (i24)), some (.inr (.inr (some q21)))] [] τ (.inl (some (.inl w)), σ') := h
                    exact j74_183 hsτ h
                  · skip
                    replace hp30 : ¬ ((v26).toInt = (0 : Int)) := (not_congr ic_eq).mp hp30
                    refine Or.inr ⟨hp30, ?_⟩
                    replace hf := Nat.lt_trans g hf
                    clear g
                    replace h : EV F f 74 z74 107 [some (rf 4 (0)), some (rf 8 (c1)), some (.inl (c2)), some (.inl (c3)), some (.inl (u4)), some (.inl (u5)), some (rf 7 (i24)), some (.inr (.inr (some q21)))] [] τ (.inl (some (.inl w)), σ') := h
                    replace h := ei_p h rfl rfl rfl rfl
                    obtain ⟨f, g, h⟩ := h
                    replace hf := Nat.lt_trans g hf
                    clear g
                    replace h : EV F f 74 z74 109 [some (rf 4 (0)), some (rf 8 (c1)), some (.inl (c2)), some (.inl (c3)), some (.inl (u4)), some (.inl (u5)), some (rf 7 (i24)), some (.inr (.inr (some q21)))] [.inr (.inr (some q21))] τ (.inl (some (.inl w)), σ') := h
                    replace h := ei_p h rfl rfl rfl rfl
                    obtain ⟨f, g, h⟩ := h
                    replace hf := Nat.lt_trans g hf
                    clear g
                    replace h : EV F f 74 z74 110 [some (rf 4 (0)), some (rf 8 (c1)), some (.inl (c2)), some (.inl (c3)), some (.inl (u4)), some (.inl (u5)), some (rf 7 (i24)), some (.inr (.inr (some q21)))] [.inl (c2), .inr (.inr (some q21))] τ (.inl (some (.inl w)), σ') := h
                    obtain ⟨i31, e32⟩ := ei_vp (as := [.inl (c2)]) h rfl rfl
                    rw [Option.some.inj e32] at h
                    refine ⟨i31, e32, ?_⟩
                    replace h : EV F f 74 z74 110 [some (rf 4 (0)), some (rf 8 (c1)), some (.inl (c2)), some (.inl (c3)), some (.inl (u4)), some (.inl (u5)), some (rf 7 (i24)), some (rf 7 (i31))] [.inl (c2), rf 7 (i31)] τ (.inl (some (.inl w)), σ') := h
                    replace h := bk_I (ei_v (as := [.inl (c2)]) h rfl rfl rfl) rfl z103_at (Or.inr rfl)
                    obtain ⟨v33, σ34, r35, f, g, h⟩ := h
                    replace hf := Nat.lt_trans g hf
                    clear g
                    have er35 := ro_run rfl r35
                    rw [er35] at h r35
                    have p36 := x103 hsτ r35
                    refine ⟨v33, p36, ?_⟩
                    replace h : EV F f 74 z74 113 [some (rf 4 (0)), some (rf 8 (c1)), some (.inl (c2)), some (.inl (c3)), some (.inl (u4)), some (.inl (u5)), some (rf 7 (i24)), some (rf 7 (i31))] [.inl (v33)] τ (.inl (some (.inl w)), σ') := h
                    replace h := ei_c h rfl rfl rfl
                    rcases h with ⟨hp37, f, g, h⟩ | ⟨hp37, f, g, h⟩
                    · skip
                      replace hp37 : (v33).toInt ≠ (0 : Int) := ic_ne.mp hp37
                      refine Or.inl ⟨hp37, ?_⟩
                      replace hf := Nat.lt_trans g hf
                      clear g
                      replace h : EV F f 74 z74 119 [some (rf 4 (0)), some (rf 8 (c1)), some (.inl (c2)), some (.inl (c3)), some (.inl (u4)), some (.inl (u5)), some (rf 7 (i24)), some (rf 7 (i31))] [] τ (.inl (some (.inl w)), σ') := h
                      replace h := ei_p h rfl rfl rfl rfl
                      obtain ⟨f, g, h⟩ := h
                      replace hf := Nat.lt_trans g hf
                      clear g
                      replace h : EV F f 74 z74 121 [some (rf 4 (0)), some (rf 8 (c1)), some (.inl (c2)), some (.inl (c3)), some (.inl (u4)), some (.inl (u5)), some (rf 7 (i24)), some (rf 7 (i31))] [rf 7 (i24)] τ (.inl (some (.inl w)), σ') := h
                      replace h := ei_get h rfl rfl
                      obtain ⟨f, g, h⟩ := h
                      replace hf := Nat.lt_trans g hf
                      clear g
                      replace h : EV F f 74 z74 124 [some (rf 4 (0)), some (rf 8 (c1)), some (.inl (c2)), some (.inl (c3)), some (.inl (u4)), some (.inl (u5)), some (rf 7 (i24)), some (rf 7 (i31))] [.inl (m_i τ 7 (i24) 1)] τ (.inl (some (.inl w)), σ') := h
                      replace h := ei_p h rfl rfl rfl rfl
                      obtain ⟨f, g, h⟩ := h
                      replace hf := Nat.lt_trans g hf
                      clear g
                      replace h : EV F f 74 z74 126 [some (rf 4 (0)), some (rf 8 (c1)), some (.inl (c2)), some (.inl (c3)), some (.inl (u4)), some (.inl (u5)), some (rf 7 (i24)), some (rf 7 (i31))] [rf 7 (i31), .inl (m_i τ 7 (i24) 1)] τ (.inl (some (.inl w)), σ') := h
                      replace h := ei_get h rfl rfl
                      obtain ⟨f, g, h⟩ := h
                      replace hf := Nat.lt_trans g hf
                      clear g
                      replace h : EV F f 74 z74 129 [some (rf 4 (0)), some (rf 8 (c1)), some (.inl (c2)), some (.inl (c3)), some (.inl (u4)), some (.inl (u5)), some (rf 7 (i24)), some (rf 7 (i31))] [.inl (m_i τ 7 (i31) 1), .inl (m_i τ 7 (i24) 1)] τ (.inl (some (.inl w)), σ') := h
                      replace h := ei_c h rfl rfl rfl
                      rcases h with ⟨hp38, f, g, h⟩ | ⟨hp38, f, g, h⟩
                      · skip
                        replace hp38 : (m_i τ 7 (i24) 1).toInt ≠ (m_i τ 7 (i31) 1).toInt := ic_ne.mp hp38
                        refine Or.inl ⟨hp38, ?_⟩
                        replace hf := Nat.lt_trans g hf
                        clear g
                        replace h : EV F f 74 z74 158 [some (rf 4 (0)), some (rf 8 (c1)), some (.inl (c2)), some (.inl (c3)), some (.inl (u4)), some (.inl (u5)), some (rf 7 (i24)), some (rf 7 (i31))] [] τ (.inl (some (.inl w)), σ') := h
                        replace h := ei_p h rfl rfl rfl rfl
                        obtain ⟨f, g, h⟩ := h
                        replace hf := Nat.lt_trans g hf
                        clear g
                        replace h : EV F f 74 z74 160 [some (rf 4 (0)), some (rf 8 (c1)), some (.inl (c2)), some (.inl (c3)), some (.inl (u4)), some (.inl (u5)), some (rf 7 (i24)), some (rf 7 (i31))] [.inl (u4)] τ (.inl (some (.inl w)), σ') := h
                        replace h := ei_p h rfl rfl rfl rfl
                        obtain ⟨f, g, h⟩ := h
                        replace hf := Nat.lt_trans g hf
                        clear g
                        replace h : EV F f 74 z74 161 [some (rf 4 (0)), some (rf 8 (c1)), some (.inl (c2)), some (.inl (c3)), some (.inl (u4)), some (.inl (u5)), some (rf 7 (i24)), some (rf 7 (i31))] [rf 4 (0), .inl (u4)] τ (.inl (some (.inl w)), σ') := h
                        replace h := ei_p h rfl rfl rfl rfl
                        obtain ⟨f, g, h⟩ := h
                        replace hf := Nat.lt_trans g hf
                        clear g
                        replace h : EV F f 74 z74 162 [some (rf 4 (0)), some (rf 8 (c1)), some (.inl (c2)), some (.inl (c3)), some (.inl (u4)), some (.inl (u5)), some (rf 7 (i24)), some (rf 7 (i31))] [rf 8 (c1), rf 4 (0), .inl (u4)] τ (.inl (some (.inl w)), σ') := h
                        replace h := ei_p h rfl rfl rfl rfl
                        obtain ⟨f, g, h⟩ := h
                        replace hf := Nat.lt_trans g hf
                        clear g
                        replace h : EV F f 74 z74 163 [some (rf 4 (0)), some (rf 8 (c1)), some (.inl (c2)), some (.inl (c3)), some (.inl (u4)), some (.inl (u5)), some (rf 7 (i24)), some (rf 7 (i31))] [.inl (c2), rf 8 (c1), rf 4 (0), .inl (u4)] τ (.inl (some (.inl w)), σ') := h
                        replace h := ei_p h rfl rfl rfl rfl
                        obtain ⟨f, g, h⟩ := h
                        replace hf := Nat.lt_trans g hf
                        clear g
                        replace h : EV F f 74 z74 165 [some (rf 4 (0)), some (rf 8 (c1)), some (.inl (c2)), some (.inl (c3)), some (.inl (u4)), some (.inl (u5)), some (rf 7 (i24)), some (rf 7 (i31))] [rf 7 (i24), .inl (c2), rf 8 (c1), rf 4 (0), .inl (u4)] τ (.inl (some (.inl w)), σ') := h
                        replace h := ei_p h rfl rfl rfl rfl
                        obtain ⟨f, g, h⟩ := h
                        replace hf := Nat.lt_trans g hf
                        clear g
                        replace h : EV F f 74 z74 167 [some (rf 4 (0)), some (rf 8 (c1)), some (.inl (c2)), some (.inl (c3)), some (.inl (u4)), some (.inl (u5)), some (rf 7 (i24)), some (rf 7 (i31))] [rf 7 (i31), rf 7 (i24), .inl (c2), rf 8 (c1), rf 4 (0), .inl (u4)] τ (.inl (some (.inl w)), σ') := h
                        replace h := ei_p h rfl rfl rfl rfl
                        obtain ⟨f, g, h⟩ := h
                        replace hf := Nat.lt_trans g hf
                        clear g
                        replace h : EV F f 74 z74 168 [some (rf 4 (0)), some (rf 8 (c1)), some (.inl (c2)), some (.inl (c3)), some (.inl (u4)), some (.inl (u5)), some (rf 7 (i24)), some (rf 7 (i31))] [.inl (c3), rf 7 (i31), rf 7 (i24), .inl (c2), rf 8 (c1), rf 4 (0), .inl (u4)] τ (.inl (some (.inl w)), σ') := h
                        replace h := ei_p h rfl rfl rfl rfl
                        obtain ⟨f, g, h⟩ := h
                        replace hf := Nat.lt_trans g hf
                        clear g
                        replace h : EV F f 74 z74 170 [some (rf 4 (0)), some (rf 8 (c1)), some (.inl (c2)), some (.inl (c3)), some (.inl (u4)), some (.inl (u5)), some (rf 7 (i24)), some (rf 7 (i31))] [.inl (u4), .inl (c3), rf 7 (i31), rf 7 (i24), .inl (c2), rf 8 (c1), rf 4 (0), .inl (u4)] τ (.inl (some (.inl w)), σ') := h
                        replace h := ei_p h rfl rfl rfl rfl
                        obtain ⟨f, g, h⟩ := h
                        replace hf := Nat.lt_trans g hf
                        clear g
                        replace h : EV F f 74 z74 171 [some (rf 4 (0)), some (rf 8 (c1)), some (.inl (c2)), some (.inl (c3)), some (.inl (u4)), some (.inl (u5)), some (rf 7 (i24)), some (rf 7 (i31))] [.inl ((c3) - (u4)), rf 7 (i31), rf 7 (i24), .inl (c2), rf 8 (c1), rf 4 (0), .inl (u4)] τ (.inl (some (.inl w)), σ') := h
                        replace h := bk_I (ei_v (as := [.inl ((c3) - (u4)), rf 7 (i31), rf 7 (i24), .inl (c2), rf 8 (c1)]) h rfl rfl rfl) rfl z75_at (Or.inl rfl)
                        obtain ⟨v39, σ40, r41, f, g, h⟩ := h
                        replace hf := Nat.lt_trans g hf
                        clear g
                        have p42 := x75 hsτ r41
                        have hsσ40 : HS σ40 := HS_run rfl r41 hsτ
                        refine ⟨v39, σ40, fw_run W75 rfl r41, p42, ?_⟩
                        replace h : EV F f 74 z74 174 [some (rf 4 (0)), some (rf 8 (c1)), some (.inl (c2)), some (.inl (c3)), some (.inl (u4)), some (.inl (u5)), some (rf 7 (i24)), some (rf 7 (i31))] [.inl (v39), .inl (u4)] σ40 (.inl (some (.inl w)), σ') := h
                        replace h := ei_p h rfl rfl rfl rfl
                        obtain ⟨f, g, h⟩ := h
                        replace hf := Nat.lt_trans g hf
                        clear g
                        replace h : EV F f 74 z74 175 [some (rf 4 (0)), some (rf 8 (c1)), some (.inl (c2)), some (.inl (c3)), some (.inl (u4)), some (.inl (u5)), some (rf 7 (i24)), some (rf 7 (i31))] [.inl ((u4) + (v39))] σ40 (.inl (some (.inl w)), σ') := h
                        replace h := ei_p h rfl rfl rfl rfl
                        obtain ⟨f, g, h⟩ := h
                        replace hf := Nat.lt_trans g hf
                        clear g
                        replace h : EV F f 74 z74 177 [some (rf 4 (0)), some (rf 8 (c1)), some (.inl (c2)), some (.inl (c3)), some (.inl ((u4) + (v39))), some (.inl (u5)), some (rf 7 (i24)), some (rf 7 (i31))] [] σ40 (.inl (some (.inl w)), σ') := h
                        replace h := ei_p h rfl rfl rfl rfl
                        obtain ⟨f, g, h⟩ := h
                        replace hf := Nat.lt_trans g hf
                        clear g
                        replace h : EV F f 74 z74 180 [some (rf 4 (0)), some (rf 8 (c1)), some (.inl (c2)), some (.inl (c3)), some (.inl ((u4) + (v39))), some (.inl ((u5) + Int32.ofInt 1)), some (rf 7 (i24)), some (rf 7 (i31))] [] σ40 (.inl (some (.inl w)), σ') := h
                        replace h := ei_p h rfl rfl rfl rfl
                        obtain ⟨f, g, h⟩ := h
                        replace hf := Nat.lt_trans g hf
                        clear g
                        replace h : EV F f 74 z74 35 [some (rf 4 (0)), some (rf 8 (c1)), some (.inl (c2)), some (.inl (c3)), some (.inl ((u4) + (v39))), some (.inl ((u5) + Int32.ofInt 1)), some (rf 7 (i24)), some (rf 7 (i31))] [] σ40 (.inl (some (.inl w)), σ') := h
                        exact IH f hf ((u4) + (v39)) ((u5) + Int32.ofInt 1) (some (rf 7 (i24))) (some (rf 7 (i31))) σ40 hsσ40 h
                      · skip
                        replace hp38 : ¬ ((m_i τ 7 (i24) 1).toInt ≠ (m_i τ 7 (i31) 1).toInt) := (not_congr ic_ne).mp hp38
                        refine Or.inr ⟨hp38, ?_⟩
                        replace hf := Nat.lt_trans g hf
                        clear g
                        replace h : EV F f 74 z74 132 [some (rf 4 (0)), some (rf 8 (c1)), some (.inl (c2)), some (.inl (c3)), some (.inl (u4)), some (.inl (u5)), some (rf 7 (i24)), some (rf 7 (i31))] [] τ (.inl (some (.inl w)), σ') := h
                        replace h := ei_p h rfl rfl rfl rfl
                        obtain ⟨f, g, h⟩ := h
                        replace hf := Nat.lt_trans g hf
                        clear g
                        replace h : EV F f 74 z74 134 [some (rf 4 (0)), some (rf 8 (c1)), some (.inl (c2)), some (.inl (c3)), some (.inl (u4)), some (.inl (u5)), some (rf 7 (i24)), some (rf 7 (i31))] [rf 7 (i24)] τ (.inl (some (.inl w)), σ') := h
                        replace h := ei_get h rfl rfl
                        obtain ⟨f, g, h⟩ := h
                        replace hf := Nat.lt_trans g hf
                        clear g
                        replace h : EV F f 74 z74 137 [some (rf 4 (0)), some (rf 8 (c1)), some (.inl (c2)), some (.inl (c3)), some (.inl (u4)), some (.inl (u5)), some (rf 7 (i24)), some (rf 7 (i31))] [.inl (m_i τ 7 (i24) 0)] τ (.inl (some (.inl w)), σ') := h
                        replace h := ei_p h rfl rfl rfl rfl
                        obtain ⟨f, g, h⟩ := h
                        replace hf := Nat.lt_trans g hf
                        clear g
                        replace h : EV F f 74 z74 139 [some (rf 4 (0)), some (rf 8 (c1)), some (.inl (c2)), some (.inl (c3)), some (.inl (u4)), some (.inl (u5)), some (rf 7 (i24)), some (rf 7 (i31))] [rf 7 (i31), .inl (m_i τ 7 (i24) 0)] τ (.inl (some (.inl w)), σ') := h
                        replace h := ei_get h rfl rfl
                        obtain ⟨f, g, h⟩ := h
                        replace hf := Nat.lt_trans g hf
                        clear g
                        replace h : EV F f 74 z74 142 [some (rf 4 (0)), some (rf 8 (c1)), some (.inl (c2)), some (.inl (c3)), some (.inl (u4)), some (.inl (u5)), some (rf 7 (i24)), some (rf 7 (i31))] [.inl (m_i τ 7 (i31) 0), .inl (m_i τ 7 (i24) 0)] τ (.inl (some (.inl w)), σ') := h
                        replace h := ei_c h rfl rfl rfl
                        rcases h with ⟨hp43, f, g, h⟩ | ⟨hp43, f, g, h⟩
                        · skip
                          replace hp43 : (m_i τ 7 (i24) 0).toInt ≤ (m_i τ 7 (i31) 0).toInt := ic_le.mp hp43
                          refine Or.inl ⟨hp43, ?_⟩
                          replace hf := Nat.lt_trans g hf
                          clear g
                          replace h : EV F f 74 z74 150 [some (rf 4 (0)), some (rf 8 (c1)), some (.inl (c2)), some (.inl (c3)), some (.inl (u4)), some (.inl (u5)), some (rf 7 (i24)), some (rf 7 (i31))] [] τ (.inl (some (.inl w)), σ') := h
                          replace h := ei_p h rfl rfl rfl rfl
                          obtain ⟨f, g, h⟩ := h
                          replace hf := Nat.lt_trans g hf
                          clear g
                          replace h : EV F f 74 z74 152 [some (rf 4 (0)), some (rf 8 (c1)), some (.inl (c2)), some (.inl (c3)), some (.inl (u4)), some (.inl (u5)), some (rf 7 (i24)), some (rf 7 (i31))] [rf 7 (i31)] τ (.inl (some (.inl w)), σ') := h
                          replace h := bk_0 (ei_s (as := [rf 7 (i31)]) h rfl (Nat.le_of_ble_eq_true rfl) rfl rfl) rfl z68_at rfl
                          obtain ⟨σ45, r46, f, g, h⟩ := h
                          replace hf := Nat.lt_trans g hf
                          clear g
                          have p47 := x68 hsτ r46
                          have hsσ45 : HS σ45 := HS_run rfl r46 hsτ
                          refine ⟨σ45, fw_run W68 rfl r46, p47, ?_⟩
                          replace h : EV F f 74 z74 155 [some (rf 4 (0)), some (rf 8 (c1)), some (.inl (c2)), some (.inl (c3)), some (.inl (u4)), some (.inl (u5)), some (rf 7 (i24)), some (rf 7 (i31))] [] σ45 (.inl (some (.inl w)), σ') := h
                          replace h := ei_p h rfl rfl rfl rfl
                          obtain ⟨f, g, h⟩ := h
                          replace hf := Nat.lt_trans g hf
                          clear g
                          replace h : EV F f 74 z74 177 [some (rf 4 (0)), some (rf 8 (c1)), some (.inl (c2)), some (.inl (c3)), some (.inl (u4)), some (.inl (u5)), some (rf 7 (i24)), some (rf 7 (i31))] [] σ45 (.inl (some (.inl w)), σ') := h
                          replace h := ei_p h rfl rfl rfl rfl
                          obtain ⟨f, g, h⟩ := h
                          replace hf := Nat.lt_trans g hf
                          clear g
                          replace h : EV F f 74 z74 180 [some (rf 4 (0)), some (rf 8 (c1)), some (.inl (c2)), some (.inl (c3)), some (.inl (u4)), some (.inl ((u5) + Int32.ofInt 1)), some (rf 7 (i24)), some (rf 7 (i31))] [] σ45 (.inl (some (.inl w)), σ') := h
                          replace h := ei_p h rfl rfl rfl rfl
                          obtain ⟨f, g, h⟩ := h
                          replace hf := Nat.lt_trans g hf
                          clear g
                          replace h : EV F f 74 z74 35 [some (rf 4 (0)), some (rf 8 (c1)), some (.inl (c2)), some (.inl (c3)), some (.inl (u4)), some (.inl ((u5) + Int32.ofInt 1)), some (rf 7 (i24)), some (rf 7 (i31))] [] σ45 (.inl (some (.inl w)), σ') := h
                          exact IH f hf (u4) ((u5) + Int32.ofInt 1) (some (rf 7 (i24))) (some (rf 7 (i31))) σ45 hsσ45 h
                        · skip
                          replace hp43 : ¬ ((m_i τ 7 (i24) 0).toInt ≤ (m_i τ 7 (i31) 0).toInt) := (not_congr ic_le).mp hp43
                          refine Or.inr ⟨hp43, ?_⟩
                          replace hf := Nat.lt_trans g hf
                          clear g
                          replace h : EV F f 74 z74 145 [some (rf 4 (0)), some (rf 8 (c1)), some (.inl (c2)), some (.inl (c3)), some (.inl (u4)), some (.inl (u5)), some (rf 7 (i24)), some (rf 7 (i31))] [] τ (.inl (some (.inl w)), σ') := h
                          replace h := ei_p h rfl rfl rfl rfl
                          obtain ⟨f, g, h⟩ := h
                          replace hf := Nat.lt_trans g hf
                          clear g
                          replace h : EV F f 74 z74 147 [some (rf 4 (0)), some (rf 8 (c1)), some (.inl (c2)), some (.inl (c3)), some (.inl (u4)), some (.inl (u5)), some (rf 7 (i24)), some (rf 7 (i31))] [rf 7 (i24)] τ (.inl (some (.inl w)), σ') := h
                          replace h := ei_p h rfl rfl rfl rfl
                          obtain ⟨f, g, h⟩ := h
                          replace hf := Nat.lt_trans g hf
                          clear g
                          replace h : EV F f 74 z74 152 [some (rf 4 (0)), some (rf 8 (c1)), some (.inl (c2)), some (.inl (c3)), some (.inl (u4)), some (.inl (u5)), some (rf 7 (i24)), some (rf 7 (i31))] [rf 7 (i24)] τ (.inl (some (.inl w)), σ') := h
                          replace h := bk_0 (ei_s (as := [rf 7 (i24)]) h rfl (Nat.le_of_ble_eq_true rfl) rfl rfl) rfl z68_at rfl
                          obtain ⟨σ49, r50, f, g, h⟩ := h
                          replace hf := Nat.lt_trans g hf
                          clear g
                          have p51 := x68 hsτ r50
                          have hsσ49 : HS σ49 := HS_run rfl r50 hsτ
                          refine ⟨σ49, fw_run W68 rfl r50, p51, ?_⟩
                          replace h : EV F f 74 z74 155 [some (rf 4 (0)), some (rf 8 (c1)), some (.inl (c2)), some (.inl (c3)), some (.inl (u4)), some (.inl (u5)), some (rf 7 (i24)), some (rf 7 (i31))] [] σ49 (.inl (some (.inl w)), σ') := h
                          replace h := ei_p h rfl rfl rfl rfl
                          obtain ⟨f, g, h⟩ := h
                          replace hf := Nat.lt_trans g hf
                          clear g
                          replace h : EV F f 74 z74 177 [some (rf 4 (0)), some (rf 8 (c1)), some (.inl (c2)), some (.inl (c3)), some (.inl (u4)), some (.inl (u5)), some (rf 7 (i24)), some (rf 7 (i31))] [] σ49 (.inl (some (.inl w)), σ') := h
                          replace h := ei_p h rfl rfl rfl rfl
                          obtain ⟨f, g, h⟩ := h
                          replace hf := Nat.lt_trans g hf
                          clear g
                          replace h : EV F f 74 z74 180 [some (rf 4 (0)), some (rf 8 (c1)), some (.inl (c2)), some (.inl (c3)), some (.inl (u4)), some (.inl ((u5) + Int32.ofInt 1)), some (rf 7 (i24)), some (rf 7 (i31))] [] σ49 (.inl (some (.inl w)), σ') := h
                          replace h := ei_p h rfl rfl rfl rfl
                          obtain ⟨f, g, h⟩ := h
                          replace hf := Nat.lt_trans g hf
                          clear g
                          replace h : EV F f 74 z74 35 [some (rf 4 (0)), some (rf 8 (c1)), some (.inl (c2)), some (.inl (c3)), some (.inl (u4)), some (.inl ((u5) + Int32.ofInt 1)), some (rf 7 (i24)), some (rf 7 (i31))] [] σ49 (.inl (some (.inl w)), σ') := h
                          exact IH f hf (u4) ((u5) + Int32.ofInt 1) (some (rf 7 (i24))) (some (rf 7 (i31))) σ49 hsσ49 h
                    · skip
                      replace hp37 : ¬ ((v33).toInt ≠ (0 : Int)) := (not_congr ic_ne).mp hp37
                      refine Or.inr ⟨hp37, ?_⟩
                      replace hf := Nat.lt_trans g hf
                      clear g
                      replace h : EV F f 74 z74 116 [some (rf 4 (0)), some (rf 8 (c1)), some (.inl (c2)), some (.inl (c3)), some (.inl (u4)), some (.inl (u5)), some (rf 7 (i24)), some (rf 7 (i31))] [] τ (.inl (some (.inl w)), σ') := h
                      replace h := ei_p h rfl rfl rfl rfl
                      obtain ⟨f, g, h⟩ := h
                      replace hf := Nat.lt_trans g hf
                      clear g
                      replace h : EV F f 74 z74 183 [some (rf 4 (0)), some (rf 8 (c1)), some (.inl (c2)), some (.inl (c3)), some (.inl (u4)), some (.inl (u5)), some (rf 7 (i24)), some (rf 7 (i31))] [] τ (.inl (some (.inl w)), σ') := h
                      exact j74_183 hsτ h
def P74 (σ : mS) (x1 : mR) (w : Int32) (σ' : mS) : Prop := ∃ i1, x1 = some (8, i1) ∧ ∃ v3, P10 σ (m_i σ 8 (i1) 0) (m_i σ 8 (i1) 3) v3 ∧ ∃ v7, P9 σ (m_i σ 8 (i1) 0) (v3) v7 ∧ ∃ n, Q74_35 (i1) (v3) (v7) n (Int32.ofInt 0) (Int32.ofInt 0) σ w σ'
theorem x74 {σ σ' : mS} {x1 : mR} {w : Int32} (hs : HS σ) (h : ev_run sm_all 74 [rf 4 (0), .inr (.inr (x1))] σ (.inl (some (.inl w))) σ') : P74 σ x1 w σ' := by
  unfold P74
  obtain ⟨F, f, h⟩ := ei_go h z74_at
  replace h : EV F f 74 z74 0 [some (rf 4 (0)), some (.inr (.inr (x1))), none, none, none, none, none, none] [] σ (.inl (some (.inl w)), σ') := h
  replace h := ei_p h rfl rfl rfl rfl
  obtain ⟨f, g, h⟩ := h
  clear g
  replace h : EV F f 74 z74 1 [some (rf 4 (0)), some (.inr (.inr (x1))), none, none, none, none, none, none] [rf 4 (0)] σ (.inl (some (.inl w)), σ') := h
  replace h := ei_get h rfl (HS_g4_0 hs)
  obtain ⟨f, g, h⟩ := h
  clear g
  replace h : EV F f 74 z74 4 [some (rf 4 (0)), some (.inr (.inr (x1))), none, none, none, none, none, none] [rf 0 (0)] σ (.inl (some (.inl w)), σ') := h
  replace h := ei_p h rfl rfl rfl rfl
  obtain ⟨f, g, h⟩ := h
  clear g
  replace h : EV F f 74 z74 5 [some (rf 4 (0)), some (.inr (.inr (x1))), none, none, none, none, none, none] [.inr (.inr (x1)), rf 0 (0)] σ (.inl (some (.inl w)), σ') := h
  obtain ⟨i1, e2⟩ := ei_gp h rfl
  rw [e2] at h
  refine ⟨i1, e2, ?_⟩
  replace h : EV F f 74 z74 5 [some (rf 4 (0)), some (rf 8 (i1)), none, none, none, none, none, none] [rf 8 (i1), rf 0 (0)] σ (.inl (some (.inl w)), σ') := h
  replace h := ei_get h rfl rfl
  obtain ⟨f, g, h⟩ := h
  clear g
  replace h : EV F f 74 z74 8 [some (rf 4 (0)), some (rf 8 (i1)), none, none, none, none, none, none] [.inl (m_i σ 8 (i1) 0), rf 0 (0)] σ (.inl (some (.inl w)), σ') := h
  replace h := ei_p h rfl rfl rfl rfl
  obtain ⟨f, g, h⟩ := h
  clear g
  replace h : EV F f 74 z74 9 [some (rf 4 (0)), some (rf 8 (i1)), none, none, none, none, none, none] [rf 8 (i1), .inl (m_i σ 8 (i1) 0), rf 0 (0)] σ (.inl (some (.inl w)), σ') := h
  replace h := ei_get h rfl rfl
  obtain ⟨f, g, h⟩ := h
  clear g
  replace h : EV F f 74 z74 12 [some (rf 4 (0)), some (rf 8 (i1)), none, none, none, none, none, none] [.inl (m_i σ 8 (i1) 3), .inl (m_i σ 8 (i1) 0), rf 0 (0)] σ (.inl (some (.inl w)), σ') := h
  replace h := bk_I (ei_v (as := [.inl (m_i σ 8 (i1) 3), .inl (m_i σ 8 (i1) 0)]) h rfl rfl rfl) rfl z10_at (Or.inl rfl)
  obtain ⟨v3, σ4, r5, f, g, h⟩ := h
  clear g
  have er5 := ro_run rfl r5
  rw [er5] at h r5
  have p6 := x10 hs r5
  refine ⟨v3, p6, ?_⟩
  replace h : EV F f 74 z74 15 [some (rf 4 (0)), some (rf 8 (i1)), none, none, none, none, none, none] [.inl (v3)] σ (.inl (some (.inl w)), σ') := h
  replace h := ei_p h rfl rfl rfl rfl
  obtain ⟨f, g, h⟩ := h
  clear g
  replace h : EV F f 74 z74 16 [some (rf 4 (0)), some (rf 8 (i1)), some (.inl (v3)), none, none, none, none, none] [] σ (.inl (some (.inl w)), σ') := h
  replace h := ei_p h rfl rfl rfl rfl
  obtain ⟨f, g, h⟩ := h
  clear g
  replace h : EV F f 74 z74 17 [some (rf 4 (0)), some (rf 8 (i1)), some (.inl (v3)), none, none, none, none, none] [rf 4 (0)] σ (.inl (some (.inl w)), σ') := h
  replace h := ei_get h rfl (HS_g4_0 hs)
  obtain ⟨f, g, h⟩ := h
  clear g
  replace h : EV F f 74 z74 20 [some (rf 4 (0)), some (rf 8 (i1)), some (.inl (v3)), none, none, none, none, none] [rf 0 (0)] σ (.inl (some (.inl w)), σ') := h
  replace h := ei_p h rfl rfl rfl rfl
  obtain ⟨f, g, h⟩ := h
  clear g
  replace h : EV F f 74 z74 21 [some (rf 4 (0)), some (rf 8 (i1)), some (.inl (v3)), none, none, none, none, none] [rf 8 (i1), rf 0 (0)] σ (.inl (some (.inl w)), σ') := h
  replace h := ei_get h rfl rfl
  obtain ⟨f, g, h⟩ := h
  clear g
  replace h : EV F f 74 z74 24 [some (rf 4 (0)), some (rf 8 (i1)), some (.inl (v3)), none, none, none, none, none] [.inl (m_i σ 8 (i1) 0), rf 0 (0)] σ (.inl (some (.inl w)), σ') := h
  replace h := ei_p h rfl rfl rfl rfl
  obtain ⟨f, g, h⟩ := h
  clear g
  replace h : EV F f 74 z74 25 [some (rf 4 (0)), some (rf 8 (i1)), some (.inl (v3)), none, none, none, none, none] [.inl (v3), .inl (m_i σ 8 (i1) 0), rf 0 (0)] σ (.inl (some (.inl w)), σ') := h
  replace h := bk_I (ei_v (as := [.inl (v3), .inl (m_i σ 8 (i1) 0)]) h rfl rfl rfl) rfl z9_at (Or.inl rfl)
  obtain ⟨v7, σ8, r9, f, g, h⟩ := h
  clear g
  have er9 := ro_run rfl r9
  rw [er9] at h r9
  have p10 := x9 hs r9
  refine ⟨v7, p10, ?_⟩
  replace h : EV F f 74 z74 28 [some (rf 4 (0)), some (rf 8 (i1)), some (.inl (v3)), none, none, none, none, none] [.inl (v7)] σ (.inl (some (.inl w)), σ') := h
  replace h := ei_p h rfl rfl rfl rfl
  obtain ⟨f, g, h⟩ := h
  clear g
  replace h : EV F f 74 z74 29 [some (rf 4 (0)), some (rf 8 (i1)), some (.inl (v3)), some (.inl (v7)), none, none, none, none] [] σ (.inl (some (.inl w)), σ') := h
  replace h := ei_p h rfl rfl rfl rfl
  obtain ⟨f, g, h⟩ := h
  clear g
  replace h : EV F f 74 z74 30 [some (rf 4 (0)), some (rf 8 (i1)), some (.inl (v3)), some (.inl (v7)), none, none, none, none] [.inl (Int32.ofInt 0)] σ (.inl (some (.inl w)), σ') := h
  replace h := ei_p h rfl rfl rfl rfl
  obtain ⟨f, g, h⟩ := h
  clear g
  replace h : EV F f 74 z74 32 [some (rf 4 (0)), some (rf 8 (i1)), some (.inl (v3)), some (.inl (v7)), some (.inl (Int32.ofInt 0)), none, none, none] [] σ (.inl (some (.inl w)), σ') := h
  replace h := ei_p h rfl rfl rfl rfl
  obtain ⟨f, g, h⟩ := h
  clear g
  replace h : EV F f 74 z74 33 [some (rf 4 (0)), some (rf 8 (i1)), some (.inl (v3)), some (.inl (v7)), some (.inl (Int32.ofInt 0)), none, none, none] [.inl (Int32.ofInt 0)] σ (.inl (some (.inl w)), σ') := h
  replace h := ei_p h rfl rfl rfl rfl
  obtain ⟨f, g, h⟩ := h
  clear g
  replace h : EV F f 74 z74 35 [some (rf 4 (0)), some (rf 8 (i1)), some (.inl (v3)), some (.inl (v7)), some (.inl (Int32.ofInt 0)), some (.inl (Int32.ofInt 0)), none, none] [] σ (.inl (some (.inl w)), σ') := h
  exact ⟨f + 1, q74_35 (f + 1) f (Nat.lt_succ_self f) (Int32.ofInt 0) (Int32.ofInt 0) _ _ σ hs h⟩
def z62 : mAl := ((yX4_changePaper, cX4_changePaper, 3, (some .long), { frames := 5, cells := 0, slots := 0, locals := 132 }, []), rw_X4_changePaper, false)
theorem z62_at : m_alF[62]? = some z62 := rfl
abbrev L62 : List (Nat × Nat) := [(2, 5), (6, 2), (6, 5), (7, 4), (7, 5), (7, 6), (7, 7), (7, 8), (7, 9), (7, 12), (8, 1), (8, 2), (8, 3), (8, 4), (8, 5), (8, 6), (8, 7), (10, 0), (10, 1), (10, 2), (10, 3), (10, 4), (10, 5), (10, 6), (10, 7), (10, 8), (10, 9), (14, 0)]
abbrev w62 : Nat → Nat → Bool := wl L62
def S62 : List Nat := [6, 8, 9, 10, 11, 13, 15, 22, 24, 28, 32, 36, 62, 68, 74, 75, 90, 91, 95, 99, 100, 102, 103, 105, 106, 107, 114, 115, 116, 117]
theorem W62 : fw_S w62 S62 = true := by decide +kernel
def P62 (σ : mS) (x1 : mR) (w : Int64) (σ' : mS) : Prop := ∃ i1, x1 = some (1, i1) ∧ ∃ v3, P24 σ (m_i σ 1 (i1) 1) v3 ∧ ((v3 = none ∧ w = (Int64.ofNat 0) ∧ σ' = σ) ∨ (∃ q8, v3 = some q8 ∧ ((((m_i σ 1 (i1) 0).toInt < 7 ∨ 9 < (m_i σ 1 (i1) 0).toInt) ∧ ∃ σ14, fw_e w36 σ σ14 ∧ P36 σ (some q8) (m_i σ 1 (i1) 2) σ14 ∧ ∃ i17, (some q8 : mR) = some (8, i17) ∧ ∃ σ20, fw_e w15 σ14 σ20 ∧ P15 σ14 (m_i σ14 8 (i17) 0) (m_i σ14 1 (i1) 2) σ20 ∧ w = ((m_i σ20 8 (i17) 5).toInt64) ∧ σ' = σ20) ∨ ((m_i σ 1 (i1) 0).toInt = 7 ∧ ∃ i23, (some q8 : mR) = some (8, i23) ∧ ∃ v25 σ26, fw_e w115 σ σ26 ∧ P115 σ (i23) (m_i σ 1 (i1) 2) v25 σ26 ∧ w = ((v25).toInt64) ∧ σ' = σ26) ∨ ((m_i σ 1 (i1) 0).toInt = 8 ∧ ∃ i29, (some q8 : mR) = some (8, i29) ∧ ∃ σ32, σ32 = m_set σ 8 (i29) (1) (.inl (Int32.ofInt 1)) ∧ w = (Int64.ofNat 0) ∧ σ' = σ32) ∨ ((m_i σ 1 (i1) 0).toInt = 9 ∧ ∃ v34 σ35, fw_e w74 σ σ35 ∧ P74 σ (some q8) v34 σ35 ∧ w = ((v34).toInt64) ∧ σ' = σ35))))
theorem x62 {σ σ' : mS} {x1 : mR} {w : Int64} (hs : HS σ) (h : ev_run sm_all 62 [rf 4 (0), .inr (.inr (x1))] σ (.inl (some (.inr (.inl w)))) σ') : P62 σ x1 w σ' := by
  unfold P62
  obtain ⟨F, f, h⟩ := ei_go h z62_at
  replace h : EV F f 62 z62 0 [some (rf 4 (0)), some (.inr (.inr (x1))), none] [] σ (.inl (some (.inr (.inl w))), σ') := h
  replace h := ei_p h rfl rfl rfl rfl
  obtain ⟨f, g, h⟩ := h
  clear g
  replace h : EV F f 62 z62 1 [some (rf 4 (0)), some (.inr (.inr (x1))), none] [rf 4 (0)] σ (.inl (some (.inr (.inl w))), σ') := h
  replace h := ei_get h rfl (HS_g4_1 hs)
  obtain ⟨f, g, h⟩ := h
  clear g
  replace h : EV F f 62 z62 4 [some (rf 4 (0)), some (.inr (.inr (x1))), none] [rf 2 (0)] σ (.inl (some (.inr (.inl w))), σ') := h
  replace h := ei_p h rfl rfl rfl rfl
  obtain ⟨f, g, h⟩ := h
  clear g
  replace h : EV F f 62 z62 5 [some (rf 4 (0)), some (.inr (.inr (x1))), none] [.inr (.inr (x1)), rf 2 (0)] σ (.inl (some (.inr (.inl w))), σ') := h
  obtain ⟨i1, e2⟩ := ei_gp h rfl
  rw [e2] at h
  refine ⟨i1, e2, ?_⟩
  replace h : EV F f 62 z62 5 [some (rf 4 (0)), some (rf 1 (i1)), none] [rf 1 (i1), rf 2 (0)] σ (.inl (some (.inr (.inl w))), σ') := h
  replace h := ei_get h rfl rfl
  obtain ⟨f, g, h⟩ := h
  clear g
  replace h : EV F f 62 z62 8 [some (rf 4 (0)), some (rf 1 (i1)), none] [.inl (m_i σ 1 (i1) 1), rf 2 (0)] σ (.inl (some (.inr (.inl w))), σ') := h
  replace h := bk_R (ei_v (as := [.inl (m_i σ 1 (i1) 1)]) h rfl rfl rfl) rfl z24_at rfl
  obtain ⟨v3, σ4, r5, f, g, h⟩ := h
  clear g
  have er5 := ro_run rfl r5
  rw [er5] at h r5
  have p6 := x24 hs r5
  refine ⟨v3, p6, ?_⟩
  replace h : EV F f 62 z62 11 [some (rf 4 (0)), some (rf 1 (i1)), none] [.inr (.inr (v3))] σ (.inl (some (.inr (.inl w))), σ') := h
  replace h := ei_p h rfl rfl rfl rfl
  obtain ⟨f, g, h⟩ := h
  clear g
  replace h : EV F f 62 z62 12 [some (rf 4 (0)), some (rf 1 (i1)), some (.inr (.inr (v3)))] [] σ (.inl (some (.inr (.inl w))), σ') := h
  replace h := ei_p h rfl rfl rfl rfl
  obtain ⟨f, g, h⟩ := h
  clear g
  replace h : EV F f 62 z62 13 [some (rf 4 (0)), some (rf 1 (i1)), some (.inr (.inr (v3)))] [.inr (.inr (v3))] σ (.inl (some (.inr (.inl w))), σ') := h
  rcases r_cs (v3) with e7 | ⟨q8, e7⟩
  · skip
    rw [e7] at h
    refine Or.inl ⟨e7, ?_⟩
    replace h : EV F f 62 z62 13 [some (rf 4 (0)), some (rf 1 (i1)), some (.inr (.inr none))] [.inr (.inr none)] σ (.inl (some (.inr (.inl w))), σ') := h
    replace h := ei_c h rfl rfl rfl
    rcases h with ⟨hp9, f, g, h⟩ | ⟨hp9, f, g, h⟩
    · exact absurd rfl hp9
    · skip
      clear g
      replace h : EV F f 62 z62 16 [some (rf 4 (0)), some (rf 1 (i1)), some (.inr (.inr none))] [] σ (.inl (some (.inr (.inl w))), σ') := h
      replace h := ei_p h rfl rfl rfl rfl
      obtain ⟨f, g, h⟩ := h
      clear g
      replace h : EV F f 62 z62 17 [some (rf 4 (0)), some (rf 1 (i1)), some (.inr (.inr none))] [.inr (.inl (Int64.ofNat 0))] σ (.inl (some (.inr (.inl w))), σ') := h
      have e := ei_lret h rfl
      cases e
      exact ⟨rfl, rfl⟩
  · skip
    rw [e7] at h
    refine Or.inr ⟨q8, e7, ?_⟩
    replace h : EV F f 62 z62 13 [some (rf 4 (0)), some (rf 1 (i1)), some (.inr (.inr (some q8)))] [.inr (.inr (some q8))] σ (.inl (some (.inr (.inl w))), σ') := h
    replace h := ei_c h rfl rfl rfl
    rcases h with ⟨hp10, f, g, h⟩ | ⟨hp10, f, g, h⟩
    · skip
      clear g
      replace h : EV F f 62 z62 18 [some (rf 4 (0)), some (rf 1 (i1)), some (.inr (.inr (some q8)))] [] σ (.inl (some (.inr (.inl w))), σ') := h
      replace h := ei_p h rfl rfl rfl rfl
      obtain ⟨f, g, h⟩ := h
      clear g
      replace h : EV F f 62 z62 19 [some (rf 4 (0)), some (rf 1 (i1)), some (.inr (.inr (some q8)))] [rf 1 (i1)] σ (.inl (some (.inr (.inl w))), σ') := h
      replace h := ei_get h rfl rfl
      obtain ⟨f, g, h⟩ := h
      clear g
      replace h : EV F f 62 z62 22 [some (rf 4 (0)), some (rf 1 (i1)), some (.inr (.inr (some q8)))] [.inl (m_i σ 1 (i1) 0)] σ (.inl (some (.inr (.inl w))), σ') := h
      replace h := ei_sw h rfl
      rcases h with ⟨e12, f, g, h⟩ | ⟨m11, e12, o, ho, f, g, h⟩
      · skip
        refine Or.inl ⟨e12, ?_⟩
        clear g
        replace h : EV F f 62 z62 72 [some (rf 4 (0)), some (rf 1 (i1)), some (.inr (.inr (some q8)))] [] σ (.inl (some (.inr (.inl w))), σ') := h
        replace h := ei_p h rfl rfl rfl rfl
        obtain ⟨f, g, h⟩ := h
        clear g
        replace h : EV F f 62 z62 73 [some (rf 4 (0)), some (rf 1 (i1)), some (.inr (.inr (some q8)))] [rf 4 (0)] σ (.inl (some (.inr (.inl w))), σ') := h
        replace h := ei_get h rfl (HS_g4_1 hs)
        obtain ⟨f, g, h⟩ := h
        clear g
        replace h : EV F f 62 z62 76 [some (rf 4 (0)), some (rf 1 (i1)), some (.inr (.inr (some q8)))] [rf 2 (0)] σ (.inl (some (.inr (.inl w))), σ') := h
        replace h := ei_p h rfl rfl rfl rfl
        obtain ⟨f, g, h⟩ := h
        clear g
        replace h : EV F f 62 z62 77 [some (rf 4 (0)), some (rf 1 (i1)), some (.inr (.inr (some q8)))] [.inr (.inr (some q8)), rf 2 (0)] σ (.inl (some (.inr (.inl w))), σ') := h
        replace h := ei_p h rfl rfl rfl rfl
        obtain ⟨f, g, h⟩ := h
        clear g
        replace h : EV F f 62 z62 78 [some (rf 4 (0)), some (rf 1 (i1)), some (.inr (.inr (some q8)))] [rf 1 (i1), .inr (.inr (some q8)), rf 2 (0)] σ (.inl (some (.inr (.inl w))), σ') := h
        replace h := ei_get h rfl rfl
        obtain ⟨f, g, h⟩ := h
        clear g
        replace h : EV F f 62 z62 81 [some (rf 4 (0)), some (rf 1 (i1)), some (.inr (.inr (some q8)))] [.inl (m_i σ 1 (i1) 2), .inr (.inr (some q8)), rf 2 (0)] σ (.inl (some (.inr (.inl w))), σ') := h
        replace h := bk_0 (ei_v (as := [.inl (m_i σ 1 (i1) 2), .inr (.inr (some q8))]) h rfl rfl rfl) rfl z36_at rfl
        obtain ⟨σ14, r15, f, g, h⟩ := h
        clear g
        have p16 := x36 hs r15
        have hsσ14 : HS σ14 := HS_run rfl r15 hs
        refine ⟨σ14, fw_run W36 rfl r15, p16, ?_⟩
        replace h : EV F f 62 z62 84 [some (rf 4 (0)), some (rf 1 (i1)), some (.inr (.inr (some q8)))] [] σ14 (.inl (some (.inr (.inl w))), σ') := h
        replace h := ei_p h rfl rfl rfl rfl
        obtain ⟨f, g, h⟩ := h
        clear g
        replace h : EV F f 62 z62 85 [some (rf 4 (0)), some (rf 1 (i1)), some (.inr (.inr (some q8)))] [rf 4 (0)] σ14 (.inl (some (.inr (.inl w))), σ') := h
        replace h := ei_get h rfl (HS_g4_0 hsσ14)
        obtain ⟨f, g, h⟩ := h
        clear g
        replace h : EV F f 62 z62 88 [some (rf 4 (0)), some (rf 1 (i1)), some (.inr (.inr (some q8)))] [rf 0 (0)] σ14 (.inl (some (.inr (.inl w))), σ') := h
        replace h := ei_p h rfl rfl rfl rfl
        obtain ⟨f, g, h⟩ := h
        clear g
        replace h : EV F f 62 z62 89 [some (rf 4 (0)), some (rf 1 (i1)), some (.inr (.inr (some q8)))] [.inr (.inr (some q8)), rf 0 (0)] σ14 (.inl (some (.inr (.inl w))), σ') := h
        obtain ⟨i17, e18⟩ := ei_gp h rfl
        rw [Option.some.inj e18] at h
        refine ⟨i17, e18, ?_⟩
        replace h : EV F f 62 z62 89 [some (rf 4 (0)), some (rf 1 (i1)), some (rf 8 (i17))] [rf 8 (i17), rf 0 (0)] σ14 (.inl (some (.inr (.inl w))), σ') := h
        replace h := ei_get h rfl rfl
        obtain ⟨f, g, h⟩ := h
        clear g
        replace h : EV F f 62 z62 92 [some (rf 4 (0)), some (rf 1 (i1)), some (rf 8 (i17))] [.inl (m_i σ14 8 (i17) 0), rf 0 (0)] σ14 (.inl (some (.inr (.inl w))), σ') := h
        replace h := ei_p h rfl rfl rfl rfl
        obtain ⟨f, g, h⟩ := h
        clear g
        replace h : EV F f 62 z62 93 [some (rf 4 (0)), some (rf 1 (i1)), some (rf 8 (i17))] [rf 1 (i1), .inl (m_i σ14 8 (i17) 0), rf 0 (0)] σ14 (.inl (some (.inr (.inl w))), σ') := h
        replace h := ei_get h rfl rfl
        obtain ⟨f, g, h⟩ := h
        clear g
        replace h : EV F f 62 z62 96 [some (rf 4 (0)), some (rf 1 (i1)), some (rf 8 (i17))] [.inl (m_i σ14 1 (i1) 2), .inl (m_i σ14 8 (i17) 0), rf 0 (0)] σ14 (.inl (some (.inr (.inl w))), σ') := h
        replace h := bk_0 (ei_v (as := [.inl (m_i σ14 1 (i1) 2), .inl (m_i σ14 8 (i17) 0)]) h rfl rfl rfl) rfl z15_at rfl
        obtain ⟨σ20, r21, f, g, h⟩ := h
        clear g
        have p22 := x15 hsσ14 r21
        have hsσ20 : HS σ20 := HS_run rfl r21 hsσ14
        refine ⟨σ20, fw_run W15 rfl r21, p22, ?_⟩
        replace h : EV F f 62 z62 99 [some (rf 4 (0)), some (rf 1 (i1)), some (rf 8 (i17))] [] σ20 (.inl (some (.inr (.inl w))), σ') := h
        replace h := ei_p h rfl rfl rfl rfl
        obtain ⟨f, g, h⟩ := h
        clear g
        replace h : EV F f 62 z62 100 [some (rf 4 (0)), some (rf 1 (i1)), some (rf 8 (i17))] [rf 8 (i17)] σ20 (.inl (some (.inr (.inl w))), σ') := h
        replace h := ei_get h rfl rfl
        obtain ⟨f, g, h⟩ := h
        clear g
        replace h : EV F f 62 z62 103 [some (rf 4 (0)), some (rf 1 (i1)), some (rf 8 (i17))] [.inl (m_i σ20 8 (i17) 5)] σ20 (.inl (some (.inr (.inl w))), σ') := h
        replace h := ei_p h rfl rfl rfl rfl
        obtain ⟨f, g, h⟩ := h
        clear g
        replace h : EV F f 62 z62 104 [some (rf 4 (0)), some (rf 1 (i1)), some (rf 8 (i17))] [.inr (.inl ((m_i σ20 8 (i17) 5).toInt64))] σ20 (.inl (some (.inr (.inl w))), σ') := h
        have e := ei_lret h rfl
        cases e
        exact ⟨rfl, rfl⟩
      · skip
        rcases m11 with _ | _ | _ | m11
        · skip
          cases ho
          replace e12 : (m_i σ 1 (i1) 0).toInt = 7 := e12
          refine Or.inr (Or.inl ⟨e12, ?_⟩)
          clear g
          replace h : EV F f 62 z62 48 [some (rf 4 (0)), some (rf 1 (i1)), some (.inr (.inr (some q8)))] [] σ (.inl (some (.inr (.inl w))), σ') := h
          replace h := ei_p h rfl rfl rfl rfl
          obtain ⟨f, g, h⟩ := h
          clear g
          replace h : EV F f 62 z62 49 [some (rf 4 (0)), some (rf 1 (i1)), some (.inr (.inr (some q8)))] [.inr (.inr (some q8))] σ (.inl (some (.inr (.inl w))), σ') := h
          replace h := ei_p h rfl rfl rfl rfl
          obtain ⟨f, g, h⟩ := h
          clear g
          replace h : EV F f 62 z62 50 [some (rf 4 (0)), some (rf 1 (i1)), some (.inr (.inr (some q8)))] [rf 1 (i1), .inr (.inr (some q8))] σ (.inl (some (.inr (.inl w))), σ') := h
          replace h := ei_get h rfl rfl
          obtain ⟨f, g, h⟩ := h
          clear g
          replace h : EV F f 62 z62 53 [some (rf 4 (0)), some (rf 1 (i1)), some (.inr (.inr (some q8)))] [.inl (m_i σ 1 (i1) 2), .inr (.inr (some q8))] σ (.inl (some (.inr (.inl w))), σ') := h
          obtain ⟨i23, e24⟩ := ei_vp (as := [.inl (m_i σ 1 (i1) 2)]) h rfl rfl
          rw [Option.some.inj e24] at h
          refine ⟨i23, e24, ?_⟩
          replace h : EV F f 62 z62 53 [some (rf 4 (0)), some (rf 1 (i1)), some (rf 8 (i23))] [.inl (m_i σ 1 (i1) 2), rf 8 (i23)] σ (.inl (some (.inr (.inl w))), σ') := h
          replace h := bk_I (ei_v (as := [.inl (m_i σ 1 (i1) 2)]) h rfl rfl rfl) rfl z115_at (Or.inl rfl)
          obtain ⟨v25, σ26, r27, f, g, h⟩ := h
          clear g
          have p28 := x115 hs r27
          have hsσ26 : HS σ26 := HS_run rfl r27 hs
          refine ⟨v25, σ26, fw_run W115 rfl r27, p28, ?_⟩
          replace h : EV F f 62 z62 56 [some (rf 4 (0)), some (rf 1 (i1)), some (rf 8 (i23))] [.inl (v25)] σ26 (.inl (some (.inr (.inl w))), σ') := h
          replace h := ei_p h rfl rfl rfl rfl
          obtain ⟨f, g, h⟩ := h
          clear g
          replace h : EV F f 62 z62 57 [some (rf 4 (0)), some (rf 1 (i1)), some (rf 8 (i23))] [.inr (.inl ((v25).toInt64))] σ26 (.inl (some (.inr (.inl w))), σ') := h
          have e := ei_lret h rfl
          cases e
          exact ⟨rfl, rfl⟩
        · skip
          cases ho
          replace e12 : (m_i σ 1 (i1) 0).toInt = 8 := e12
          refine Or.inr (Or.inr (Or.inl ⟨e12, ?_⟩))
          clear g
          replace h : EV F f 62 z62 58 [some (rf 4 (0)), some (rf 1 (i1)), some (.inr (.inr (some q8)))] [] σ (.inl (some (.inr (.inl w))), σ') := h
          replace h := ei_p h rfl rfl rfl rfl
          obtain ⟨f, g, h⟩ := h
          clear g
          replace h : EV F f 62 z62 59 [some (rf 4 (0)), some (rf 1 (i1)), some (.inr (.inr (some q8)))] [.inr (.inr (some q8))] σ (.inl (some (.inr (.inl w))), σ') := h
          replace h := ei_p h rfl rfl rfl rfl
          obtain ⟨f, g, h⟩ := h
          clear g
          replace h : EV F f 62 z62 60 [some (rf 4 (0)), some (rf 1 (i1)), some (.inr (.inr (some q8)))] [.inl (Int32.ofInt 1), .inr (.inr (some q8))] σ (.inl (some (.inr (.inl w))), σ') := h
          obtain ⟨i29, e30⟩ := ei_pp h rfl
          rw [Option.some.inj e30] at h
          refine ⟨i29, e30, ?_⟩
          replace h : EV F f 62 z62 60 [some (rf 4 (0)), some (rf 1 (i1)), some (rf 8 (i29))] [.inl (Int32.ofInt 1), rf 8 (i29)] σ (.inl (some (.inr (.inl w))), σ') := h
          replace h := ei_put h rfl
          obtain ⟨ht31, f, g, h⟩ := h
          clear g
          obtain ⟨σ32, e33⟩ : ∃ s, s = m_set σ 8 (i29) (1) (.inl (Int32.ofInt 1)) := ⟨_, rfl⟩
          rw [← e33] at h
          have hsσ32 : HS σ32 := by rw [e33]; exact HS_set hs rfl
          refine ⟨σ32, e33, ?_⟩
          replace h : EV F f 62 z62 63 [some (rf 4 (0)), some (rf 1 (i1)), some (rf 8 (i29))] [] σ32 (.inl (some (.inr (.inl w))), σ') := h
          replace h := ei_p h rfl rfl rfl rfl
          obtain ⟨f, g, h⟩ := h
          clear g
          replace h : EV F f 62 z62 64 [some (rf 4 (0)), some (rf 1 (i1)), some (rf 8 (i29))] [.inr (.inl (Int64.ofNat 0))] σ32 (.inl (some (.inr (.inl w))), σ') := h
          have e := ei_lret h rfl
          cases e
          exact ⟨rfl, rfl⟩
        · skip
          cases ho
          replace e12 : (m_i σ 1 (i1) 0).toInt = 9 := e12
          refine Or.inr (Or.inr (Or.inr (⟨e12, ?_⟩)))
          clear g
          replace h : EV F f 62 z62 65 [some (rf 4 (0)), some (rf 1 (i1)), some (.inr (.inr (some q8)))] [] σ (.inl (some (.inr (.inl w))), σ') := h
          replace h := ei_p h rfl rfl rfl rfl
          obtain ⟨f, g, h⟩ := h
          clear g
          replace h : EV F f 62 z62 66 [some (rf 4 (0)), some (rf 1 (i1)), some (.inr (.inr (some q8)))] [rf 4 (0)] σ (.inl (some (.inr (.inl w))), σ') := h
          replace h := ei_p h rfl rfl rfl rfl
          obtain ⟨f, g, h⟩ := h
          clear g
          replace h : EV F f 62 z62 67 [some (rf 4 (0)), some (rf 1 (i1)), some (.inr (.inr (some q8)))] [.inr (.inr (some q8)), rf 4 (0)] σ (.inl (some (.inr (.inl w))), σ') := h
          replace h := bk_I (ei_v (as := [.inr (.inr (some q8))]) h rfl rfl rfl) rfl z74_at (Or.inl rfl)
          obtain ⟨v34, σ35, r36, f, g, h⟩ := h
          clear g
          have p37 := x74 hs r36
          have hsσ35 : HS σ35 := HS_run rfl r36 hs
          refine ⟨v34, σ35, fw_run W74 rfl r36, p37, ?_⟩
          replace h : EV F f 62 z62 70 [some (rf 4 (0)), some (rf 1 (i1)), some (.inr (.inr (some q8)))] [.inl (v34)] σ35 (.inl (some (.inr (.inl w))), σ') := h
          replace h := ei_p h rfl rfl rfl rfl
          obtain ⟨f, g, h⟩ := h
          clear g
          replace h : EV F f 62 z62 71 [some (rf 4 (0)), some (rf 1 (i1)), some (.inr (.inr (some q8)))] [.inr (.inl ((v34).toInt64))] σ35 (.inl (some (.inr (.inl w))), σ') := h
          have e := ei_lret h rfl
          cases e
          exact ⟨rfl, rfl⟩
        · cases ho
    · exact absurd (fun z => by cases z) hp10
def z76 : mAl := ((yX4_passTicks, cX4_passTicks, 4, (some .int), { frames := 5, cells := 0, slots := 0, locals := 144 }, []), rw_X4_passTicks, false)
theorem z76_at : m_alF[76]? = some z76 := rfl
abbrev L76 : List (Nat × Nat) := [(2, 7), (2, 8), (2, 9), (2, 10), (6, 2), (6, 3), (6, 4), (6, 7), (6, 8), (6, 9), (6, 10), (7, 6), (7, 7), (7, 9), (7, 12), (8, 8), (14, 0)]
abbrev w76 : Nat → Nat → Bool := wl L76
def S76 : List Nat := [14, 39, 40, 41, 42, 43, 44, 46, 47, 48, 76, 90, 91, 92, 106]
theorem W76 : fw_S w76 S76 = true := by decide +kernel
abbrev B76_2 (c1 : Int32) (ih : Int32 → mS → Int32 → mS → Prop) (u2 : Int32) (τ : mS) (w : Int32) (σ' : mS) : Prop := (((c1).toInt ≤ (u2).toInt ∧ w = (m_i τ 2 (0) 8) ∧ σ' = τ) ∨ (¬ ((c1).toInt ≤ (u2).toInt) ∧ ∃ σ3, σ3 = m_set τ 2 (0) (7) (.inl ((m_i τ 2 (0) 7) + (Int32.ofInt 1))) ∧ ∃ σ6, fw_e w42 σ3 σ6 ∧ P42 σ3 σ6 ∧ ∃ v9, P43 σ6 v9 ∧ ((v9 = none ∧ ih ((u2) + Int32.ofInt 1) σ6 w σ') ∨ (∃ q14, v9 = some q14 ∧ ∃ i17, (some q14 : mR) = some (6, i17) ∧ ∃ σ20, fw_e w14 σ6 σ20 ∧ P14 σ6 (m_i σ6 6 (i17) 0) σ20 ∧ ∃ σ24, fw_e w44 σ20 σ24 ∧ P44 σ20 (some (6, i17)) σ24 ∧ ih ((u2) + Int32.ofInt 1) σ24 w σ'))))
def Q76_2 (c1 : Int32) : Nat → Int32 → mS → Int32 → mS → Prop
  | 0 => fun _ _ _ _ => False
  | n + 1 => B76_2 c1 (Q76_2 c1 n)
theorem q76_2 {F : Nat} {σ' : mS} {c1 : Int32} {w : Int32} : ∀ N f, f < N → ∀ (u2 : Int32) (y3 : Option mV) (τ : mS), HS τ → EV F f 76 z76 2 [some (rf 4 (0)), some (.inl (c1)), some (.inl (u2)), y3] [] τ (.inl (some (.inl w)), σ') → Q76_2 c1 N u2 τ w σ' := by
  intro N
  induction N with
  | zero => intro f hf; omega
  | succ N IH =>
    intro f hf0 u2 y3 τ hsτ h
    have hf : f < N + 1 := hf0
    clear hf0
    show B76_2 c1 (Q76_2 c1 N) u2 τ w σ'
    replace h := ei_p h rfl rfl rfl rfl
    obtain ⟨f, g, h⟩ := h
    replace hf := Nat.lt_of_lt_of_le g (Nat.le_of_lt_succ hf)
    clear g
    replace h : EV F f 76 z76 3 [some (rf 4 (0)), some (.inl (c1)), some (.inl (u2)), y3] [.inl (u2)] τ (.inl (some (.inl w)), σ') := h
    replace h := ei_p h rfl rfl rfl rfl
    obtain ⟨f, g, h⟩ := h
    replace hf := Nat.lt_trans g hf
    clear g
    replace h : EV F f 76 z76 4 [some (rf 4 (0)), some (.inl (c1)), some (.inl (u2)), y3] [.inl (c1), .inl (u2)] τ (.inl (some (.inl w)), σ') := h
    replace h := ei_c h rfl rfl rfl
    rcases h with ⟨hp1, f, g, h⟩ | ⟨hp1, f, g, h⟩
    · skip
      replace hp1 : (c1).toInt ≤ (u2).toInt := ic_ge.mp hp1
      refine Or.inl ⟨hp1, ?_⟩
      replace hf := Nat.lt_trans g hf
      clear g
      replace h : EV F f 76 z76 64 [some (rf 4 (0)), some (.inl (c1)), some (.inl (u2)), y3] [] τ (.inl (some (.inl w)), σ') := h
      replace h := ei_p h rfl rfl rfl rfl
      obtain ⟨f, g, h⟩ := h
      replace hf := Nat.lt_trans g hf
      clear g
      replace h : EV F f 76 z76 65 [some (rf 4 (0)), some (.inl (c1)), some (.inl (u2)), y3] [rf 4 (0)] τ (.inl (some (.inl w)), σ') := h
      replace h := ei_get h rfl (HS_g4_1 hsτ)
      obtain ⟨f, g, h⟩ := h
      replace hf := Nat.lt_trans g hf
      clear g
      replace h : EV F f 76 z76 68 [some (rf 4 (0)), some (.inl (c1)), some (.inl (u2)), y3] [rf 2 (0)] τ (.inl (some (.inl w)), σ') := h
      replace h := ei_get h rfl rfl
      obtain ⟨f, g, h⟩ := h
      replace hf := Nat.lt_trans g hf
      clear g
      replace h : EV F f 76 z76 71 [some (rf 4 (0)), some (.inl (c1)), some (.inl (u2)), y3] [.inl (m_i τ 2 (0) 8)] τ (.inl (some (.inl w)), σ') := h
      have e := ei_iret h rfl
      cases e
      exact ⟨rfl, rfl⟩
    · skip
      replace hp1 : ¬ ((c1).toInt ≤ (u2).toInt) := (not_congr ic_ge).mp hp1
      refine Or.inr ⟨hp1, ?_⟩
      replace hf := Nat.lt_trans g hf
      clear g
      replace h : EV F f 76 z76 7 [some (rf 4 (0)), some (.inl (c1)), some (.inl (u2)), y3] [] τ (.inl (some (.inl w)), σ') := h
      replace h := ei_p h rfl rfl rfl rfl
      obtain ⟨f, g, h⟩ := h
      replace hf := Nat.lt_trans g hf
      clear g
      replace h : EV F f 76 z76 8 [some (rf 4 (0)), some (.inl (c1)), some (.inl (u2)), y3] [rf 4 (0)] τ (.inl (some (.inl w)), σ') := h
      replace h := ei_get h rfl (HS_g4_1 hsτ)
      obtain ⟨f, g, h⟩ := h
      replace hf := Nat.lt_trans g hf
      clear g
      replace h : EV F f 76 z76 11 [some (rf 4 (0)), some (.inl (c1)), some (.inl (u2)), y3] [rf 2 (0)] τ (.inl (some (.inl w)), σ') := h
      replace h := ei_p h rfl rfl rfl rfl
      obtain ⟨f, g, h⟩ := h
      replace hf := Nat.lt_trans g hf
      clear g
      replace h : EV F f 76 z76 12 [some (rf 4 (0)), some (.inl (c1)), some (.inl (u2)), y3] [rf 2 (0), rf 2 (0)] τ (.inl (some (.inl w)), σ') := h
      replace h := ei_get h rfl rfl
      obtain ⟨f, g, h⟩ := h
      replace hf := Nat.lt_trans g hf
      clear g
      replace h : EV F f 76 z76 15 [some (rf 4 (0)), some (.inl (c1)), some (.inl (u2)), y3] [.inl (m_i τ 2 (0) 7), rf 2 (0)] τ (.inl (some (.inl w)), σ') := h
      replace h := ei_p h rfl rfl rfl rfl
      obtain ⟨f, g, h⟩ := h
      replace hf := Nat.lt_trans g hf
      clear g
      replace h : EV F f 76 z76 16 [some (rf 4 (0)), some (.inl (c1)), some (.inl (u2)), y3] [.inl (Int32.ofInt 1), .inl (m_i τ 2 (0) 7), rf 2 (0)] τ (.inl (some (.inl w)), σ') := h
      replace h := ei_p h rfl rfl rfl rfl
      obtain ⟨f, g, h⟩ := h
      replace hf := Nat.lt_trans g hf
      clear g
      replace h : EV F f 76 z76 17 [some (rf 4 (0)), some (.inl (c1)), some (.inl (u2)), y3] [.inl ((m_i τ 2 (0) 7) + (Int32.ofInt 1)), rf 2 (0)] τ (.inl (some (.inl w)), σ') := h
      replace h := ei_put h rfl
      obtain ⟨ht2, f, g, h⟩ := h
      replace hf := Nat.lt_trans g hf
      clear g
      obtain ⟨σ3, e4⟩ : ∃ s, s = m_set τ 2 (0) (7) (.inl ((m_i τ 2 (0) 7) + (Int32.ofInt 1))) := ⟨_, rfl⟩
      rw [← e4] at h
      have hsσ3 : HS σ3 := by rw [e4]; exact HS_set hsτ rfl
      refine ⟨σ3, e4, ?_⟩
      replace h : EV F f 76 z76 20 [some (rf 4 (0)), some (.inl (c1)), some (.inl (u2)), y3] [] σ3 (.inl (some (.inl w)), σ') := h
      replace h := ei_p h rfl rfl rfl rfl
      obtain ⟨f, g, h⟩ := h
      replace hf := Nat.lt_trans g hf
      clear g
      replace h : EV F f 76 z76 21 [some (rf 4 (0)), some (.inl (c1)), some (.inl (u2)), y3] [rf 4 (0)] σ3 (.inl (some (.inl w)), σ') := h
      replace h := ei_get h rfl (HS_g4_1 hsσ3)
      obtain ⟨f, g, h⟩ := h
      replace hf := Nat.lt_trans g hf
      clear g
      replace h : EV F f 76 z76 24 [some (rf 4 (0)), some (.inl (c1)), some (.inl (u2)), y3] [rf 2 (0)] σ3 (.inl (some (.inl w)), σ') := h
      replace h := bk_0 (ei_v (as := []) h rfl rfl rfl) rfl z42_at rfl
      obtain ⟨σ6, r7, f, g, h⟩ := h
      replace hf := Nat.lt_trans g hf
      clear g
      have p8 := x42 hsσ3 r7
      have hsσ6 : HS σ6 := HS_run rfl r7 hsσ3
      refine ⟨σ6, fw_run W42 rfl r7, p8, ?_⟩
      replace h : EV F f 76 z76 27 [some (rf 4 (0)), some (.inl (c1)), some (.inl (u2)), y3] [] σ6 (.inl (some (.inl w)), σ') := h
      replace h := ei_p h rfl rfl rfl rfl
      obtain ⟨f, g, h⟩ := h
      replace hf := Nat.lt_trans g hf
      clear g
      replace h : EV F f 76 z76 28 [some (rf 4 (0)), some (.inl (c1)), some (.inl (u2)), y3] [rf 4 (0)] σ6 (.inl (some (.inl w)), σ') := h
      replace h := ei_get h rfl (HS_g4_1 hsσ6)
      obtain ⟨f, g, h⟩ := h
      replace hf := Nat.lt_trans g hf
      clear g
      replace h : EV F f 76 z76 31 [some (rf 4 (0)), some (.inl (c1)), some (.inl (u2)), y3] [rf 2 (0)] σ6 (.inl (some (.inl w)), σ') := h
      replace h := bk_R (ei_v (as := []) h rfl rfl rfl) rfl z43_at rfl
      obtain ⟨v9, σ10, r11, f, g, h⟩ := h
      replace hf := Nat.lt_trans g hf
      clear g
      have er11 := ro_run rfl r11
      rw [er11] at h r11
      have p12 := x43 hsσ6 r11
      refine ⟨v9, p12, ?_⟩
      replace h : EV F f 76 z76 34 [some (rf 4 (0)), some (.inl (c1)), some (.inl (u2)), y3] [.inr (.inr (v9))] σ6 (.inl (some (.inl w)), σ') := h
      replace h := ei_p h rfl rfl rfl rfl
      obtain ⟨f, g, h⟩ := h
      replace hf := Nat.lt_trans g hf
      clear g
      replace h : EV F f 76 z76 35 [some (rf 4 (0)), some (.inl (c1)), some (.inl (u2)), some (.inr (.inr (v9)))] [] σ6 (.inl (some (.inl w)), σ') := h
      replace h := ei_p h rfl rfl rfl rfl
      obtain ⟨f, g, h⟩ := h
      replace hf := Nat.lt_trans g hf
      clear g
      replace h : EV F f 76 z76 36 [some (rf 4 (0)), some (.inl (c1)), some (.inl (u2)), some (.inr (.inr (v9)))] [.inr (.inr (v9))] σ6 (.inl (some (.inl w)), σ') := h
      rcases r_cs (v9) with e13 | ⟨q14, e13⟩
      · skip
        rw [e13] at h
        refine Or.inl ⟨e13, ?_⟩
        replace h : EV F f 76 z76 36 [some (rf 4 (0)), some (.inl (c1)), some (.inl (u2)), some (.inr (.inr none))] [.inr (.inr none)] σ6 (.inl (some (.inl w)), σ') := h
        replace h := ei_c h rfl rfl rfl
        rcases h with ⟨hp15, f, g, h⟩ | ⟨hp15, f, g, h⟩
        · skip
          replace hf := Nat.lt_trans g hf
          clear g
          replace h : EV F f 76 z76 58 [some (rf 4 (0)), some (.inl (c1)), some (.inl (u2)), some (.inr (.inr none))] [] σ6 (.inl (some (.inl w)), σ') := h
          replace h := ei_p h rfl rfl rfl rfl
          obtain ⟨f, g, h⟩ := h
          replace hf := Nat.lt_trans g hf
          clear g
          replace h : EV F f 76 z76 61 [some (rf 4 (0)), some (.inl (c1)), some (.inl ((u2) + Int32.ofInt 1)), some (.inr (.inr none))] [] σ6 (.inl (some (.inl w)), σ') := h
          replace h := ei_p h rfl rfl rfl rfl
          obtain ⟨f, g, h⟩ := h
          replace hf := Nat.lt_trans g hf
          clear g
          replace h : EV F f 76 z76 2 [some (rf 4 (0)), some (.inl (c1)), some (.inl ((u2) + Int32.ofInt 1)), some (.inr (.inr none))] [] σ6 (.inl (some (.inl w)), σ') := h
          exact IH f hf ((u2) + Int32.ofInt 1) (some (.inr (.inr none))) σ6 hsσ6 h
        · exact absurd rfl hp15
      · skip
        rw [e13] at h
        refine Or.inr ⟨q14, e13, ?_⟩
        replace h : EV F f 76 z76 36 [some (rf 4 (0)), some (.inl (c1)), some (.inl (u2)), some (.inr (.inr (some q14)))] [.inr (.inr (some q14))] σ6 (.inl (some (.inl w)), σ') := h
        replace h := ei_c h rfl rfl rfl
        rcases h with ⟨hp16, f, g, h⟩ | ⟨hp16, f, g, h⟩
        · exact absurd hp16 (fun z => by cases z)
        · skip
          replace hf := Nat.lt_trans g hf
          clear g
          replace h : EV F f 76 z76 39 [some (rf 4 (0)), some (.inl (c1)), some (.inl (u2)), some (.inr (.inr (some q14)))] [] σ6 (.inl (some (.inl w)), σ') := h
          replace h := ei_p h rfl rfl rfl rfl
          obtain ⟨f, g, h⟩ := h
          replace hf := Nat.lt_trans g hf
          clear g
          replace h : EV F f 76 z76 40 [some (rf 4 (0)), some (.inl (c1)), some (.inl (u2)), some (.inr (.inr (some q14)))] [rf 4 (0)] σ6 (.inl (some (.inl w)), σ') := h
          replace h := ei_get h rfl (HS_g4_0 hsσ6)
          obtain ⟨f, g, h⟩ := h
          replace hf := Nat.lt_trans g hf
          clear g
          replace h : EV F f 76 z76 43 [some (rf 4 (0)), some (.inl (c1)), some (.inl (u2)), some (.inr (.inr (some q14)))] [rf 0 (0)] σ6 (.inl (some (.inl w)), σ') := h
          replace h := ei_p h rfl rfl rfl rfl
          obtain ⟨f, g, h⟩ := h
          replace hf := Nat.lt_trans g hf
          clear g
          replace h : EV F f 76 z76 44 [some (rf 4 (0)), some (.inl (c1)), some (.inl (u2)), some (.inr (.inr (some q14)))] [.inr (.inr (some q14)), rf 0 (0)] σ6 (.inl (some (.inl w)), σ') := h
          obtain ⟨i17, e18⟩ := ei_gp h rfl
          rw [Option.some.inj e18] at h
          refine ⟨i17, e18, ?_⟩
          replace h : EV F f 76 z76 44 [some (rf 4 (0)), some (.inl (c1)), some (.inl (u2)), some (rf 6 (i17))] [rf 6 (i17), rf 0 (0)] σ6 (.inl (some (.inl w)), σ') := h
          replace h := ei_get h rfl rfl
          obtain ⟨f, g, h⟩ := h
          replace hf := Nat.lt_trans g hf
          clear g
          replace h : EV F f 76 z76 47 [some (rf 4 (0)), some (.inl (c1)), some (.inl (u2)), some (rf 6 (i17))] [.inl (m_i σ6 6 (i17) 0), rf 0 (0)] σ6 (.inl (some (.inl w)), σ') := h
          replace h := bk_0 (ei_v (as := [.inl (m_i σ6 6 (i17) 0)]) h rfl rfl rfl) rfl z14_at rfl
          obtain ⟨σ20, r21, f, g, h⟩ := h
          replace hf := Nat.lt_trans g hf
          clear g
          have p22 := x14 hsσ6 r21
          have hsσ20 : HS σ20 := HS_run rfl r21 hsσ6
          refine ⟨σ20, fw_run W14 rfl r21, p22, ?_⟩
          replace h : EV F f 76 z76 50 [some (rf 4 (0)), some (.inl (c1)), some (.inl (u2)), some (rf 6 (i17))] [] σ20 (.inl (some (.inl w)), σ') := h
          replace h := ei_p h rfl rfl rfl rfl
          obtain ⟨f, g, h⟩ := h
          replace hf := Nat.lt_trans g hf
          clear g
          replace h : EV F f 76 z76 51 [some (rf 4 (0)), some (.inl (c1)), some (.inl (u2)), some (rf 6 (i17))] [rf 4 (0)] σ20 (.inl (some (.inl w)), σ') := h
          replace h := ei_get h rfl (HS_g4_1 hsσ20)
          obtain ⟨f, g, h⟩ := h
          replace hf := Nat.lt_trans g hf
          clear g
          replace h : EV F f 76 z76 54 [some (rf 4 (0)), some (.inl (c1)), some (.inl (u2)), some (rf 6 (i17))] [rf 2 (0)] σ20 (.inl (some (.inl w)), σ') := h
          replace h := ei_p h rfl rfl rfl rfl
          obtain ⟨f, g, h⟩ := h
          replace hf := Nat.lt_trans g hf
          clear g
          replace h : EV F f 76 z76 55 [some (rf 4 (0)), some (.inl (c1)), some (.inl (u2)), some (rf 6 (i17))] [rf 6 (i17), rf 2 (0)] σ20 (.inl (some (.inl w)), σ') := h
          replace h := bk_0 (ei_v (as := [rf 6 (i17)]) h rfl rfl rfl) rfl z44_at rfl
          obtain ⟨σ24, r25, f, g, h⟩ := h
          replace hf := Nat.lt_trans g hf
          clear g
          have p26 := x44 hsσ20 r25
          have hsσ24 : HS σ24 := HS_run rfl r25 hsσ20
          refine ⟨σ24, fw_run W44 rfl r25, p26, ?_⟩
          replace h : EV F f 76 z76 58 [some (rf 4 (0)), some (.inl (c1)), some (.inl (u2)), some (rf 6 (i17))] [] σ24 (.inl (some (.inl w)), σ') := h
          replace h := ei_p h rfl rfl rfl rfl
          obtain ⟨f, g, h⟩ := h
          replace hf := Nat.lt_trans g hf
          clear g
          replace h : EV F f 76 z76 61 [some (rf 4 (0)), some (.inl (c1)), some (.inl ((u2) + Int32.ofInt 1)), some (rf 6 (i17))] [] σ24 (.inl (some (.inl w)), σ') := h
          replace h := ei_p h rfl rfl rfl rfl
          obtain ⟨f, g, h⟩ := h
          replace hf := Nat.lt_trans g hf
          clear g
          replace h : EV F f 76 z76 2 [some (rf 4 (0)), some (.inl (c1)), some (.inl ((u2) + Int32.ofInt 1)), some (rf 6 (i17))] [] σ24 (.inl (some (.inl w)), σ') := h
          exact IH f hf ((u2) + Int32.ofInt 1) (some (rf 6 (i17))) σ24 hsσ24 h
def P76 (σ : mS) (x1 : Int32) (w : Int32) (σ' : mS) : Prop := ∃ n, Q76_2 (x1) n (Int32.ofInt 0) σ w σ'
theorem x76 {σ σ' : mS} {x1 : Int32} {w : Int32} (hs : HS σ) (h : ev_run sm_all 76 [rf 4 (0), .inl (x1)] σ (.inl (some (.inl w))) σ') : P76 σ x1 w σ' := by
  unfold P76
  obtain ⟨F, f, h⟩ := ei_go h z76_at
  replace h : EV F f 76 z76 0 [some (rf 4 (0)), some (.inl (x1)), none, none] [] σ (.inl (some (.inl w)), σ') := h
  replace h := ei_p h rfl rfl rfl rfl
  obtain ⟨f, g, h⟩ := h
  clear g
  replace h : EV F f 76 z76 1 [some (rf 4 (0)), some (.inl (x1)), none, none] [.inl (Int32.ofInt 0)] σ (.inl (some (.inl w)), σ') := h
  replace h := ei_p h rfl rfl rfl rfl
  obtain ⟨f, g, h⟩ := h
  clear g
  replace h : EV F f 76 z76 2 [some (rf 4 (0)), some (.inl (x1)), some (.inl (Int32.ofInt 0)), none] [] σ (.inl (some (.inl w)), σ') := h
  exact ⟨f + 1, q76_2 (f + 1) f (Nat.lt_succ_self f) (Int32.ofInt 0) _ σ hs h⟩
