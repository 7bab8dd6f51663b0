/-! the law's methods as relations: isHouse -/
def z188 : mAl := ((yL_isHouse, cL_isHouse, 13, (some .boolean), { frames := 10, cells := 200, slots := 1800, locals := 261 }, []), rw_L_isHouse, false)
theorem z188_at : m_alF[188]? = some z188 := rfl
def J188_544 (τ : mS) (w : mX) (σ' : mS) : Prop := w = .inl (some (.inl (Int32.ofInt 0))) ∧ σ' = τ
set_option maxRecDepth 100000 in
theorem j188_544 {F f : Nat} {σ' τ : mS} {y0 : Option mV} {y1 : Option mV} {y2 : Option mV} {y3 : Option mV} {y4 : Option mV} {y5 : Option mV} {y6 : Option mV} {y7 : Option mV} {y8 : Option mV} {y9 : Option mV} {y10 : Option mV} {y11 : Option mV} {y12 : Option mV} {w : mX} (hsτ : HL τ) (h : EV F f 188 z188 544 [y0, y1, y2, y3, y4, y5, y6, y7, y8, y9, y10, y11, y12] [] τ (w, σ')) : J188_544 τ w σ' := by
  unfold J188_544
  replace h := ei_p h rfl rfl rfl rfl
  obtain ⟨f, g, h⟩ := h
  clear g
  replace h : EV F f 188 z188 545 [y0, y1, y2, y3, y4, y5, y6, y7, y8, y9, y10, y11, y12] [.inl (Int32.ofInt 0)] τ (w, σ') := h
  have e := ei_iret h rfl
  cases e
  exact ⟨rfl, rfl⟩
def J188_540 (τ : mS) (w : mX) (σ' : mS) : Prop := w = .inl (some (.inl (Int32.ofInt 1))) ∧ σ' = τ
set_option maxRecDepth 100000 in
theorem j188_540 {F f : Nat} {σ' τ : mS} {y0 : Option mV} {y1 : Option mV} {y2 : Option mV} {y3 : Option mV} {y4 : Option mV} {y5 : Option mV} {y6 : Option mV} {y7 : Option mV} {y8 : Option mV} {y9 : Option mV} {y10 : Option mV} {y11 : Option mV} {y12 : Option mV} {w : mX} (hsτ : HL τ) (h : EV F f 188 z188 540 [y0, y1, y2, y3, y4, y5, y6, y7, y8, y9, y10, y11, y12] [] τ (w, σ')) : J188_540 τ w σ' := by
  unfold J188_540
  replace h := ei_p h rfl rfl rfl rfl
  obtain ⟨f, g, h⟩ := h
  clear g
  replace h : EV F f 188 z188 541 [y0, y1, y2, y3, y4, y5, y6, y7, y8, y9, y10, y11, y12] [.inl (Int32.ofInt 1)] τ (w, σ') := h
  replace h := ei_p h rfl rfl rfl rfl
  obtain ⟨f, g, h⟩ := h
  clear g
  replace h : EV F f 188 z188 545 [y0, y1, y2, y3, y4, y5, y6, y7, y8, y9, y10, y11, y12] [.inl (Int32.ofInt 1)] τ (w, σ') := h
  have e := ei_iret h rfl
  cases e
  exact ⟨rfl, rfl⟩
def J188_524 (u5 : Int32) (u8 : Int32) (τ : mS) (w : mX) (σ' : mS) : Prop := (((u8).toInt ≠ (0 : Int) ∧ J188_544 τ w σ') ∨ (¬ ((u8).toInt ≠ (0 : Int)) ∧ ((∃ v2, P142 τ (u5) (Int32.ofInt 3) (.inl (some (.inl v2))) τ ∧ (((v2).toInt ≠ (1 : Int) ∧ J188_544 τ w σ') ∨ (¬ ((v2).toInt ≠ (1 : Int)) ∧ J188_540 τ w σ'))) ∨ (∃ b, P142 τ (u5) (Int32.ofInt 3) (.inr b) τ ∧ w = .inr b ∧ σ' = τ))))
set_option maxRecDepth 100000 in
theorem j188_524 {F f : Nat} {σ' τ : mS} {u5 : Int32} {u8 : Int32} {y1 : Option mV} {y2 : Option mV} {y3 : Option mV} {y4 : Option mV} {y6 : Option mV} {y7 : Option mV} {y9 : Option mV} {y10 : Option mV} {y11 : Option mV} {y12 : Option mV} {w : mX} (hsτ : HL τ) (h : EV F f 188 z188 524 [some (rf 11 (0)), y1, y2, y3, y4, some (.inl (u5)), y6, y7, some (.inl (u8)), y9, y10, y11, y12] [] τ (w, σ')) : J188_524 u5 u8 τ w σ' := by
  unfold J188_524
  replace h := ei_p h rfl rfl rfl rfl
  obtain ⟨f, g, h⟩ := h
  clear g
  replace h : EV F f 188 z188 526 [some (rf 11 (0)), y1, y2, y3, y4, some (.inl (u5)), y6, y7, some (.inl (u8)), y9, y10, y11, y12] [.inl (u8)] τ (w, σ') := h
  replace h := ei_c h rfl rfl rfl
  rcases h with ⟨hp1, f, g, h⟩ | ⟨hp1, f, g, h⟩
  · skip
    replace hp1 : (u8).toInt ≠ (0 : Int) := ic_ne.mp hp1
    refine Or.inl ⟨hp1, ?_⟩
    clear g
    replace h : EV F f 188 z188 544 [some (rf 11 (0)), y1, y2, y3, y4, some (.inl (u5)), y6, y7, some (.inl (u8)), y9, y10, y11, y12] [] τ (w, σ') := h
    exact j188_544 hsτ h
  · skip
    replace hp1 : ¬ ((u8).toInt ≠ (0 : Int)) := (not_congr ic_ne).mp hp1
    refine Or.inr ⟨hp1, ?_⟩
    clear g
    replace h : EV F f 188 z188 529 [some (rf 11 (0)), y1, y2, y3, y4, some (.inl (u5)), y6, y7, some (.inl (u8)), y9, y10, y11, y12] [] τ (w, σ') := h
    replace h := ei_p h rfl rfl rfl rfl
    obtain ⟨f, g, h⟩ := h
    clear g
    replace h : EV F f 188 z188 530 [some (rf 11 (0)), y1, y2, y3, y4, some (.inl (u5)), y6, y7, some (.inl (u8)), y9, y10, y11, y12] [rf 11 (0)] τ (w, σ') := h
    replace h := ei_p h rfl rfl rfl rfl
    obtain ⟨f, g, h⟩ := h
    clear g
    replace h : EV F f 188 z188 532 [some (rf 11 (0)), y1, y2, y3, y4, some (.inl (u5)), y6, y7, some (.inl (u8)), y9, y10, y11, y12] [.inl (u5), rf 11 (0)] τ (w, σ') := h
    replace h := ei_p h rfl rfl rfl rfl
    obtain ⟨f, g, h⟩ := h
    clear g
    replace h : EV F f 188 z188 533 [some (rf 11 (0)), y1, y2, y3, y4, some (.inl (u5)), y6, y7, some (.inl (u8)), y9, y10, y11, y12] [.inl (Int32.ofInt 3), .inl (u5), rf 11 (0)] τ (w, σ') := h
    replace h := bx_I (ei_v (as := [.inl (Int32.ofInt 3), .inl (u5)]) h rfl rfl rfl) z142_at (Or.inl rfl)
    rcases h with ⟨v2, σ3, r4, f, g, h⟩ | ⟨b, σ3, r4, e⟩
    · skip
      have er4 := ro2_run rfl r4
      rw [er4] at h r4
      clear g
      have p5 := x142 hsτ.1 r4
      refine Or.inl ⟨v2, p5, ?_⟩
      replace h : EV F f 188 z188 536 [some (rf 11 (0)), y1, y2, y3, y4, some (.inl (u5)), y6, y7, some (.inl (u8)), y9, y10, y11, y12] [.inl (v2)] τ (w, σ') := h
      replace h := ei_p h rfl rfl rfl rfl
      obtain ⟨f, g, h⟩ := h
      clear g
      replace h : EV F f 188 z188 537 [some (rf 11 (0)), y1, y2, y3, y4, some (.inl (u5)), y6, y7, some (.inl (u8)), y9, y10, y11, y12] [.inl (Int32.ofInt 1), .inl (v2)] τ (w, σ') := h
      replace h := ei_c h rfl rfl rfl
      rcases h with ⟨hp6, f, g, h⟩ | ⟨hp6, f, g, h⟩
      · skip
        replace hp6 : (v2).toInt ≠ (1 : Int) := ic_ne.mp hp6
        refine Or.inl ⟨hp6, ?_⟩
        clear g
        replace h : EV F f 188 z188 544 [some (rf 11 (0)), y1, y2, y3, y4, some (.inl (u5)), y6, y7, some (.inl (u8)), y9, y10, y11, y12] [] τ (w, σ') := h
        exact j188_544 hsτ h
      · skip
        replace hp6 : ¬ ((v2).toInt ≠ (1 : Int)) := (not_congr ic_ne).mp hp6
        refine Or.inr ⟨hp6, ?_⟩
        clear g
        replace h : EV F f 188 z188 540 [some (rf 11 (0)), y1, y2, y3, y4, some (.inl (u5)), y6, y7, some (.inl (u8)), y9, y10, y11, y12] [] τ (w, σ') := h
        exact j188_540 hsτ h
    · skip
      have er4 := ro2_run rfl r4
      rw [er4] at e r4
      have p5 := x142 hsτ.1 r4
      cases e
      exact Or.inr ⟨b, p5, rfl, rfl⟩
def J188_464 (u5 : Int32) (u8 : Int32) (t0 : Int32) (τ : mS) (w : mX) (σ' : mS) : Prop := (0 ≤ (3 : Int) ∧ (3 : Int) < (τ.2.1 13 (17) : Int)) ∧ (((u5).toInt ≠ (m_i τ 13 (17) (Int32.ofInt 3).toNatClampNeg).toInt ∧ (((t0).toInt = (0 : Int) ∧ (((u8).toInt ≠ (-1 : Int) ∧ J188_524 (u5) (u8) τ w σ') ∨ (¬ ((u8).toInt ≠ (-1 : Int)) ∧ ((∃ v5, P142 τ (u5) (Int32.ofInt 3) (.inl (some (.inl v5))) τ ∧ (((v5).toInt = (0 : Int) ∧ J188_540 τ w σ') ∨ (¬ ((v5).toInt = (0 : Int)) ∧ J188_524 (u5) (u8) τ w σ'))) ∨ (∃ b, P142 τ (u5) (Int32.ofInt 3) (.inr b) τ ∧ w = .inr b ∧ σ' = τ))))) ∨ (¬ ((t0).toInt = (0 : Int)) ∧ (((u8).toInt ≠ (-1 : Int) ∧ w = .inl (some (.inl (Int32.ofInt 0))) ∧ σ' = τ) ∨ (¬ ((u8).toInt ≠ (-1 : Int)) ∧ w = .inl (some (.inl (Int32.ofInt 1))) ∧ σ' = τ))))) ∨ (¬ ((u5).toInt ≠ (m_i τ 13 (17) (Int32.ofInt 3).toNatClampNeg).toInt) ∧ (((u8).toInt ≠ (-3 : Int) ∧ w = .inl (some (.inl (Int32.ofInt 0))) ∧ σ' = τ) ∨ (¬ ((u8).toInt ≠ (-3 : Int)) ∧ w = .inl (some (.inl (Int32.ofInt 1))) ∧ σ' = τ))))
set_option maxRecDepth 100000 in
theorem j188_464 {F f : Nat} {σ' τ : mS} {u5 : Int32} {u8 : Int32} {t0 : Int32} {y2 : Option mV} {y3 : Option mV} {y4 : Option mV} {y6 : Option mV} {y7 : Option mV} {y9 : Option mV} {y10 : Option mV} {y11 : Option mV} {y12 : Option mV} {w : mX} (hsτ : HL τ) (h : EV F f 188 z188 464 [some (rf 11 (0)), some (rf 13 (17)), y2, y3, y4, some (.inl (u5)), y6, y7, some (.inl (u8)), y9, y10, y11, y12] [.inl (t0)] τ (w, σ')) : J188_464 u5 u8 t0 τ w σ' := by
  unfold J188_464
  replace h := ei_p h rfl rfl rfl rfl
  obtain ⟨f, g, h⟩ := h
  clear g
  replace h : EV F f 188 z188 466 [some (rf 11 (0)), some (rf 13 (17)), y2, y3, y4, some (.inl (u5)), y6, y7, some (.inl (u8)), some (.inl (t0)), y10, y11, y12] [] τ (w, σ') := h
  replace h := ei_p h rfl rfl rfl rfl
  obtain ⟨f, g, h⟩ := h
  clear g
  replace h : EV F f 188 z188 468 [some (rf 11 (0)), some (rf 13 (17)), y2, y3, y4, some (.inl (u5)), y6, y7, some (.inl (u8)), some (.inl (t0)), y10, y11, y12] [.inl (u5)] τ (w, σ') := h
  replace h := ei_p h rfl rfl rfl rfl
  obtain ⟨f, g, h⟩ := h
  clear g
  replace h : EV F f 188 z188 469 [some (rf 11 (0)), some (rf 13 (17)), y2, y3, y4, some (.inl (u5)), y6, y7, some (.inl (u8)), some (.inl (t0)), y10, y11, y12] [rf 13 (17), .inl (u5)] τ (w, σ') := h
  replace h := ei_p h rfl rfl rfl rfl
  obtain ⟨f, g, h⟩ := h
  clear g
  replace h : EV F f 188 z188 470 [some (rf 11 (0)), some (rf 13 (17)), y2, y3, y4, some (.inl (u5)), y6, y7, some (.inl (u8)), some (.inl (t0)), y10, y11, y12] [.inl (Int32.ofInt 3), rf 13 (17), .inl (u5)] τ (w, σ') := h
  replace h := ei_iald h rfl (fun _ => rfl)
  obtain ⟨vp1, f, g, h⟩ := h
  clear g
  replace h : EV F f 188 z188 471 [some (rf 11 (0)), some (rf 13 (17)), y2, y3, y4, some (.inl (u5)), y6, y7, some (.inl (u8)), some (.inl (t0)), y10, y11, y12] [.inl (m_i τ 13 (17) (Int32.ofInt 3).toNatClampNeg), .inl (u5)] τ (w, σ') := h
  refine ⟨vp_2 vp1, ?_⟩
  replace h := ei_c h rfl rfl rfl
  rcases h with ⟨hp2, f, g, h⟩ | ⟨hp2, f, g, h⟩
  · skip
    replace hp2 : (u5).toInt ≠ (m_i τ 13 (17) (Int32.ofInt 3).toNatClampNeg).toInt := ic_ne.mp hp2
    refine Or.inl ⟨hp2, ?_⟩
    clear g
    replace h : EV F f 188 z188 489 [some (rf 11 (0)), some (rf 13 (17)), y2, y3, y4, some (.inl (u5)), y6, y7, some (.inl (u8)), some (.inl (t0)), y10, y11, y12] [] τ (w, σ') := h
    replace h := ei_p h rfl rfl rfl rfl
    obtain ⟨f, g, h⟩ := h
    clear g
    replace h : EV F f 188 z188 491 [some (rf 11 (0)), some (rf 13 (17)), y2, y3, y4, some (.inl (u5)), y6, y7, some (.inl (u8)), some (.inl (t0)), y10, y11, y12] [.inl (t0)] τ (w, σ') := h
    replace h := ei_c h rfl rfl rfl
    rcases h with ⟨hp3, f, g, h⟩ | ⟨hp3, f, g, h⟩
    · skip
      replace hp3 : (t0).toInt = (0 : Int) := ic_eq.mp hp3
      refine Or.inl ⟨hp3, ?_⟩
      clear g
      replace h : EV F f 188 z188 508 [some (rf 11 (0)), some (rf 13 (17)), y2, y3, y4, some (.inl (u5)), y6, y7, some (.inl (u8)), some (.inl (t0)), y10, y11, y12] [] τ (w, σ') := h
      replace h := ei_p h rfl rfl rfl rfl
      obtain ⟨f, g, h⟩ := h
      clear g
      replace h : EV F f 188 z188 510 [some (rf 11 (0)), some (rf 13 (17)), y2, y3, y4, some (.inl (u5)), y6, y7, some (.inl (u8)), some (.inl (t0)), y10, y11, y12] [.inl (u8)] τ (w, σ') := h
      replace h := ei_p h rfl rfl rfl rfl
      obtain ⟨f, g, h⟩ := h
      clear g
      replace h : EV F f 188 z188 511 [some (rf 11 (0)), some (rf 13 (17)), y2, y3, y4, some (.inl (u5)), y6, y7, some (.inl (u8)), some (.inl (t0)), y10, y11, y12] [.inl (Int32.ofInt (-1)), .inl (u8)] τ (w, σ') := h
      replace h := ei_c h rfl rfl rfl
      rcases h with ⟨hp4, f, g, h⟩ | ⟨hp4, f, g, h⟩
      · skip
        replace hp4 : (u8).toInt ≠ (-1 : Int) := ic_ne.mp hp4
        refine Or.inl ⟨hp4, ?_⟩
        clear g
        replace h : EV F f 188 z188 524 [some (rf 11 (0)), some (rf 13 (17)), y2, y3, y4, some (.inl (u5)), y6, y7, some (.inl (u8)), some (.inl (t0)), y10, y11, y12] [] τ (w, σ') := h
        exact j188_524 hsτ h
      · skip
        replace hp4 : ¬ ((u8).toInt ≠ (-1 : Int)) := (not_congr ic_ne).mp hp4
        refine Or.inr ⟨hp4, ?_⟩
        clear g
        replace h : EV F f 188 z188 514 [some (rf 11 (0)), some (rf 13 (17)), y2, y3, y4, some (.inl (u5)), y6, y7, some (.inl (u8)), some (.inl (t0)), y10, y11, y12] [] τ (w, σ') := h
        replace h := ei_p h rfl rfl rfl rfl
        obtain ⟨f, g, h⟩ := h
        clear g
        replace h : EV F f 188 z188 515 [some (rf 11 (0)), some (rf 13 (17)), y2, y3, y4, some (.inl (u5)), y6, y7, some (.inl (u8)), some (.inl (t0)), y10, y11, y12] [rf 11 (0)] τ (w, σ') := h
        replace h := ei_p h rfl rfl rfl rfl
        obtain ⟨f, g, h⟩ := h
        clear g
        replace h : EV F f 188 z188 517 [some (rf 11 (0)), some (rf 13 (17)), y2, y3, y4, some (.inl (u5)), y6, y7, some (.inl (u8)), some (.inl (t0)), y10, y11, y12] [.inl (u5), rf 11 (0)] τ (w, σ') := h
        replace h := ei_p h rfl rfl rfl rfl
        obtain ⟨f, g, h⟩ := h
        clear g
        replace h : EV F f 188 z188 518 [some (rf 11 (0)), some (rf 13 (17)), y2, y3, y4, some (.inl (u5)), y6, y7, some (.inl (u8)), some (.inl (t0)), y10, y11, y12] [.inl (Int32.ofInt 3), .inl (u5), rf 11 (0)] τ (w, σ') := h
        replace h := bx_I (ei_v (as := [.inl (Int32.ofInt 3), .inl (u5)]) h rfl rfl rfl) z142_at (Or.inl rfl)
        rcases h with ⟨v5, σ6, r7, f, g, h⟩ | ⟨b, σ6, r7, e⟩
        · skip
          have er7 := ro2_run rfl r7
          rw [er7] at h r7
          clear g
          have p8 := x142 hsτ.1 r7
          refine Or.inl ⟨v5, p8, ?_⟩
          replace h : EV F f 188 z188 521 [some (rf 11 (0)), some (rf 13 (17)), y2, y3, y4, some (.inl (u5)), y6, y7, some (.inl (u8)), some (.inl (t0)), y10, y11, y12] [.inl (v5)] τ (w, σ') := h
          replace h := ei_c h rfl rfl rfl
          rcases h with ⟨hp9, f, g, h⟩ | ⟨hp9, f, g, h⟩
          · skip
            replace hp9 : (v5).toInt = (0 : Int) := ic_eq.mp hp9
            refine Or.inl ⟨hp9, ?_⟩
            clear g
            replace h : EV F f 188 z188 540 [some (rf 11 (0)), some (rf 13 (17)), y2, y3, y4, some (.inl (u5)), y6, y7, some (.inl (u8)), some (.inl (t0)), y10, y11, y12] [] τ (w, σ') := h
            exact j188_540 hsτ h
          · skip
            replace hp9 : ¬ ((v5).toInt = (0 : Int)) := (not_congr ic_eq).mp hp9
            refine Or.inr ⟨hp9, ?_⟩
            clear g
            replace h : EV F f 188 z188 524 [some (rf 11 (0)), some (rf 13 (17)), y2, y3, y4, some (.inl (u5)), y6, y7, some (.inl (u8)), some (.inl (t0)), y10, y11, y12] [] τ (w, σ') := h
            exact j188_524 hsτ h
        · skip
          have er7 := ro2_run rfl r7
          rw [er7] at e r7
          have p8 := x142 hsτ.1 r7
          cases e
          exact Or.inr ⟨b, p8, rfl, rfl⟩
    · skip
      replace hp3 : ¬ ((t0).toInt = (0 : Int)) := (not_congr ic_eq).mp hp3
      refine Or.inr ⟨hp3, ?_⟩
      clear g
      replace h : EV F f 188 z188 494 [some (rf 11 (0)), some (rf 13 (17)), y2, y3, y4, some (.inl (u5)), y6, y7, some (.inl (u8)), some (.inl (t0)), y10, y11, y12] [] τ (w, σ') := h
      replace h := ei_p h rfl rfl rfl rfl
      obtain ⟨f, g, h⟩ := h
      clear g
      replace h : EV F f 188 z188 496 [some (rf 11 (0)), some (rf 13 (17)), y2, y3, y4, some (.inl (u5)), y6, y7, some (.inl (u8)), some (.inl (t0)), y10, y11, y12] [.inl (u8)] τ (w, σ') := h
      replace h := ei_p h rfl rfl rfl rfl
      obtain ⟨f, g, h⟩ := h
      clear g
      replace h : EV F f 188 z188 497 [some (rf 11 (0)), some (rf 13 (17)), y2, y3, y4, some (.inl (u5)), y6, y7, some (.inl (u8)), some (.inl (t0)), y10, y11, y12] [.inl (Int32.ofInt (-1)), .inl (u8)] τ (w, σ') := h
      replace h := ei_c h rfl rfl rfl
      rcases h with ⟨hp10, f, g, h⟩ | ⟨hp10, f, g, h⟩
      · skip
        replace hp10 : (u8).toInt ≠ (-1 : Int) := ic_ne.mp hp10
        refine Or.inl ⟨hp10, ?_⟩
        clear g
        replace h : EV F f 188 z188 504 [some (rf 11 (0)), some (rf 13 (17)), y2, y3, y4, some (.inl (u5)), y6, y7, some (.inl (u8)), some (.inl (t0)), y10, y11, y12] [] τ (w, σ') := h
        replace h := ei_p h rfl rfl rfl rfl
        obtain ⟨f, g, h⟩ := h
        clear g
        replace h : EV F f 188 z188 505 [some (rf 11 (0)), some (rf 13 (17)), y2, y3, y4, some (.inl (u5)), y6, y7, some (.inl (u8)), some (.inl (t0)), y10, y11, y12] [.inl (Int32.ofInt 0)] τ (w, σ') := h
        replace h := ei_p h rfl rfl rfl rfl
        obtain ⟨f, g, h⟩ := h
        clear g
        replace h : EV F f 188 z188 545 [some (rf 11 (0)), some (rf 13 (17)), y2, y3, y4, some (.inl (u5)), y6, y7, some (.inl (u8)), some (.inl (t0)), y10, y11, y12] [.inl (Int32.ofInt 0)] τ (w, σ') := h
        have e := ei_iret h rfl
        cases e
        exact ⟨rfl, rfl⟩
      · skip
        replace hp10 : ¬ ((u8).toInt ≠ (-1 : Int)) := (not_congr ic_ne).mp hp10
        refine Or.inr ⟨hp10, ?_⟩
        clear g
        replace h : EV F f 188 z188 500 [some (rf 11 (0)), some (rf 13 (17)), y2, y3, y4, some (.inl (u5)), y6, y7, some (.inl (u8)), some (.inl (t0)), y10, y11, y12] [] τ (w, σ') := h
        replace h := ei_p h rfl rfl rfl rfl
        obtain ⟨f, g, h⟩ := h
        clear g
        replace h : EV F f 188 z188 501 [some (rf 11 (0)), some (rf 13 (17)), y2, y3, y4, some (.inl (u5)), y6, y7, some (.inl (u8)), some (.inl (t0)), y10, y11, y12] [.inl (Int32.ofInt 1)] τ (w, σ') := h
        replace h := ei_p h rfl rfl rfl rfl
        obtain ⟨f, g, h⟩ := h
        clear g
        replace h : EV F f 188 z188 545 [some (rf 11 (0)), some (rf 13 (17)), y2, y3, y4, some (.inl (u5)), y6, y7, some (.inl (u8)), some (.inl (t0)), y10, y11, y12] [.inl (Int32.ofInt 1)] τ (w, σ') := h
        have e := ei_iret h rfl
        cases e
        exact ⟨rfl, rfl⟩
  · skip
    replace hp2 : ¬ ((u5).toInt ≠ (m_i τ 13 (17) (Int32.ofInt 3).toNatClampNeg).toInt) := (not_congr ic_ne).mp hp2
    refine Or.inr ⟨hp2, ?_⟩
    clear g
    replace h : EV F f 188 z188 474 [some (rf 11 (0)), some (rf 13 (17)), y2, y3, y4, some (.inl (u5)), y6, y7, some (.inl (u8)), some (.inl (t0)), y10, y11, y12] [] τ (w, σ') := h
    replace h := ei_p h rfl rfl rfl rfl
    obtain ⟨f, g, h⟩ := h
    clear g
    replace h : EV F f 188 z188 476 [some (rf 11 (0)), some (rf 13 (17)), y2, y3, y4, some (.inl (u5)), y6, y7, some (.inl (u8)), some (.inl (t0)), y10, y11, y12] [.inl (u8)] τ (w, σ') := h
    replace h := ei_p h rfl rfl rfl rfl
    obtain ⟨f, g, h⟩ := h
    clear g
    replace h : EV F f 188 z188 478 [some (rf 11 (0)), some (rf 13 (17)), y2, y3, y4, some (.inl (u5)), y6, y7, some (.inl (u8)), some (.inl (t0)), y10, y11, y12] [.inl (Int32.ofInt (-3)), .inl (u8)] τ (w, σ') := h
    replace h := ei_c h rfl rfl rfl
    rcases h with ⟨hp11, f, g, h⟩ | ⟨hp11, f, g, h⟩
    · skip
      replace hp11 : (u8).toInt ≠ (-3 : Int) := ic_ne.mp hp11
      refine Or.inl ⟨hp11, ?_⟩
      clear g
      replace h : EV F f 188 z188 485 [some (rf 11 (0)), some (rf 13 (17)), y2, y3, y4, some (.inl (u5)), y6, y7, some (.inl (u8)), some (.inl (t0)), y10, y11, y12] [] τ (w, σ') := h
      replace h := ei_p h rfl rfl rfl rfl
      obtain ⟨f, g, h⟩ := h
      clear g
      replace h : EV F f 188 z188 486 [some (rf 11 (0)), some (rf 13 (17)), y2, y3, y4, some (.inl (u5)), y6, y7, some (.inl (u8)), some (.inl (t0)), y10, y11, y12] [.inl (Int32.ofInt 0)] τ (w, σ') := h
      replace h := ei_p h rfl rfl rfl rfl
      obtain ⟨f, g, h⟩ := h
      clear g
      replace h : EV F f 188 z188 545 [some (rf 11 (0)), some (rf 13 (17)), y2, y3, y4, some (.inl (u5)), y6, y7, some (.inl (u8)), some (.inl (t0)), y10, y11, y12] [.inl (Int32.ofInt 0)] τ (w, σ') := h
      have e := ei_iret h rfl
      cases e
      exact ⟨rfl, rfl⟩
    · skip
      replace hp11 : ¬ ((u8).toInt ≠ (-3 : Int)) := (not_congr ic_ne).mp hp11
      refine Or.inr ⟨hp11, ?_⟩
      clear g
      replace h : EV F f 188 z188 481 [some (rf 11 (0)), some (rf 13 (17)), y2, y3, y4, some (.inl (u5)), y6, y7, some (.inl (u8)), some (.inl (t0)), y10, y11, y12] [] τ (w, σ') := h
      replace h := ei_p h rfl rfl rfl rfl
      obtain ⟨f, g, h⟩ := h
      clear g
      replace h : EV F f 188 z188 482 [some (rf 11 (0)), some (rf 13 (17)), y2, y3, y4, some (.inl (u5)), y6, y7, some (.inl (u8)), some (.inl (t0)), y10, y11, y12] [.inl (Int32.ofInt 1)] τ (w, σ') := h
      replace h := ei_p h rfl rfl rfl rfl
      obtain ⟨f, g, h⟩ := h
      clear g
      replace h : EV F f 188 z188 545 [some (rf 11 (0)), some (rf 13 (17)), y2, y3, y4, some (.inl (u5)), y6, y7, some (.inl (u8)), some (.inl (t0)), y10, y11, y12] [.inl (Int32.ofInt 1)] τ (w, σ') := h
      have e := ei_iret h rfl
      cases e
      exact ⟨rfl, rfl⟩
def J188_459 (u5 : Int32) (u8 : Int32) (τ : mS) (w : mX) (σ' : mS) : Prop := J188_464 (u5) (u8) (Int32.ofInt 1) τ w σ'
set_option maxRecDepth 100000 in
theorem j188_459 {F f : Nat} {σ' τ : mS} {u5 : Int32} {u8 : Int32} {y2 : Option mV} {y3 : Option mV} {y4 : Option mV} {y6 : Option mV} {y7 : Option mV} {y9 : Option mV} {y10 : Option mV} {y11 : Option mV} {y12 : Option mV} {w : mX} (hsτ : HL τ) (h : EV F f 188 z188 459 [some (rf 11 (0)), some (rf 13 (17)), y2, y3, y4, some (.inl (u5)), y6, y7, some (.inl (u8)), y9, y10, y11, y12] [] τ (w, σ')) : J188_459 u5 u8 τ w σ' := by
  unfold J188_459
  replace h := ei_p h rfl rfl rfl rfl
  obtain ⟨f, g, h⟩ := h
  clear g
  replace h : EV F f 188 z188 460 [some (rf 11 (0)), some (rf 13 (17)), y2, y3, y4, some (.inl (u5)), y6, y7, some (.inl (u8)), y9, y10, y11, y12] [.inl (Int32.ofInt 1)] τ (w, σ') := h
  replace h := ei_p h rfl rfl rfl rfl
  obtain ⟨f, g, h⟩ := h
  clear g
  replace h : EV F f 188 z188 464 [some (rf 11 (0)), some (rf 13 (17)), y2, y3, y4, some (.inl (u5)), y6, y7, some (.inl (u8)), y9, y10, y11, y12] [.inl (Int32.ofInt 1)] τ (w, σ') := h
  exact j188_464 hsτ h
def J188_418 (u5 : Int32) (u6 : Int32) (t0 : Int32) (τ : mS) (w : mX) (σ' : mS) : Prop := ∃ v1 σ2, gF τ σ2 ∧ HL σ2 ∧ P173 τ (Int32.ofInt 2) (u5) (Int32.ofInt 0) (.inl (some (.inl v1))) σ2 ∧ (((t0).toInt ≠ (0 : Int) ∧ J188_459 (u5) (v1) σ2 w σ') ∨ (¬ ((t0).toInt ≠ (0 : Int)) ∧ ((∃ v7, P182 σ2 ((u6) / (Int32.ofInt 10)) (.inl (some (.inl v7))) σ2 ∧ (((v7).toInt ≠ (0 : Int) ∧ J188_459 (u5) (v1) σ2 w σ') ∨ (¬ ((v7).toInt ≠ (0 : Int)) ∧ ((∃ v13, P182 σ2 ((u6) - (u6) / (Int32.ofInt 10) * (Int32.ofInt 10)) (.inl (some (.inl v13))) σ2 ∧ (((v13).toInt = (0 : Int) ∧ J188_464 (u5) (v1) (Int32.ofInt 0) σ2 w σ') ∨ (¬ ((v13).toInt = (0 : Int)) ∧ J188_459 (u5) (v1) σ2 w σ'))) ∨ (∃ b, P182 σ2 ((u6) - (u6) / (Int32.ofInt 10) * (Int32.ofInt 10)) (.inr b) σ2 ∧ w = .inr b ∧ σ' = σ2))))) ∨ (∃ b, P182 σ2 ((u6) / (Int32.ofInt 10)) (.inr b) σ2 ∧ w = .inr b ∧ σ' = σ2))))
set_option maxRecDepth 100000 in
theorem j188_418 {F f : Nat} {σ' τ : mS} {u5 : Int32} {u6 : Int32} {t0 : Int32} {y2 : Option mV} {y3 : Option mV} {y4 : Option mV} {y7 : Option mV} {y8 : Option mV} {y9 : Option mV} {y10 : Option mV} {y11 : Option mV} {y12 : Option mV} {w : mX} (hsτ : HL τ) (h : EV F f 188 z188 418 [some (rf 11 (0)), some (rf 13 (17)), y2, y3, y4, some (.inl (u5)), some (.inl (u6)), y7, y8, y9, y10, y11, y12] [.inl (t0)] τ (w, σ')) : J188_418 u5 u6 t0 τ w σ' := by
  unfold J188_418
  replace h := ei_p h rfl rfl rfl rfl
  obtain ⟨f, g, h⟩ := h
  clear g
  replace h : EV F f 188 z188 420 [some (rf 11 (0)), some (rf 13 (17)), y2, y3, y4, some (.inl (u5)), some (.inl (u6)), some (.inl (t0)), y8, y9, y10, y11, y12] [] τ (w, σ') := h
  replace h := ei_p h rfl rfl rfl rfl
  obtain ⟨f, g, h⟩ := h
  clear g
  replace h : EV F f 188 z188 421 [some (rf 11 (0)), some (rf 13 (17)), y2, y3, y4, some (.inl (u5)), some (.inl (u6)), some (.inl (t0)), y8, y9, y10, y11, y12] [rf 11 (0)] τ (w, σ') := h
  replace h := ei_p h rfl rfl rfl rfl
  obtain ⟨f, g, h⟩ := h
  clear g
  replace h : EV F f 188 z188 422 [some (rf 11 (0)), some (rf 13 (17)), y2, y3, y4, some (.inl (u5)), some (.inl (u6)), some (.inl (t0)), y8, y9, y10, y11, y12] [.inl (Int32.ofInt 2), rf 11 (0)] τ (w, σ') := h
  replace h := ei_p h rfl rfl rfl rfl
  obtain ⟨f, g, h⟩ := h
  clear g
  replace h : EV F f 188 z188 424 [some (rf 11 (0)), some (rf 13 (17)), y2, y3, y4, some (.inl (u5)), some (.inl (u6)), some (.inl (t0)), y8, y9, y10, y11, y12] [.inl (u5), .inl (Int32.ofInt 2), rf 11 (0)] τ (w, σ') := h
  replace h := ei_p h rfl rfl rfl rfl
  obtain ⟨f, g, h⟩ := h
  clear g
  replace h : EV F f 188 z188 425 [some (rf 11 (0)), some (rf 13 (17)), y2, y3, y4, some (.inl (u5)), some (.inl (u6)), some (.inl (t0)), y8, y9, y10, y11, y12] [.inl (Int32.ofInt 0), .inl (u5), .inl (Int32.ofInt 2), rf 11 (0)] τ (w, σ') := h
  replace h := bx_I (ei_s (as := [.inl (Int32.ofInt 0), .inl (u5), .inl (Int32.ofInt 2), rf 11 (0)]) h rfl (Nat.le_of_ble_eq_true rfl) rfl rfl) z173_at (Or.inl rfl)
  rcases h with ⟨v1, σ2, r3, f, g, h⟩ | ⟨b, σ2, r3, e⟩
  rotate_left
  · exact (nt173 (x173 hsτ r3)).elim
  clear g
  have p4 := x173 hsτ r3
  have hsσ2 : HL σ2 := hl173 p4
  refine ⟨v1, σ2, gF_r r3 rfl hsτ, hsσ2, p4, ?_⟩
  replace h : EV F f 188 z188 428 [some (rf 11 (0)), some (rf 13 (17)), y2, y3, y4, some (.inl (u5)), some (.inl (u6)), some (.inl (t0)), y8, y9, y10, y11, y12] [.inl (v1)] σ2 (w, σ') := h
  replace h := ei_p h rfl rfl rfl rfl
  obtain ⟨f, g, h⟩ := h
  clear g
  replace h : EV F f 188 z188 430 [some (rf 11 (0)), some (rf 13 (17)), y2, y3, y4, some (.inl (u5)), some (.inl (u6)), some (.inl (t0)), some (.inl (v1)), y9, y10, y11, y12] [] σ2 (w, σ') := h
  replace h := ei_p h rfl rfl rfl rfl
  obtain ⟨f, g, h⟩ := h
  clear g
  replace h : EV F f 188 z188 432 [some (rf 11 (0)), some (rf 13 (17)), y2, y3, y4, some (.inl (u5)), some (.inl (u6)), some (.inl (t0)), some (.inl (v1)), y9, y10, y11, y12] [.inl (t0)] σ2 (w, σ') := h
  replace h := ei_c h rfl rfl rfl
  rcases h with ⟨hp5, f, g, h⟩ | ⟨hp5, f, g, h⟩
  · skip
    replace hp5 : (t0).toInt ≠ (0 : Int) := ic_ne.mp hp5
    refine Or.inl ⟨hp5, ?_⟩
    clear g
    replace h : EV F f 188 z188 459 [some (rf 11 (0)), some (rf 13 (17)), y2, y3, y4, some (.inl (u5)), some (.inl (u6)), some (.inl (t0)), some (.inl (v1)), y9, y10, y11, y12] [] σ2 (w, σ') := h
    exact j188_459 hsσ2 h
  · skip
    replace hp5 : ¬ ((t0).toInt ≠ (0 : Int)) := (not_congr ic_ne).mp hp5
    refine Or.inr ⟨hp5, ?_⟩
    clear g
    replace h : EV F f 188 z188 435 [some (rf 11 (0)), some (rf 13 (17)), y2, y3, y4, some (.inl (u5)), some (.inl (u6)), some (.inl (t0)), some (.inl (v1)), y9, y10, y11, y12] [] σ2 (w, σ') := h
    replace h := ei_p h rfl rfl rfl rfl
    obtain ⟨f, g, h⟩ := h
    clear g
    replace h : EV F f 188 z188 436 [some (rf 11 (0)), some (rf 13 (17)), y2, y3, y4, some (.inl (u5)), some (.inl (u6)), some (.inl (t0)), some (.inl (v1)), y9, y10, y11, y12] [rf 11 (0)] σ2 (w, σ') := h
    replace h := ei_p h rfl rfl rfl rfl
    obtain ⟨f, g, h⟩ := h
    clear g
    replace h : EV F f 188 z188 438 [some (rf 11 (0)), some (rf 13 (17)), y2, y3, y4, some (.inl (u5)), some (.inl (u6)), some (.inl (t0)), some (.inl (v1)), y9, y10, y11, y12] [.inl (u6), rf 11 (0)] σ2 (w, σ') := h
    replace h := ei_p h rfl rfl rfl rfl
    obtain ⟨f, g, h⟩ := h
    clear g
    replace h : EV F f 188 z188 440 [some (rf 11 (0)), some (rf 13 (17)), y2, y3, y4, some (.inl (u5)), some (.inl (u6)), some (.inl (t0)), some (.inl (v1)), y9, y10, y11, y12] [.inl (Int32.ofInt 10), .inl (u6), rf 11 (0)] σ2 (w, σ') := h
    replace h := ei_idiv h rfl
    obtain ⟨hd6, f, g, h⟩ := h
    clear g
    replace h : EV F f 188 z188 441 [some (rf 11 (0)), some (rf 13 (17)), y2, y3, y4, some (.inl (u5)), some (.inl (u6)), some (.inl (t0)), some (.inl (v1)), y9, y10, y11, y12] [.inl ((u6) / (Int32.ofInt 10)), rf 11 (0)] σ2 (w, σ') := h
    replace h := bx_I (ei_s (as := [.inl ((u6) / (Int32.ofInt 10)), rf 11 (0)]) h rfl (Nat.le_of_ble_eq_true rfl) rfl rfl) z182_at (Or.inr rfl)
    rcases h with ⟨v7, σ8, r9, f, g, h⟩ | ⟨b, σ8, r9, e⟩
    · skip
      have er9 := ro2_run rfl r9
      rw [er9] at h r9
      clear g
      have p10 := x182 hsσ2 r9
      refine Or.inl ⟨v7, p10, ?_⟩
      replace h : EV F f 188 z188 444 [some (rf 11 (0)), some (rf 13 (17)), y2, y3, y4, some (.inl (u5)), some (.inl (u6)), some (.inl (t0)), some (.inl (v1)), y9, y10, y11, y12] [.inl (v7)] σ2 (w, σ') := h
      replace h := ei_c h rfl rfl rfl
      rcases h with ⟨hp11, f, g, h⟩ | ⟨hp11, f, g, h⟩
      · skip
        replace hp11 : (v7).toInt ≠ (0 : Int) := ic_ne.mp hp11
        refine Or.inl ⟨hp11, ?_⟩
        clear g
        replace h : EV F f 188 z188 459 [some (rf 11 (0)), some (rf 13 (17)), y2, y3, y4, some (.inl (u5)), some (.inl (u6)), some (.inl (t0)), some (.inl (v1)), y9, y10, y11, y12] [] σ2 (w, σ') := h
        exact j188_459 hsσ2 h
      · skip
        replace hp11 : ¬ ((v7).toInt ≠ (0 : Int)) := (not_congr ic_ne).mp hp11
        refine Or.inr ⟨hp11, ?_⟩
        clear g
        replace h : EV F f 188 z188 447 [some (rf 11 (0)), some (rf 13 (17)), y2, y3, y4, some (.inl (u5)), some (.inl (u6)), some (.inl (t0)), some (.inl (v1)), y9, y10, y11, y12] [] σ2 (w, σ') := h
        replace h := ei_p h rfl rfl rfl rfl
        obtain ⟨f, g, h⟩ := h
        clear g
        replace h : EV F f 188 z188 448 [some (rf 11 (0)), some (rf 13 (17)), y2, y3, y4, some (.inl (u5)), some (.inl (u6)), some (.inl (t0)), some (.inl (v1)), y9, y10, y11, y12] [rf 11 (0)] σ2 (w, σ') := h
        replace h := ei_p h rfl rfl rfl rfl
        obtain ⟨f, g, h⟩ := h
        clear g
        replace h : EV F f 188 z188 450 [some (rf 11 (0)), some (rf 13 (17)), y2, y3, y4, some (.inl (u5)), some (.inl (u6)), some (.inl (t0)), some (.inl (v1)), y9, y10, y11, y12] [.inl (u6), rf 11 (0)] σ2 (w, σ') := h
        replace h := ei_p h rfl rfl rfl rfl
        obtain ⟨f, g, h⟩ := h
        clear g
        replace h : EV F f 188 z188 452 [some (rf 11 (0)), some (rf 13 (17)), y2, y3, y4, some (.inl (u5)), some (.inl (u6)), some (.inl (t0)), some (.inl (v1)), y9, y10, y11, y12] [.inl (Int32.ofInt 10), .inl (u6), rf 11 (0)] σ2 (w, σ') := h
        replace h := ei_irem h rfl
        obtain ⟨hd12, f, g, h⟩ := h
        clear g
        replace h : EV F f 188 z188 453 [some (rf 11 (0)), some (rf 13 (17)), y2, y3, y4, some (.inl (u5)), some (.inl (u6)), some (.inl (t0)), some (.inl (v1)), y9, y10, y11, y12] [.inl ((u6) - (u6) / (Int32.ofInt 10) * (Int32.ofInt 10)), rf 11 (0)] σ2 (w, σ') := h
        replace h := bx_I (ei_s (as := [.inl ((u6) - (u6) / (Int32.ofInt 10) * (Int32.ofInt 10)), rf 11 (0)]) h rfl (Nat.le_of_ble_eq_true rfl) rfl rfl) z182_at (Or.inr rfl)
        rcases h with ⟨v13, σ14, r15, f, g, h⟩ | ⟨b, σ14, r15, e⟩
        · skip
          have er15 := ro2_run rfl r15
          rw [er15] at h r15
          clear g
          have p16 := x182 hsσ2 r15
          refine Or.inl ⟨v13, p16, ?_⟩
          replace h : EV F f 188 z188 456 [some (rf 11 (0)), some (rf 13 (17)), y2, y3, y4, some (.inl (u5)), some (.inl (u6)), some (.inl (t0)), some (.inl (v1)), y9, y10, y11, y12] [.inl (v13)] σ2 (w, σ') := h
          replace h := ei_c h rfl rfl rfl
          rcases h with ⟨hp17, f, g, h⟩ | ⟨hp17, f, g, h⟩
          · skip
            replace hp17 : (v13).toInt = (0 : Int) := ic_eq.mp hp17
            refine Or.inl ⟨hp17, ?_⟩
            clear g
            replace h : EV F f 188 z188 463 [some (rf 11 (0)), some (rf 13 (17)), y2, y3, y4, some (.inl (u5)), some (.inl (u6)), some (.inl (t0)), some (.inl (v1)), y9, y10, y11, y12] [] σ2 (w, σ') := h
            replace h := ei_p h rfl rfl rfl rfl
            obtain ⟨f, g, h⟩ := h
            clear g
            replace h : EV F f 188 z188 464 [some (rf 11 (0)), some (rf 13 (17)), y2, y3, y4, some (.inl (u5)), some (.inl (u6)), some (.inl (t0)), some (.inl (v1)), y9, y10, y11, y12] [.inl (Int32.ofInt 0)] σ2 (w, σ') := h
            exact j188_464 hsσ2 h
          · skip
            replace hp17 : ¬ ((v13).toInt = (0 : Int)) := (not_congr ic_eq).mp hp17
            refine Or.inr ⟨hp17, ?_⟩
            clear g
            replace h : EV F f 188 z188 459 [some (rf 11 (0)), some (rf 13 (17)), y2, y3, y4, some (.inl (u5)), some (.inl (u6)), some (.inl (t0)), some (.inl (v1)), y9, y10, y11, y12] [] σ2 (w, σ') := h
            exact j188_459 hsσ2 h
        · skip
          have er15 := ro2_run rfl r15
          rw [er15] at e r15
          have p16 := x182 hsσ2 r15
          cases e
          exact Or.inr ⟨b, p16, rfl, rfl⟩
    · skip
      have er9 := ro2_run rfl r9
      rw [er9] at e r9
      have p10 := x182 hsσ2 r9
      cases e
      exact Or.inr ⟨b, p10, rfl, rfl⟩
def J188_417 (u5 : Int32) (u6 : Int32) (τ : mS) (w : mX) (σ' : mS) : Prop := J188_418 (u5) (u6) (Int32.ofInt 0) τ w σ'
set_option maxRecDepth 100000 in
theorem j188_417 {F f : Nat} {σ' τ : mS} {u5 : Int32} {u6 : Int32} {y2 : Option mV} {y3 : Option mV} {y4 : Option mV} {y7 : Option mV} {y8 : Option mV} {y9 : Option mV} {y10 : Option mV} {y11 : Option mV} {y12 : Option mV} {w : mX} (hsτ : HL τ) (h : EV F f 188 z188 417 [some (rf 11 (0)), some (rf 13 (17)), y2, y3, y4, some (.inl (u5)), some (.inl (u6)), y7, y8, y9, y10, y11, y12] [] τ (w, σ')) : J188_417 u5 u6 τ w σ' := by
  unfold J188_417
  replace h := ei_p h rfl rfl rfl rfl
  obtain ⟨f, g, h⟩ := h
  clear g
  replace h : EV F f 188 z188 418 [some (rf 11 (0)), some (rf 13 (17)), y2, y3, y4, some (.inl (u5)), some (.inl (u6)), y7, y8, y9, y10, y11, y12] [.inl (Int32.ofInt 0)] τ (w, σ') := h
  exact j188_418 hsτ h
def J188_392 (u5 : Int32) (t0 : Int32) (τ : mS) (w : mX) (σ' : mS) : Prop := (0 ≤ (3 : Int) ∧ (3 : Int) < (τ.2.1 13 (17) : Int)) ∧ (((m_i τ 13 (17) (Int32.ofInt 3).toNatClampNeg).toInt ≤ (u5).toInt ∧ J188_417 (u5) (t0) τ w σ') ∨ (¬ ((m_i τ 13 (17) (Int32.ofInt 3).toNatClampNeg).toInt ≤ (u5).toInt) ∧ ((∃ v3, P142 τ (u5) (Int32.ofInt 3) (.inl (some (.inl v3))) τ ∧ (((v3).toInt ≠ (1 : Int) ∧ J188_417 (u5) (t0) τ w σ') ∨ (¬ ((v3).toInt ≠ (1 : Int)) ∧ J188_418 (u5) (t0) (Int32.ofInt 1) τ w σ'))) ∨ (∃ b, P142 τ (u5) (Int32.ofInt 3) (.inr b) τ ∧ w = .inr b ∧ σ' = τ))))
set_option maxRecDepth 100000 in
theorem j188_392 {F f : Nat} {σ' τ : mS} {u5 : Int32} {t0 : Int32} {y2 : Option mV} {y3 : Option mV} {y4 : Option mV} {y6 : Option mV} {y7 : Option mV} {y8 : Option mV} {y9 : Option mV} {y10 : Option mV} {y11 : Option mV} {y12 : Option mV} {w : mX} (hsτ : HL τ) (h : EV F f 188 z188 392 [some (rf 11 (0)), some (rf 13 (17)), y2, y3, y4, some (.inl (u5)), y6, y7, y8, y9, y10, y11, y12] [.inl (t0)] τ (w, σ')) : J188_392 u5 t0 τ w σ' := by
  unfold J188_392
  replace h := ei_p h rfl rfl rfl rfl
  obtain ⟨f, g, h⟩ := h
  clear g
  replace h : EV F f 188 z188 394 [some (rf 11 (0)), some (rf 13 (17)), y2, y3, y4, some (.inl (u5)), some (.inl (t0)), y7, y8, y9, y10, y11, y12] [] τ (w, σ') := h
  replace h := ei_p h rfl rfl rfl rfl
  obtain ⟨f, g, h⟩ := h
  clear g
  replace h : EV F f 188 z188 396 [some (rf 11 (0)), some (rf 13 (17)), y2, y3, y4, some (.inl (u5)), some (.inl (t0)), y7, y8, y9, y10, y11, y12] [.inl (u5)] τ (w, σ') := h
  replace h := ei_p h rfl rfl rfl rfl
  obtain ⟨f, g, h⟩ := h
  clear g
  replace h : EV F f 188 z188 397 [some (rf 11 (0)), some (rf 13 (17)), y2, y3, y4, some (.inl (u5)), some (.inl (t0)), y7, y8, y9, y10, y11, y12] [rf 13 (17), .inl (u5)] τ (w, σ') := h
  replace h := ei_p h rfl rfl rfl rfl
  obtain ⟨f, g, h⟩ := h
  clear g
  replace h : EV F f 188 z188 398 [some (rf 11 (0)), some (rf 13 (17)), y2, y3, y4, some (.inl (u5)), some (.inl (t0)), y7, y8, y9, y10, y11, y12] [.inl (Int32.ofInt 3), rf 13 (17), .inl (u5)] τ (w, σ') := h
  replace h := ei_iald h rfl (fun _ => rfl)
  obtain ⟨vp1, f, g, h⟩ := h
  clear g
  replace h : EV F f 188 z188 399 [some (rf 11 (0)), some (rf 13 (17)), y2, y3, y4, some (.inl (u5)), some (.inl (t0)), y7, y8, y9, y10, y11, y12] [.inl (m_i τ 13 (17) (Int32.ofInt 3).toNatClampNeg), .inl (u5)] τ (w, σ') := h
  refine ⟨vp_2 vp1, ?_⟩
  replace h := ei_c h rfl rfl rfl
  rcases h with ⟨hp2, f, g, h⟩ | ⟨hp2, f, g, h⟩
  · skip
    replace hp2 : (m_i τ 13 (17) (Int32.ofInt 3).toNatClampNeg).toInt ≤ (u5).toInt := ic_ge.mp hp2
    refine Or.inl ⟨hp2, ?_⟩
    clear g
    replace h : EV F f 188 z188 417 [some (rf 11 (0)), some (rf 13 (17)), y2, y3, y4, some (.inl (u5)), some (.inl (t0)), y7, y8, y9, y10, y11, y12] [] τ (w, σ') := h
    exact j188_417 hsτ h
  · skip
    replace hp2 : ¬ ((m_i τ 13 (17) (Int32.ofInt 3).toNatClampNeg).toInt ≤ (u5).toInt) := (not_congr ic_ge).mp hp2
    refine Or.inr ⟨hp2, ?_⟩
    clear g
    replace h : EV F f 188 z188 402 [some (rf 11 (0)), some (rf 13 (17)), y2, y3, y4, some (.inl (u5)), some (.inl (t0)), y7, y8, y9, y10, y11, y12] [] τ (w, σ') := h
    replace h := ei_p h rfl rfl rfl rfl
    obtain ⟨f, g, h⟩ := h
    clear g
    replace h : EV F f 188 z188 403 [some (rf 11 (0)), some (rf 13 (17)), y2, y3, y4, some (.inl (u5)), some (.inl (t0)), y7, y8, y9, y10, y11, y12] [rf 11 (0)] τ (w, σ') := h
    replace h := ei_p h rfl rfl rfl rfl
    obtain ⟨f, g, h⟩ := h
    clear g
    replace h : EV F f 188 z188 405 [some (rf 11 (0)), some (rf 13 (17)), y2, y3, y4, some (.inl (u5)), some (.inl (t0)), y7, y8, y9, y10, y11, y12] [.inl (u5), rf 11 (0)] τ (w, σ') := h
    replace h := ei_p h rfl rfl rfl rfl
    obtain ⟨f, g, h⟩ := h
    clear g
    replace h : EV F f 188 z188 406 [some (rf 11 (0)), some (rf 13 (17)), y2, y3, y4, some (.inl (u5)), some (.inl (t0)), y7, y8, y9, y10, y11, y12] [.inl (Int32.ofInt 3), .inl (u5), rf 11 (0)] τ (w, σ') := h
    replace h := bx_I (ei_v (as := [.inl (Int32.ofInt 3), .inl (u5)]) h rfl rfl rfl) z142_at (Or.inl rfl)
    rcases h with ⟨v3, σ4, r5, f, g, h⟩ | ⟨b, σ4, r5, e⟩
    · skip
      have er5 := ro2_run rfl r5
      rw [er5] at h r5
      clear g
      have p6 := x142 hsτ.1 r5
      refine Or.inl ⟨v3, p6, ?_⟩
      replace h : EV F f 188 z188 409 [some (rf 11 (0)), some (rf 13 (17)), y2, y3, y4, some (.inl (u5)), some (.inl (t0)), y7, y8, y9, y10, y11, y12] [.inl (v3)] τ (w, σ') := h
      replace h := ei_p h rfl rfl rfl rfl
      obtain ⟨f, g, h⟩ := h
      clear g
      replace h : EV F f 188 z188 410 [some (rf 11 (0)), some (rf 13 (17)), y2, y3, y4, some (.inl (u5)), some (.inl (t0)), y7, y8, y9, y10, y11, y12] [.inl (Int32.ofInt 1), .inl (v3)] τ (w, σ') := h
      replace h := ei_c h rfl rfl rfl
      rcases h with ⟨hp7, f, g, h⟩ | ⟨hp7, f, g, h⟩
      · skip
        replace hp7 : (v3).toInt ≠ (1 : Int) := ic_ne.mp hp7
        refine Or.inl ⟨hp7, ?_⟩
        clear g
        replace h : EV F f 188 z188 417 [some (rf 11 (0)), some (rf 13 (17)), y2, y3, y4, some (.inl (u5)), some (.inl (t0)), y7, y8, y9, y10, y11, y12] [] τ (w, σ') := h
        exact j188_417 hsτ h
      · skip
        replace hp7 : ¬ ((v3).toInt ≠ (1 : Int)) := (not_congr ic_ne).mp hp7
        refine Or.inr ⟨hp7, ?_⟩
        clear g
        replace h : EV F f 188 z188 413 [some (rf 11 (0)), some (rf 13 (17)), y2, y3, y4, some (.inl (u5)), some (.inl (t0)), y7, y8, y9, y10, y11, y12] [] τ (w, σ') := h
        replace h := ei_p h rfl rfl rfl rfl
        obtain ⟨f, g, h⟩ := h
        clear g
        replace h : EV F f 188 z188 414 [some (rf 11 (0)), some (rf 13 (17)), y2, y3, y4, some (.inl (u5)), some (.inl (t0)), y7, y8, y9, y10, y11, y12] [.inl (Int32.ofInt 1)] τ (w, σ') := h
        replace h := ei_p h rfl rfl rfl rfl
        obtain ⟨f, g, h⟩ := h
        clear g
        replace h : EV F f 188 z188 418 [some (rf 11 (0)), some (rf 13 (17)), y2, y3, y4, some (.inl (u5)), some (.inl (t0)), y7, y8, y9, y10, y11, y12] [.inl (Int32.ofInt 1)] τ (w, σ') := h
        exact j188_418 hsτ h
    · skip
      have er5 := ro2_run rfl r5
      rw [er5] at e r5
      have p6 := x142 hsτ.1 r5
      cases e
      exact Or.inr ⟨b, p6, rfl, rfl⟩
def J188_362 (τ : mS) (w : mX) (σ' : mS) : Prop := w = .inl (some (.inl (Int32.ofInt 0))) ∧ σ' = τ
set_option maxRecDepth 100000 in
theorem j188_362 {F f : Nat} {σ' τ : mS} {y0 : Option mV} {y1 : Option mV} {y2 : Option mV} {y3 : Option mV} {y4 : Option mV} {y5 : Option mV} {y6 : Option mV} {y7 : Option mV} {y8 : Option mV} {y9 : Option mV} {y10 : Option mV} {y11 : Option mV} {y12 : Option mV} {w : mX} (hsτ : HL τ) (h : EV F f 188 z188 362 [y0, y1, y2, y3, y4, y5, y6, y7, y8, y9, y10, y11, y12] [] τ (w, σ')) : J188_362 τ w σ' := by
  unfold J188_362
  replace h := ei_p h rfl rfl rfl rfl
  obtain ⟨f, g, h⟩ := h
  clear g
  replace h : EV F f 188 z188 363 [y0, y1, y2, y3, y4, y5, y6, y7, y8, y9, y10, y11, y12] [.inl (Int32.ofInt 0)] τ (w, σ') := h
  have e := ei_iret h rfl
  cases e
  exact ⟨rfl, rfl⟩
def J188_355 (t0 : Int32) (t1 : Int32) (τ : mS) (w : mX) (σ' : mS) : Prop := (((t1).toInt ≠ (t0).toInt ∧ J188_362 τ w σ') ∨ (¬ ((t1).toInt ≠ (t0).toInt) ∧ w = .inl (some (.inl (Int32.ofInt 1))) ∧ σ' = τ))
set_option maxRecDepth 100000 in
theorem j188_355 {F f : Nat} {σ' τ : mS} {t0 : Int32} {t1 : Int32} {y0 : Option mV} {y1 : Option mV} {y2 : Option mV} {y3 : Option mV} {y4 : Option mV} {y5 : Option mV} {y6 : Option mV} {y7 : Option mV} {y8 : Option mV} {y9 : Option mV} {y10 : Option mV} {y11 : Option mV} {y12 : Option mV} {w : mX} (hsτ : HL τ) (h : EV F f 188 z188 355 [y0, y1, y2, y3, y4, y5, y6, y7, y8, y9, y10, y11, y12] [.inl (t0), .inl (t1)] τ (w, σ')) : J188_355 t0 t1 τ w σ' := by
  unfold J188_355
  replace h := ei_c h rfl rfl rfl
  rcases h with ⟨hp1, f, g, h⟩ | ⟨hp1, f, g, h⟩
  · skip
    replace hp1 : (t1).toInt ≠ (t0).toInt := ic_ne.mp hp1
    refine Or.inl ⟨hp1, ?_⟩
    clear g
    replace h : EV F f 188 z188 362 [y0, y1, y2, y3, y4, y5, y6, y7, y8, y9, y10, y11, y12] [] τ (w, σ') := h
    exact j188_362 hsτ h
  · skip
    replace hp1 : ¬ ((t1).toInt ≠ (t0).toInt) := (not_congr ic_ne).mp hp1
    refine Or.inr ⟨hp1, ?_⟩
    clear g
    replace h : EV F f 188 z188 358 [y0, y1, y2, y3, y4, y5, y6, y7, y8, y9, y10, y11, y12] [] τ (w, σ') := h
    replace h := ei_p h rfl rfl rfl rfl
    obtain ⟨f, g, h⟩ := h
    clear g
    replace h : EV F f 188 z188 359 [y0, y1, y2, y3, y4, y5, y6, y7, y8, y9, y10, y11, y12] [.inl (Int32.ofInt 1)] τ (w, σ') := h
    replace h := ei_p h rfl rfl rfl rfl
    obtain ⟨f, g, h⟩ := h
    clear g
    replace h : EV F f 188 z188 363 [y0, y1, y2, y3, y4, y5, y6, y7, y8, y9, y10, y11, y12] [.inl (Int32.ofInt 1)] τ (w, σ') := h
    have e := ei_iret h rfl
    cases e
    exact ⟨rfl, rfl⟩
def J188_350 (t0 : Int32) (τ : mS) (w : mX) (σ' : mS) : Prop := J188_355 (Int32.ofInt 1) (t0) τ w σ'
set_option maxRecDepth 100000 in
theorem j188_350 {F f : Nat} {σ' τ : mS} {t0 : Int32} {y0 : Option mV} {y1 : Option mV} {y2 : Option mV} {y3 : Option mV} {y4 : Option mV} {y5 : Option mV} {y6 : Option mV} {y7 : Option mV} {y8 : Option mV} {y9 : Option mV} {y10 : Option mV} {y11 : Option mV} {y12 : Option mV} {w : mX} (hsτ : HL τ) (h : EV F f 188 z188 350 [y0, y1, y2, y3, y4, y5, y6, y7, y8, y9, y10, y11, y12] [.inl (t0)] τ (w, σ')) : J188_350 t0 τ w σ' := by
  unfold J188_350
  replace h := ei_p h rfl rfl rfl rfl
  obtain ⟨f, g, h⟩ := h
  clear g
  replace h : EV F f 188 z188 351 [y0, y1, y2, y3, y4, y5, y6, y7, y8, y9, y10, y11, y12] [.inl (Int32.ofInt 1), .inl (t0)] τ (w, σ') := h
  replace h := ei_p h rfl rfl rfl rfl
  obtain ⟨f, g, h⟩ := h
  clear g
  replace h : EV F f 188 z188 355 [y0, y1, y2, y3, y4, y5, y6, y7, y8, y9, y10, y11, y12] [.inl (Int32.ofInt 1), .inl (t0)] τ (w, σ') := h
  exact j188_355 hsτ h
def J188_331 (u5 : Int32) (u8 : Int64) (t0 : Int32) (τ : mS) (w : mX) (σ' : mS) : Prop := (((Int64.ofNat 0).toInt < (u8).toInt ∧ J188_350 (t0) τ w σ') ∨ (¬ ((Int64.ofNat 0).toInt < (u8).toInt) ∧ ((∃ v2, P145 τ (u5) (Int32.ofInt 0) (.inl (some (.inr (.inl v2)))) τ ∧ (((Int64.ofNat 0).toInt < (v2).toInt ∧ J188_355 (Int32.ofInt 0) (t0) τ w σ') ∨ (¬ ((Int64.ofNat 0).toInt < (v2).toInt) ∧ J188_350 (t0) τ w σ'))) ∨ (∃ b, P145 τ (u5) (Int32.ofInt 0) (.inr b) τ ∧ w = .inr b ∧ σ' = τ))))
set_option maxRecDepth 100000 in
theorem j188_331 {F f : Nat} {σ' τ : mS} {u5 : Int32} {u8 : Int64} {t0 : Int32} {y1 : Option mV} {y2 : Option mV} {y3 : Option mV} {y4 : Option mV} {y6 : Option mV} {y7 : Option mV} {y10 : Option mV} {y11 : Option mV} {y12 : Option mV} {w : mX} (hsτ : HL τ) (h : EV F f 188 z188 331 [some (rf 11 (0)), y1, y2, y3, y4, some (.inl (u5)), y6, y7, some (.inr (.inl (u8))), none, y10, y11, y12] [.inl (t0)] τ (w, σ')) : J188_331 u5 u8 t0 τ w σ' := by
  unfold J188_331
  replace h := ei_p h rfl rfl rfl rfl
  obtain ⟨f, g, h⟩ := h
  clear g
  replace h : EV F f 188 z188 333 [some (rf 11 (0)), y1, y2, y3, y4, some (.inl (u5)), y6, y7, some (.inr (.inl (u8))), none, y10, y11, y12] [.inr (.inl (u8)), .inl (t0)] τ (w, σ') := h
  replace h := ei_p h rfl rfl rfl rfl
  obtain ⟨f, g, h⟩ := h
  clear g
  replace h : EV F f 188 z188 334 [some (rf 11 (0)), y1, y2, y3, y4, some (.inl (u5)), y6, y7, some (.inr (.inl (u8))), none, y10, y11, y12] [.inr (.inl (Int64.ofNat 0)), .inr (.inl (u8)), .inl (t0)] τ (w, σ') := h
  replace h := ei_p h rfl rfl rfl rfl
  obtain ⟨f, g, h⟩ := h
  clear g
  replace h : EV F f 188 z188 335 [some (rf 11 (0)), y1, y2, y3, y4, some (.inl (u5)), y6, y7, some (.inr (.inl (u8))), none, y10, y11, y12] [.inl (lg_cmp (u8) (Int64.ofNat 0)), .inl (t0)] τ (w, σ') := h
  replace h := ei_c h rfl rfl rfl
  rcases h with ⟨hp1, f, g, h⟩ | ⟨hp1, f, g, h⟩
  · skip
    replace hp1 : (Int64.ofNat 0).toInt < (u8).toInt := (ab_lc .gt _ _).mp hp1
    refine Or.inl ⟨hp1, ?_⟩
    clear g
    replace h : EV F f 188 z188 350 [some (rf 11 (0)), y1, y2, y3, y4, some (.inl (u5)), y6, y7, some (.inr (.inl (u8))), none, y10, y11, y12] [.inl (t0)] τ (w, σ') := h
    exact j188_350 hsτ h
  · skip
    replace hp1 : ¬ ((Int64.ofNat 0).toInt < (u8).toInt) := (not_congr (ab_lc .gt _ _)).mp hp1
    refine Or.inr ⟨hp1, ?_⟩
    clear g
    replace h : EV F f 188 z188 338 [some (rf 11 (0)), y1, y2, y3, y4, some (.inl (u5)), y6, y7, some (.inr (.inl (u8))), none, y10, y11, y12] [.inl (t0)] τ (w, σ') := h
    replace h := ei_p h rfl rfl rfl rfl
    obtain ⟨f, g, h⟩ := h
    clear g
    replace h : EV F f 188 z188 339 [some (rf 11 (0)), y1, y2, y3, y4, some (.inl (u5)), y6, y7, some (.inr (.inl (u8))), none, y10, y11, y12] [rf 11 (0), .inl (t0)] τ (w, σ') := h
    replace h := ei_p h rfl rfl rfl rfl
    obtain ⟨f, g, h⟩ := h
    clear g
    replace h : EV F f 188 z188 341 [some (rf 11 (0)), y1, y2, y3, y4, some (.inl (u5)), y6, y7, some (.inr (.inl (u8))), none, y10, y11, y12] [.inl (u5), rf 11 (0), .inl (t0)] τ (w, σ') := h
    replace h := ei_p h rfl rfl rfl rfl
    obtain ⟨f, g, h⟩ := h
    clear g
    replace h : EV F f 188 z188 342 [some (rf 11 (0)), y1, y2, y3, y4, some (.inl (u5)), y6, y7, some (.inr (.inl (u8))), none, y10, y11, y12] [.inl (Int32.ofInt 0), .inl (u5), rf 11 (0), .inl (t0)] τ (w, σ') := h
    replace h := bx_L (ei_v (as := [.inl (Int32.ofInt 0), .inl (u5)]) h rfl rfl rfl) z145_at rfl
    rcases h with ⟨v2, σ3, r4, f, g, h⟩ | ⟨b, σ3, r4, e⟩
    · skip
      have er4 := ro2_run rfl r4
      rw [er4] at h r4
      clear g
      have p5 := x145 hsτ.1 r4
      refine Or.inl ⟨v2, p5, ?_⟩
      replace h : EV F f 188 z188 345 [some (rf 11 (0)), y1, y2, y3, y4, some (.inl (u5)), y6, y7, some (.inr (.inl (u8))), none, y10, y11, y12] [.inr (.inl (v2)), .inl (t0)] τ (w, σ') := h
      replace h := ei_p h rfl rfl rfl rfl
      obtain ⟨f, g, h⟩ := h
      clear g
      replace h : EV F f 188 z188 346 [some (rf 11 (0)), y1, y2, y3, y4, some (.inl (u5)), y6, y7, some (.inr (.inl (u8))), none, y10, y11, y12] [.inr (.inl (Int64.ofNat 0)), .inr (.inl (v2)), .inl (t0)] τ (w, σ') := h
      replace h := ei_p h rfl rfl rfl rfl
      obtain ⟨f, g, h⟩ := h
      clear g
      replace h : EV F f 188 z188 347 [some (rf 11 (0)), y1, y2, y3, y4, some (.inl (u5)), y6, y7, some (.inr (.inl (u8))), none, y10, y11, y12] [.inl (lg_cmp (v2) (Int64.ofNat 0)), .inl (t0)] τ (w, σ') := h
      replace h := ei_c h rfl rfl rfl
      rcases h with ⟨hp6, f, g, h⟩ | ⟨hp6, f, g, h⟩
      · skip
        replace hp6 : (Int64.ofNat 0).toInt < (v2).toInt := (ab_lc .gt _ _).mp hp6
        refine Or.inl ⟨hp6, ?_⟩
        clear g
        replace h : EV F f 188 z188 354 [some (rf 11 (0)), y1, y2, y3, y4, some (.inl (u5)), y6, y7, some (.inr (.inl (u8))), none, y10, y11, y12] [.inl (t0)] τ (w, σ') := h
        replace h := ei_p h rfl rfl rfl rfl
        obtain ⟨f, g, h⟩ := h
        clear g
        replace h : EV F f 188 z188 355 [some (rf 11 (0)), y1, y2, y3, y4, some (.inl (u5)), y6, y7, some (.inr (.inl (u8))), none, y10, y11, y12] [.inl (Int32.ofInt 0), .inl (t0)] τ (w, σ') := h
        exact j188_355 hsτ h
      · skip
        replace hp6 : ¬ ((Int64.ofNat 0).toInt < (v2).toInt) := (not_congr (ab_lc .gt _ _)).mp hp6
        refine Or.inr ⟨hp6, ?_⟩
        clear g
        replace h : EV F f 188 z188 350 [some (rf 11 (0)), y1, y2, y3, y4, some (.inl (u5)), y6, y7, some (.inr (.inl (u8))), none, y10, y11, y12] [.inl (t0)] τ (w, σ') := h
        exact j188_350 hsτ h
    · skip
      have er4 := ro2_run rfl r4
      rw [er4] at e r4
      have p5 := x145 hsτ.1 r4
      cases e
      exact Or.inr ⟨b, p5, rfl, rfl⟩
abbrev B188_200 (ih : Int32 → Int32 → mS → mX → mS → Prop) (u5 : Int32) (u6 : Int32) (τ : mS) (w : mX) (σ' : mS) : Prop := (((5 : Int) ≤ (u6).toInt ∧ ((∃ v2, P145 τ (Int32.ofInt (-1)) (Int32.ofInt 1) (.inl (some (.inr (.inl v2)))) τ ∧ ∃ v6 σ7, gF τ σ7 ∧ HL σ7 ∧ P172 τ (Int32.ofInt 13) (Int32.ofInt 0) (Int32.ofInt 0) (Int32.ofInt 0) (Int32.ofInt 0) (Int32.ofInt 0) (Int32.ofInt 0) (Int32.ofInt 0) (.inl (some (.inr (.inl v6)))) σ7 ∧ (((0 : Int) ≤ (u5).toInt ∧ (((v6).toInt < (Int64.ofNat 0).toInt ∧ J188_362 σ7 w σ') ∨ (¬ ((v6).toInt < (Int64.ofNat 0).toInt) ∧ ((∃ v12, P145 σ7 (Int32.ofInt (-1)) (Int32.ofInt 1) (.inl (some (.inr (.inl v12)))) σ7 ∧ (((v12).toInt ≠ ((v2) + (v6)).toInt ∧ J188_362 σ7 w σ') ∨ (¬ ((v12).toInt ≠ ((v2) + (v6)).toInt) ∧ ((∃ v17, P149 σ7 (u5) (.inl (some (.inl v17))) σ7 ∧ ((((v17) - (v17) / (Int32.ofInt 10) * (Int32.ofInt 10)).toInt ≠ (3 : Int) ∧ J188_362 σ7 w σ') ∨ (¬ (((v17) - (v17) / (Int32.ofInt 10) * (Int32.ofInt 10)).toInt ≠ (3 : Int)) ∧ ((∃ v23, P145 σ7 (u5) (Int32.ofInt 0) (.inl (some (.inr (.inl v23)))) σ7 ∧ (((Int64.ofNat 0).toInt < (v23).toInt ∧ J188_331 (u5) (v6) (Int32.ofInt 0) σ7 w σ') ∨ (¬ ((Int64.ofNat 0).toInt < (v23).toInt) ∧ J188_331 (u5) (v6) (Int32.ofInt 1) σ7 w σ'))) ∨ (∃ b, P145 σ7 (u5) (Int32.ofInt 0) (.inr b) σ7 ∧ w = .inr b ∧ σ' = σ7))))) ∨ (∃ b, P149 σ7 (u5) (.inr b) σ7 ∧ w = .inr b ∧ σ' = σ7))))) ∨ (∃ b, P145 σ7 (Int32.ofInt (-1)) (Int32.ofInt 1) (.inr b) σ7 ∧ w = .inr b ∧ σ' = σ7))))) ∨ (¬ ((0 : Int) ≤ (u5).toInt) ∧ (((v6).toInt ≠ (Int64.ofInt (-1000000000)).toInt ∧ w = .inl (some (.inl (Int32.ofInt 0))) ∧ σ' = σ7) ∨ (¬ ((v6).toInt ≠ (Int64.ofInt (-1000000000)).toInt) ∧ w = .inl (some (.inl (Int32.ofInt 1))) ∧ σ' = σ7))))) ∨ (∃ b, P145 τ (Int32.ofInt (-1)) (Int32.ofInt 1) (.inr b) τ ∧ w = .inr b ∧ σ' = τ))) ∨ (¬ ((5 : Int) ≤ (u6).toInt) ∧ ((∃ v29, P149 τ (u6) (.inl (some (.inl v29))) τ ∧ ((((v29) - (v29) / (Int32.ofInt 10) * (Int32.ofInt 10)).toInt ≠ (2 : Int) ∧ ih (u5) ((u6) + Int32.ofInt 1) τ w σ') ∨ (¬ (((v29) - (v29) / (Int32.ofInt 10) * (Int32.ofInt 10)).toInt ≠ (2 : Int)) ∧ ih (u6) ((u6) + Int32.ofInt 1) τ w σ'))) ∨ (∃ b, P149 τ (u6) (.inr b) τ ∧ w = .inr b ∧ σ' = τ))))
def Q188_200 : Nat → Int32 → Int32 → mS → mX → mS → Prop
  | 0 => fun _ _ _ _ _ => False
  | n + 1 => B188_200  (Q188_200  n)
set_option maxRecDepth 100000 in
theorem q188_200 {F : Nat} {σ' : mS} {w : mX} : ∀ N f, f < N → ∀ (u5 : Int32) (u6 : Int32) (y1 : Option mV) (y2 : Option mV) (y3 : Option mV) (y4 : Option mV) (y7 : Option mV) (y8 : Option mV) (y9 : Option mV) (y10 : Option mV) (y11 : Option mV) (y12 : Option mV) (τ : mS), HL τ → EV F f 188 z188 200 [some (rf 11 (0)), y1, y2, y3, y4, some (.inl (u5)), some (.inl (u6)), y7, y8, y9, y10, y11, y12] [] τ (w, σ') → Q188_200  N u5 u6 τ w σ' := by
  intro N
  induction N with
  | zero => intro f hf; omega
  | succ N IH =>
    intro f hf0 u5 u6 y1 y2 y3 y4 y7 y8 y9 y10 y11 y12 τ hsτ h
    have hf : f < N + 1 := hf0
    clear hf0
    show B188_200  (Q188_200  N) u5 u6 τ w σ'
    replace h := ei_p h rfl rfl rfl rfl
    obtain ⟨f, g, h⟩ := h
    replace hf := Nat.lt_of_lt_of_le g (Nat.le_of_lt_succ hf)
    clear g
    replace h : EV F f 188 z188 202 [some (rf 11 (0)), y1, y2, y3, y4, some (.inl (u5)), some (.inl (u6)), y7, y8, y9, y10, y11, y12] [.inl (u6)] τ (w, σ') := h
    replace h := ei_p h rfl rfl rfl rfl
    obtain ⟨f, g, h⟩ := h
    replace hf := Nat.lt_trans g hf
    clear g
    replace h : EV F f 188 z188 203 [some (rf 11 (0)), y1, y2, y3, y4, some (.inl (u5)), some (.inl (u6)), y7, y8, y9, y10, y11, y12] [.inl (Int32.ofInt 5), .inl (u6)] τ (w, σ') := h
    replace h := ei_c h rfl rfl rfl
    rcases h with ⟨hp1, f, g, h⟩ | ⟨hp1, f, g, h⟩
    · skip
      replace hp1 : (5 : Int) ≤ (u6).toInt := ic_ge.mp hp1
      refine Or.inl ⟨hp1, ?_⟩
      replace hf := Nat.lt_trans g hf
      clear g
      replace h : EV F f 188 z188 234 [some (rf 11 (0)), y1, y2, y3, y4, some (.inl (u5)), some (.inl (u6)), y7, y8, y9, y10, y11, y12] [] τ (w, σ') := h
      replace h := ei_p h rfl rfl rfl rfl
      obtain ⟨f, g, h⟩ := h
      replace hf := Nat.lt_trans g hf
      clear g
      replace h : EV F f 188 z188 235 [some (rf 11 (0)), y1, y2, y3, y4, some (.inl (u5)), some (.inl (u6)), y7, y8, y9, y10, y11, y12] [rf 11 (0)] τ (w, σ') := h
      replace h := ei_p h rfl rfl rfl rfl
      obtain ⟨f, g, h⟩ := h
      replace hf := Nat.lt_trans g hf
      clear g
      replace h : EV F f 188 z188 236 [some (rf 11 (0)), y1, y2, y3, y4, some (.inl (u5)), some (.inl (u6)), y7, y8, y9, y10, y11, y12] [.inl (Int32.ofInt (-1)), rf 11 (0)] τ (w, σ') := h
      replace h := ei_p h rfl rfl rfl rfl
      obtain ⟨f, g, h⟩ := h
      replace hf := Nat.lt_trans g hf
      clear g
      replace h : EV F f 188 z188 237 [some (rf 11 (0)), y1, y2, y3, y4, some (.inl (u5)), some (.inl (u6)), y7, y8, y9, y10, y11, y12] [.inl (Int32.ofInt 1), .inl (Int32.ofInt (-1)), rf 11 (0)] τ (w, σ') := h
      replace h := bx_L (ei_v (as := [.inl (Int32.ofInt 1), .inl (Int32.ofInt (-1))]) h rfl rfl rfl) z145_at rfl
      rcases h with ⟨v2, σ3, r4, f, g, h⟩ | ⟨b, σ3, r4, e⟩
      · skip
        have er4 := ro2_run rfl r4
        rw [er4] at h r4
        replace hf := Nat.lt_trans g hf
        clear g
        have p5 := x145 hsτ.1 r4
        refine Or.inl ⟨v2, p5, ?_⟩
        replace h : EV F f 188 z188 240 [some (rf 11 (0)), y1, y2, y3, y4, some (.inl (u5)), some (.inl (u6)), y7, y8, y9, y10, y11, y12] [.inr (.inl (v2))] τ (w, σ') := h
        replace h := ei_p h rfl rfl rfl rfl
        obtain ⟨f, g, h⟩ := h
        replace hf := Nat.lt_trans g hf
        clear g
        replace h : EV F f 188 z188 242 [some (rf 11 (0)), y1, y2, y3, y4, some (.inl (u5)), some (.inr (.inl (v2))), none, y8, y9, y10, y11, y12] [] τ (w, σ') := h
        replace h := ei_p h rfl rfl rfl rfl
        obtain ⟨f, g, h⟩ := h
        replace hf := Nat.lt_trans g hf
        clear g
        replace h : EV F f 188 z188 243 [some (rf 11 (0)), y1, y2, y3, y4, some (.inl (u5)), some (.inr (.inl (v2))), none, y8, y9, y10, y11, y12] [rf 11 (0)] τ (w, σ') := h
        replace h := ei_p h rfl rfl rfl rfl
        obtain ⟨f, g, h⟩ := h
        replace hf := Nat.lt_trans g hf
        clear g
        replace h : EV F f 188 z188 245 [some (rf 11 (0)), y1, y2, y3, y4, some (.inl (u5)), some (.inr (.inl (v2))), none, y8, y9, y10, y11, y12] [.inl (Int32.ofInt 13), rf 11 (0)] τ (w, σ') := h
        replace h := ei_p h rfl rfl rfl rfl
        obtain ⟨f, g, h⟩ := h
        replace hf := Nat.lt_trans g hf
        clear g
        replace h : EV F f 188 z188 246 [some (rf 11 (0)), y1, y2, y3, y4, some (.inl (u5)), some (.inr (.inl (v2))), none, y8, y9, y10, y11, y12] [.inl (Int32.ofInt 0), .inl (Int32.ofInt 13), rf 11 (0)] τ (w, σ') := h
        replace h := ei_p h rfl rfl rfl rfl
        obtain ⟨f, g, h⟩ := h
        replace hf := Nat.lt_trans g hf
        clear g
        replace h : EV F f 188 z188 247 [some (rf 11 (0)), y1, y2, y3, y4, some (.inl (u5)), some (.inr (.inl (v2))), none, y8, y9, y10, y11, y12] [.inl (Int32.ofInt 0), .inl (Int32.ofInt 0), .inl (Int32.ofInt 13), rf 11 (0)] τ (w, σ') := h
        replace h := ei_p h rfl rfl rfl rfl
        obtain ⟨f, g, h⟩ := h
        replace hf := Nat.lt_trans g hf
        clear g
        replace h : EV F f 188 z188 248 [some (rf 11 (0)), y1, y2, y3, y4, some (.inl (u5)), some (.inr (.inl (v2))), none, y8, y9, y10, y11, y12] [.inl (Int32.ofInt 0), .inl (Int32.ofInt 0), .inl (Int32.ofInt 0), .inl (Int32.ofInt 13), rf 11 (0)] τ (w, σ') := h
        replace h := ei_p h rfl rfl rfl rfl
        obtain ⟨f, g, h⟩ := h
        replace hf := Nat.lt_trans g hf
        clear g
        replace h : EV F f 188 z188 249 [some (rf 11 (0)), y1, y2, y3, y4, some (.inl (u5)), some (.inr (.inl (v2))), none, y8, y9, y10, y11, y12] [.inl (Int32.ofInt 0), .inl (Int32.ofInt 0), .inl (Int32.ofInt 0), .inl (Int32.ofInt 0), .inl (Int32.ofInt 13), rf 11 (0)] τ (w, σ') := h
        replace h := ei_p h rfl rfl rfl rfl
        obtain ⟨f, g, h⟩ := h
        replace hf := Nat.lt_trans g hf
        clear g
        replace h : EV F f 188 z188 250 [some (rf 11 (0)), y1, y2, y3, y4, some (.inl (u5)), some (.inr (.inl (v2))), none, y8, y9, y10, y11, y12] [.inl (Int32.ofInt 0), .inl (Int32.ofInt 0), .inl (Int32.ofInt 0), .inl (Int32.ofInt 0), .inl (Int32.ofInt 0), .inl (Int32.ofInt 13), rf 11 (0)] τ (w, σ') := h
        replace h := ei_p h rfl rfl rfl rfl
        obtain ⟨f, g, h⟩ := h
        replace hf := Nat.lt_trans g hf
        clear g
        replace h : EV F f 188 z188 251 [some (rf 11 (0)), y1, y2, y3, y4, some (.inl (u5)), some (.inr (.inl (v2))), none, y8, y9, y10, y11, y12] [.inl (Int32.ofInt 0), .inl (Int32.ofInt 0), .inl (Int32.ofInt 0), .inl (Int32.ofInt 0), .inl (Int32.ofInt 0), .inl (Int32.ofInt 0), .inl (Int32.ofInt 13), rf 11 (0)] τ (w, σ') := h
        replace h := ei_p h rfl rfl rfl rfl
        obtain ⟨f, g, h⟩ := h
        replace hf := Nat.lt_trans g hf
        clear g
        replace h : EV F f 188 z188 252 [some (rf 11 (0)), y1, y2, y3, y4, some (.inl (u5)), some (.inr (.inl (v2))), none, y8, y9, y10, y11, y12] [.inl (Int32.ofInt 0), .inl (Int32.ofInt 0), .inl (Int32.ofInt 0), .inl (Int32.ofInt 0), .inl (Int32.ofInt 0), .inl (Int32.ofInt 0), .inl (Int32.ofInt 0), .inl (Int32.ofInt 13), rf 11 (0)] τ (w, σ') := h
        replace h := bx_L (ei_s (as := [.inl (Int32.ofInt 0), .inl (Int32.ofInt 0), .inl (Int32.ofInt 0), .inl (Int32.ofInt 0), .inl (Int32.ofInt 0), .inl (Int32.ofInt 0), .inl (Int32.ofInt 0), .inl (Int32.ofInt 13), rf 11 (0)]) h rfl (Nat.le_of_ble_eq_true rfl) rfl rfl) z172_at rfl
        rcases h with ⟨v6, σ7, r8, f, g, h⟩ | ⟨b, σ7, r8, e⟩
        rotate_left
        · exact (nt172 (x172 hsτ r8)).elim
        replace hf := Nat.lt_trans g hf
        clear g
        have p9 := x172 hsτ r8
        have hsσ7 : HL σ7 := hl172 p9
        refine ⟨v6, σ7, gF_r r8 rfl hsτ, hsσ7, p9, ?_⟩
        replace h : EV F f 188 z188 255 [some (rf 11 (0)), y1, y2, y3, y4, some (.inl (u5)), some (.inr (.inl (v2))), none, y8, y9, y10, y11, y12] [.inr (.inl (v6))] σ7 (w, σ') := h
        replace h := ei_p h rfl rfl rfl rfl
        obtain ⟨f, g, h⟩ := h
        replace hf := Nat.lt_trans g hf
        clear g
        replace h : EV F f 188 z188 257 [some (rf 11 (0)), y1, y2, y3, y4, some (.inl (u5)), some (.inr (.inl (v2))), none, some (.inr (.inl (v6))), none, y10, y11, y12] [] σ7 (w, σ') := h
        replace h := ei_p h rfl rfl rfl rfl
        obtain ⟨f, g, h⟩ := h
        replace hf := Nat.lt_trans g hf
        clear g
        replace h : EV F f 188 z188 259 [some (rf 11 (0)), y1, y2, y3, y4, some (.inl (u5)), some (.inr (.inl (v2))), none, some (.inr (.inl (v6))), none, y10, y11, y12] [.inl (u5)] σ7 (w, σ') := h
        replace h := ei_c h rfl rfl rfl
        rcases h with ⟨hp10, f, g, h⟩ | ⟨hp10, f, g, h⟩
        · skip
          replace hp10 : (0 : Int) ≤ (u5).toInt := ic_ge.mp hp10
          refine Or.inl ⟨hp10, ?_⟩
          replace hf := Nat.lt_trans g hf
          clear g
          replace h : EV F f 188 z188 279 [some (rf 11 (0)), y1, y2, y3, y4, some (.inl (u5)), some (.inr (.inl (v2))), none, some (.inr (.inl (v6))), none, y10, y11, y12] [] σ7 (w, σ') := h
          replace h := ei_p h rfl rfl rfl rfl
          obtain ⟨f, g, h⟩ := h
          replace hf := Nat.lt_trans g hf
          clear g
          replace h : EV F f 188 z188 281 [some (rf 11 (0)), y1, y2, y3, y4, some (.inl (u5)), some (.inr (.inl (v2))), none, some (.inr (.inl (v6))), none, y10, y11, y12] [.inr (.inl (v6))] σ7 (w, σ') := h
          replace h := ei_p h rfl rfl rfl rfl
          obtain ⟨f, g, h⟩ := h
          replace hf := Nat.lt_trans g hf
          clear g
          replace h : EV F f 188 z188 282 [some (rf 11 (0)), y1, y2, y3, y4, some (.inl (u5)), some (.inr (.inl (v2))), none, some (.inr (.inl (v6))), none, y10, y11, y12] [.inr (.inl (Int64.ofNat 0)), .inr (.inl (v6))] σ7 (w, σ') := h
          replace h := ei_p h rfl rfl rfl rfl
          obtain ⟨f, g, h⟩ := h
          replace hf := Nat.lt_trans g hf
          clear g
          replace h : EV F f 188 z188 283 [some (rf 11 (0)), y1, y2, y3, y4, some (.inl (u5)), some (.inr (.inl (v2))), none, some (.inr (.inl (v6))), none, y10, y11, y12] [.inl (lg_cmp (v6) (Int64.ofNat 0))] σ7 (w, σ') := h
          replace h := ei_c h rfl rfl rfl
          rcases h with ⟨hp11, f, g, h⟩ | ⟨hp11, f, g, h⟩
          · skip
            replace hp11 : (v6).toInt < (Int64.ofNat 0).toInt := (ab_lc .lt _ _).mp hp11
            refine Or.inl ⟨hp11, ?_⟩
            replace hf := Nat.lt_trans g hf
            clear g
            replace h : EV F f 188 z188 362 [some (rf 11 (0)), y1, y2, y3, y4, some (.inl (u5)), some (.inr (.inl (v2))), none, some (.inr (.inl (v6))), none, y10, y11, y12] [] σ7 (w, σ') := h
            exact j188_362 hsσ7 h
          · skip
            replace hp11 : ¬ ((v6).toInt < (Int64.ofNat 0).toInt) := (not_congr (ab_lc .lt _ _)).mp hp11
            refine Or.inr ⟨hp11, ?_⟩
            replace hf := Nat.lt_trans g hf
            clear g
            replace h : EV F f 188 z188 286 [some (rf 11 (0)), y1, y2, y3, y4, some (.inl (u5)), some (.inr (.inl (v2))), none, some (.inr (.inl (v6))), none, y10, y11, y12] [] σ7 (w, σ') := h
            replace h := ei_p h rfl rfl rfl rfl
            obtain ⟨f, g, h⟩ := h
            replace hf := Nat.lt_trans g hf
            clear g
            replace h : EV F f 188 z188 287 [some (rf 11 (0)), y1, y2, y3, y4, some (.inl (u5)), some (.inr (.inl (v2))), none, some (.inr (.inl (v6))), none, y10, y11, y12] [rf 11 (0)] σ7 (w, σ') := h
            replace h := ei_p h rfl rfl rfl rfl
            obtain ⟨f, g, h⟩ := h
            replace hf := Nat.lt_trans g hf
            clear g
            replace h : EV F f 188 z188 288 [some (rf 11 (0)), y1, y2, y3, y4, some (.inl (u5)), some (.inr (.inl (v2))), none, some (.inr (.inl (v6))), none, y10, y11, y12] [.inl (Int32.ofInt (-1)), rf 11 (0)] σ7 (w, σ') := h
            replace h := ei_p h rfl rfl rfl rfl
            obtain ⟨f, g, h⟩ := h
            replace hf := Nat.lt_trans g hf
            clear g
            replace h : EV F f 188 z188 289 [some (rf 11 (0)), y1, y2, y3, y4, some (.inl (u5)), some (.inr (.inl (v2))), none, some (.inr (.inl (v6))), none, y10, y11, y12] [.inl (Int32.ofInt 1), .inl (Int32.ofInt (-1)), rf 11 (0)] σ7 (w, σ') := h
            replace h := bx_L (ei_v (as := [.inl (Int32.ofInt 1), .inl (Int32.ofInt (-1))]) h rfl rfl rfl) z145_at rfl
            rcases h with ⟨v12, σ13, r14, f, g, h⟩ | ⟨b, σ13, r14, e⟩
            · skip
              have er14 := ro2_run rfl r14
              rw [er14] at h r14
              replace hf := Nat.lt_trans g hf
              clear g
              have p15 := x145 hsσ7.1 r14
              refine Or.inl ⟨v12, p15, ?_⟩
              replace h : EV F f 188 z188 292 [some (rf 11 (0)), y1, y2, y3, y4, some (.inl (u5)), some (.inr (.inl (v2))), none, some (.inr (.inl (v6))), none, y10, y11, y12] [.inr (.inl (v12))] σ7 (w, σ') := h
              replace h := ei_p h rfl rfl rfl rfl
              obtain ⟨f, g, h⟩ := h
              replace hf := Nat.lt_trans g hf
              clear g
              replace h : EV F f 188 z188 294 [some (rf 11 (0)), y1, y2, y3, y4, some (.inl (u5)), some (.inr (.inl (v2))), none, some (.inr (.inl (v6))), none, y10, y11, y12] [.inr (.inl (v2)), .inr (.inl (v12))] σ7 (w, σ') := h
              replace h := ei_p h rfl rfl rfl rfl
              obtain ⟨f, g, h⟩ := h
              replace hf := Nat.lt_trans g hf
              clear g
              replace h : EV F f 188 z188 296 [some (rf 11 (0)), y1, y2, y3, y4, some (.inl (u5)), some (.inr (.inl (v2))), none, some (.inr (.inl (v6))), none, y10, y11, y12] [.inr (.inl (v6)), .inr (.inl (v2)), .inr (.inl (v12))] σ7 (w, σ') := h
              replace h := ei_p h rfl rfl rfl rfl
              obtain ⟨f, g, h⟩ := h
              replace hf := Nat.lt_trans g hf
              clear g
              replace h : EV F f 188 z188 297 [some (rf 11 (0)), y1, y2, y3, y4, some (.inl (u5)), some (.inr (.inl (v2))), none, some (.inr (.inl (v6))), none, y10, y11, y12] [.inr (.inl ((v2) + (v6))), .inr (.inl (v12))] σ7 (w, σ') := h
              replace h := ei_p h rfl rfl rfl rfl
              obtain ⟨f, g, h⟩ := h
              replace hf := Nat.lt_trans g hf
              clear g
              replace h : EV F f 188 z188 298 [some (rf 11 (0)), y1, y2, y3, y4, some (.inl (u5)), some (.inr (.inl (v2))), none, some (.inr (.inl (v6))), none, y10, y11, y12] [.inl (lg_cmp (v12) ((v2) + (v6)))] σ7 (w, σ') := h
              replace h := ei_c h rfl rfl rfl
              rcases h with ⟨hp16, f, g, h⟩ | ⟨hp16, f, g, h⟩
              · skip
                replace hp16 : (v12).toInt ≠ ((v2) + (v6)).toInt := (ab_lc .ne _ _).mp hp16
                refine Or.inl ⟨hp16, ?_⟩
                replace hf := Nat.lt_trans g hf
                clear g
                replace h : EV F f 188 z188 362 [some (rf 11 (0)), y1, y2, y3, y4, some (.inl (u5)), some (.inr (.inl (v2))), none, some (.inr (.inl (v6))), none, y10, y11, y12] [] σ7 (w, σ') := h
                exact j188_362 hsσ7 h
              · skip
                replace hp16 : ¬ ((v12).toInt ≠ ((v2) + (v6)).toInt) := (not_congr (ab_lc .ne _ _)).mp hp16
                refine Or.inr ⟨hp16, ?_⟩
                replace hf := Nat.lt_trans g hf
                clear g
                replace h : EV F f 188 z188 301 [some (rf 11 (0)), y1, y2, y3, y4, some (.inl (u5)), some (.inr (.inl (v2))), none, some (.inr (.inl (v6))), none, y10, y11, y12] [] σ7 (w, σ') := h
                replace h := ei_p h rfl rfl rfl rfl
                obtain ⟨f, g, h⟩ := h
                replace hf := Nat.lt_trans g hf
                clear g
                replace h : EV F f 188 z188 302 [some (rf 11 (0)), y1, y2, y3, y4, some (.inl (u5)), some (.inr (.inl (v2))), none, some (.inr (.inl (v6))), none, y10, y11, y12] [rf 11 (0)] σ7 (w, σ') := h
                replace h := ei_p h rfl rfl rfl rfl
                obtain ⟨f, g, h⟩ := h
                replace hf := Nat.lt_trans g hf
                clear g
                replace h : EV F f 188 z188 304 [some (rf 11 (0)), y1, y2, y3, y4, some (.inl (u5)), some (.inr (.inl (v2))), none, some (.inr (.inl (v6))), none, y10, y11, y12] [.inl (u5), rf 11 (0)] σ7 (w, σ') := h
                replace h := bx_I (ei_v (as := [.inl (u5)]) h rfl rfl rfl) z149_at (Or.inl rfl)
                rcases h with ⟨v17, σ18, r19, f, g, h⟩ | ⟨b, σ18, r19, e⟩
                · skip
                  have er19 := ro2_run rfl r19
                  rw [er19] at h r19
                  replace hf := Nat.lt_trans g hf
                  clear g
                  have p20 := x149 hsσ7.1 r19
                  refine Or.inl ⟨v17, p20, ?_⟩
                  replace h : EV F f 188 z188 307 [some (rf 11 (0)), y1, y2, y3, y4, some (.inl (u5)), some (.inr (.inl (v2))), none, some (.inr (.inl (v6))), none, y10, y11, y12] [.inl (v17)] σ7 (w, σ') := h
                  replace h := ei_p h rfl rfl rfl rfl
                  obtain ⟨f, g, h⟩ := h
                  replace hf := Nat.lt_trans g hf
                  clear g
                  replace h : EV F f 188 z188 309 [some (rf 11 (0)), y1, y2, y3, y4, some (.inl (u5)), some (.inr (.inl (v2))), none, some (.inr (.inl (v6))), none, y10, y11, y12] [.inl (Int32.ofInt 10), .inl (v17)] σ7 (w, σ') := h
                  replace h := ei_irem h rfl
                  obtain ⟨hd21, f, g, h⟩ := h
                  replace hf := Nat.lt_trans g hf
                  clear g
                  replace h : EV F f 188 z188 310 [some (rf 11 (0)), y1, y2, y3, y4, some (.inl (u5)), some (.inr (.inl (v2))), none, some (.inr (.inl (v6))), none, y10, y11, y12] [.inl ((v17) - (v17) / (Int32.ofInt 10) * (Int32.ofInt 10))] σ7 (w, σ') := h
                  replace h := ei_p h rfl rfl rfl rfl
                  obtain ⟨f, g, h⟩ := h
                  replace hf := Nat.lt_trans g hf
                  clear g
                  replace h : EV F f 188 z188 311 [some (rf 11 (0)), y1, y2, y3, y4, some (.inl (u5)), some (.inr (.inl (v2))), none, some (.inr (.inl (v6))), none, y10, y11, y12] [.inl (Int32.ofInt 3), .inl ((v17) - (v17) / (Int32.ofInt 10) * (Int32.ofInt 10))] σ7 (w, σ') := h
                  replace h := ei_c h rfl rfl rfl
                  rcases h with ⟨hp22, f, g, h⟩ | ⟨hp22, f, g, h⟩
                  · skip
                    replace hp22 : ((v17) - (v17) / (Int32.ofInt 10) * (Int32.ofInt 10)).toInt ≠ (3 : Int) := ic_ne.mp hp22
                    refine Or.inl ⟨hp22, ?_⟩
                    replace hf := Nat.lt_trans g hf
                    clear g
                    replace h : EV F f 188 z188 362 [some (rf 11 (0)), y1, y2, y3, y4, some (.inl (u5)), some (.inr (.inl (v2))), none, some (.inr (.inl (v6))), none, y10, y11, y12] [] σ7 (w, σ') := h
                    exact j188_362 hsσ7 h
                  · skip
                    replace hp22 : ¬ (((v17) - (v17) / (Int32.ofInt 10) * (Int32.ofInt 10)).toInt ≠ (3 : Int)) := (not_congr ic_ne).mp hp22
                    refine Or.inr ⟨hp22, ?_⟩
                    replace hf := Nat.lt_trans g hf
                    clear g
                    replace h : EV F f 188 z188 314 [some (rf 11 (0)), y1, y2, y3, y4, some (.inl (u5)), some (.inr (.inl (v2))), none, some (.inr (.inl (v6))), none, y10, y11, y12] [] σ7 (w, σ') := h
                    replace h := ei_p h rfl rfl rfl rfl
                    obtain ⟨f, g, h⟩ := h
                    replace hf := Nat.lt_trans g hf
                    clear g
                    replace h : EV F f 188 z188 315 [some (rf 11 (0)), y1, y2, y3, y4, some (.inl (u5)), some (.inr (.inl (v2))), none, some (.inr (.inl (v6))), none, y10, y11, y12] [rf 11 (0)] σ7 (w, σ') := h
                    replace h := ei_p h rfl rfl rfl rfl
                    obtain ⟨f, g, h⟩ := h
                    replace hf := Nat.lt_trans g hf
                    clear g
                    replace h : EV F f 188 z188 317 [some (rf 11 (0)), y1, y2, y3, y4, some (.inl (u5)), some (.inr (.inl (v2))), none, some (.inr (.inl (v6))), none, y10, y11, y12] [.inl (u5), rf 11 (0)] σ7 (w, σ') := h
                    replace h := ei_p h rfl rfl rfl rfl
                    obtain ⟨f, g, h⟩ := h
                    replace hf := Nat.lt_trans g hf
                    clear g
                    replace h : EV F f 188 z188 318 [some (rf 11 (0)), y1, y2, y3, y4, some (.inl (u5)), some (.inr (.inl (v2))), none, some (.inr (.inl (v6))), none, y10, y11, y12] [.inl (Int32.ofInt 0), .inl (u5), rf 11 (0)] σ7 (w, σ') := h
                    replace h := bx_L (ei_v (as := [.inl (Int32.ofInt 0), .inl (u5)]) h rfl rfl rfl) z145_at rfl
                    rcases h with ⟨v23, σ24, r25, f, g, h⟩ | ⟨b, σ24, r25, e⟩
                    · skip
                      have er25 := ro2_run rfl r25
                      rw [er25] at h r25
                      replace hf := Nat.lt_trans g hf
                      clear g
                      have p26 := x145 hsσ7.1 r25
                      refine Or.inl ⟨v23, p26, ?_⟩
                      replace h : EV F f 188 z188 321 [some (rf 11 (0)), y1, y2, y3, y4, some (.inl (u5)), some (.inr (.inl (v2))), none, some (.inr (.inl (v6))), none, y10, y11, y12] [.inr (.inl (v23))] σ7 (w, σ') := h
                      replace h := ei_p h rfl rfl rfl rfl
                      obtain ⟨f, g, h⟩ := h
                      replace hf := Nat.lt_trans g hf
                      clear g
                      replace h : EV F f 188 z188 322 [some (rf 11 (0)), y1, y2, y3, y4, some (.inl (u5)), some (.inr (.inl (v2))), none, some (.inr (.inl (v6))), none, y10, y11, y12] [.inr (.inl (Int64.ofNat 0)), .inr (.inl (v23))] σ7 (w, σ') := h
                      replace h := ei_p h rfl rfl rfl rfl
                      obtain ⟨f, g, h⟩ := h
                      replace hf := Nat.lt_trans g hf
                      clear g
                      replace h : EV F f 188 z188 323 [some (rf 11 (0)), y1, y2, y3, y4, some (.inl (u5)), some (.inr (.inl (v2))), none, some (.inr (.inl (v6))), none, y10, y11, y12] [.inl (lg_cmp (v23) (Int64.ofNat 0))] σ7 (w, σ') := h
                      replace h := ei_c h rfl rfl rfl
                      rcases h with ⟨hp27, f, g, h⟩ | ⟨hp27, f, g, h⟩
                      · skip
                        replace hp27 : (Int64.ofNat 0).toInt < (v23).toInt := (ab_lc .gt _ _).mp hp27
                        refine Or.inl ⟨hp27, ?_⟩
                        replace hf := Nat.lt_trans g hf
                        clear g
                        replace h : EV F f 188 z188 330 [some (rf 11 (0)), y1, y2, y3, y4, some (.inl (u5)), some (.inr (.inl (v2))), none, some (.inr (.inl (v6))), none, y10, y11, y12] [] σ7 (w, σ') := h
                        replace h := ei_p h rfl rfl rfl rfl
                        obtain ⟨f, g, h⟩ := h
                        replace hf := Nat.lt_trans g hf
                        clear g
                        replace h : EV F f 188 z188 331 [some (rf 11 (0)), y1, y2, y3, y4, some (.inl (u5)), some (.inr (.inl (v2))), none, some (.inr (.inl (v6))), none, y10, y11, y12] [.inl (Int32.ofInt 0)] σ7 (w, σ') := h
                        exact j188_331 hsσ7 h
                      · skip
                        replace hp27 : ¬ ((Int64.ofNat 0).toInt < (v23).toInt) := (not_congr (ab_lc .gt _ _)).mp hp27
                        refine Or.inr ⟨hp27, ?_⟩
                        replace hf := Nat.lt_trans g hf
                        clear g
                        replace h : EV F f 188 z188 326 [some (rf 11 (0)), y1, y2, y3, y4, some (.inl (u5)), some (.inr (.inl (v2))), none, some (.inr (.inl (v6))), none, y10, y11, y12] [] σ7 (w, σ') := h
                        replace h := ei_p h rfl rfl rfl rfl
                        obtain ⟨f, g, h⟩ := h
                        replace hf := Nat.lt_trans g hf
                        clear g
                        replace h : EV F f 188 z188 327 [some (rf 11 (0)), y1, y2, y3, y4, some (.inl (u5)), some (.inr (.inl (v2))), none, some (.inr (.inl (v6))), none, y10, y11, y12] [.inl (Int32.ofInt 1)] σ7 (w, σ') := h
                        replace h := ei_p h rfl rfl rfl rfl
                        obtain ⟨f, g, h⟩ := h
                        replace hf := Nat.lt_trans g hf
                        clear g
                        replace h : EV F f 188 z188 331 [some (rf 11 (0)), y1, y2, y3, y4, some (.inl (u5)), some (.inr (.inl (v2))), none, some (.inr (.inl (v6))), none, y10, y11, y12] [.inl (Int32.ofInt 1)] σ7 (w, σ') := h
                        exact j188_331 hsσ7 h
                    · skip
                      have er25 := ro2_run rfl r25
                      rw [er25] at e r25
                      have p26 := x145 hsσ7.1 r25
                      cases e
                      exact Or.inr ⟨b, p26, rfl, rfl⟩
                · skip
                  have er19 := ro2_run rfl r19
                  rw [er19] at e r19
                  have p20 := x149 hsσ7.1 r19
                  cases e
                  exact Or.inr ⟨b, p20, rfl, rfl⟩
            · skip
              have er14 := ro2_run rfl r14
              rw [er14] at e r14
              have p15 := x145 hsσ7.1 r14
              cases e
              exact Or.inr ⟨b, p15, rfl, rfl⟩
        · skip
          replace hp10 : ¬ ((0 : Int) ≤ (u5).toInt) := (not_congr ic_ge).mp hp10
          refine Or.inr ⟨hp10, ?_⟩
          replace hf := Nat.lt_trans g hf
          clear g
          replace h : EV F f 188 z188 262 [some (rf 11 (0)), y1, y2, y3, y4, some (.inl (u5)), some (.inr (.inl (v2))), none, some (.inr (.inl (v6))), none, y10, y11, y12] [] σ7 (w, σ') := h
          replace h := ei_p h rfl rfl rfl rfl
          obtain ⟨f, g, h⟩ := h
          replace hf := Nat.lt_trans g hf
          clear g
          replace h : EV F f 188 z188 264 [some (rf 11 (0)), y1, y2, y3, y4, some (.inl (u5)), some (.inr (.inl (v2))), none, some (.inr (.inl (v6))), none, y10, y11, y12] [.inr (.inl (v6))] σ7 (w, σ') := h
          replace h := ei_p h rfl rfl rfl rfl
          obtain ⟨f, g, h⟩ := h
          replace hf := Nat.lt_trans g hf
          clear g
          replace h : EV F f 188 z188 267 [some (rf 11 (0)), y1, y2, y3, y4, some (.inl (u5)), some (.inr (.inl (v2))), none, some (.inr (.inl (v6))), none, y10, y11, y12] [.inr (.inl (Int64.ofInt (-1000000000))), .inr (.inl (v6))] σ7 (w, σ') := h
          replace h := ei_p h rfl rfl rfl rfl
          obtain ⟨f, g, h⟩ := h
          replace hf := Nat.lt_trans g hf
          clear g
          replace h : EV F f 188 z188 268 [some (rf 11 (0)), y1, y2, y3, y4, some (.inl (u5)), some (.inr (.inl (v2))), none, some (.inr (.inl (v6))), none, y10, y11, y12] [.inl (lg_cmp (v6) (Int64.ofInt (-1000000000)))] σ7 (w, σ') := h
          replace h := ei_c h rfl rfl rfl
          rcases h with ⟨hp28, f, g, h⟩ | ⟨hp28, f, g, h⟩
          · skip
            replace hp28 : (v6).toInt ≠ (Int64.ofInt (-1000000000)).toInt := (ab_lc .ne _ _).mp hp28
            refine Or.inl ⟨hp28, ?_⟩
            replace hf := Nat.lt_trans g hf
            clear g
            replace h : EV F f 188 z188 275 [some (rf 11 (0)), y1, y2, y3, y4, some (.inl (u5)), some (.inr (.inl (v2))), none, some (.inr (.inl (v6))), none, y10, y11, y12] [] σ7 (w, σ') := h
            replace h := ei_p h rfl rfl rfl rfl
            obtain ⟨f, g, h⟩ := h
            replace hf := Nat.lt_trans g hf
            clear g
            replace h : EV F f 188 z188 276 [some (rf 11 (0)), y1, y2, y3, y4, some (.inl (u5)), some (.inr (.inl (v2))), none, some (.inr (.inl (v6))), none, y10, y11, y12] [.inl (Int32.ofInt 0)] σ7 (w, σ') := h
            replace h := ei_p h rfl rfl rfl rfl
            obtain ⟨f, g, h⟩ := h
            replace hf := Nat.lt_trans g hf
            clear g
            replace h : EV F f 188 z188 363 [some (rf 11 (0)), y1, y2, y3, y4, some (.inl (u5)), some (.inr (.inl (v2))), none, some (.inr (.inl (v6))), none, y10, y11, y12] [.inl (Int32.ofInt 0)] σ7 (w, σ') := h
            have e := ei_iret h rfl
            cases e
            exact ⟨rfl, rfl⟩
          · skip
            replace hp28 : ¬ ((v6).toInt ≠ (Int64.ofInt (-1000000000)).toInt) := (not_congr (ab_lc .ne _ _)).mp hp28
            refine Or.inr ⟨hp28, ?_⟩
            replace hf := Nat.lt_trans g hf
            clear g
            replace h : EV F f 188 z188 271 [some (rf 11 (0)), y1, y2, y3, y4, some (.inl (u5)), some (.inr (.inl (v2))), none, some (.inr (.inl (v6))), none, y10, y11, y12] [] σ7 (w, σ') := h
            replace h := ei_p h rfl rfl rfl rfl
            obtain ⟨f, g, h⟩ := h
            replace hf := Nat.lt_trans g hf
            clear g
            replace h : EV F f 188 z188 272 [some (rf 11 (0)), y1, y2, y3, y4, some (.inl (u5)), some (.inr (.inl (v2))), none, some (.inr (.inl (v6))), none, y10, y11, y12] [.inl (Int32.ofInt 1)] σ7 (w, σ') := h
            replace h := ei_p h rfl rfl rfl rfl
            obtain ⟨f, g, h⟩ := h
            replace hf := Nat.lt_trans g hf
            clear g
            replace h : EV F f 188 z188 363 [some (rf 11 (0)), y1, y2, y3, y4, some (.inl (u5)), some (.inr (.inl (v2))), none, some (.inr (.inl (v6))), none, y10, y11, y12] [.inl (Int32.ofInt 1)] σ7 (w, σ') := h
            have e := ei_iret h rfl
            cases e
            exact ⟨rfl, rfl⟩
      · skip
        have er4 := ro2_run rfl r4
        rw [er4] at e r4
        have p5 := x145 hsτ.1 r4
        cases e
        exact Or.inr ⟨b, p5, rfl, rfl⟩
    · skip
      replace hp1 : ¬ ((5 : Int) ≤ (u6).toInt) := (not_congr ic_ge).mp hp1
      refine Or.inr ⟨hp1, ?_⟩
      replace hf := Nat.lt_trans g hf
      clear g
      replace h : EV F f 188 z188 206 [some (rf 11 (0)), y1, y2, y3, y4, some (.inl (u5)), some (.inl (u6)), y7, y8, y9, y10, y11, y12] [] τ (w, σ') := h
      replace h := ei_p h rfl rfl rfl rfl
      obtain ⟨f, g, h⟩ := h
      replace hf := Nat.lt_trans g hf
      clear g
      replace h : EV F f 188 z188 207 [some (rf 11 (0)), y1, y2, y3, y4, some (.inl (u5)), some (.inl (u6)), y7, y8, y9, y10, y11, y12] [rf 11 (0)] τ (w, σ') := h
      replace h := ei_p h rfl rfl rfl rfl
      obtain ⟨f, g, h⟩ := h
      replace hf := Nat.lt_trans g hf
      clear g
      replace h : EV F f 188 z188 209 [some (rf 11 (0)), y1, y2, y3, y4, some (.inl (u5)), some (.inl (u6)), y7, y8, y9, y10, y11, y12] [.inl (u6), rf 11 (0)] τ (w, σ') := h
      replace h := bx_I (ei_v (as := [.inl (u6)]) h rfl rfl rfl) z149_at (Or.inl rfl)
      rcases h with ⟨v29, σ30, r31, f, g, h⟩ | ⟨b, σ30, r31, e⟩
      · skip
        have er31 := ro2_run rfl r31
        rw [er31] at h r31
        replace hf := Nat.lt_trans g hf
        clear g
        have p32 := x149 hsτ.1 r31
        refine Or.inl ⟨v29, p32, ?_⟩
        replace h : EV F f 188 z188 212 [some (rf 11 (0)), y1, y2, y3, y4, some (.inl (u5)), some (.inl (u6)), y7, y8, y9, y10, y11, y12] [.inl (v29)] τ (w, σ') := h
        replace h := ei_p h rfl rfl rfl rfl
        obtain ⟨f, g, h⟩ := h
        replace hf := Nat.lt_trans g hf
        clear g
        replace h : EV F f 188 z188 214 [some (rf 11 (0)), y1, y2, y3, y4, some (.inl (u5)), some (.inl (u6)), y7, y8, y9, y10, y11, y12] [.inl (Int32.ofInt 10), .inl (v29)] τ (w, σ') := h
        replace h := ei_irem h rfl
        obtain ⟨hd33, f, g, h⟩ := h
        replace hf := Nat.lt_trans g hf
        clear g
        replace h : EV F f 188 z188 215 [some (rf 11 (0)), y1, y2, y3, y4, some (.inl (u5)), some (.inl (u6)), y7, y8, y9, y10, y11, y12] [.inl ((v29) - (v29) / (Int32.ofInt 10) * (Int32.ofInt 10))] τ (w, σ') := h
        replace h := ei_p h rfl rfl rfl rfl
        obtain ⟨f, g, h⟩ := h
        replace hf := Nat.lt_trans g hf
        clear g
        replace h : EV F f 188 z188 216 [some (rf 11 (0)), y1, y2, y3, y4, some (.inl (u5)), some (.inl (u6)), y7, y8, y9, y10, y11, y12] [.inl (Int32.ofInt 2), .inl ((v29) - (v29) / (Int32.ofInt 10) * (Int32.ofInt 10))] τ (w, σ') := h
        replace h := ei_c h rfl rfl rfl
        rcases h with ⟨hp34, f, g, h⟩ | ⟨hp34, f, g, h⟩
        · skip
          replace hp34 : ((v29) - (v29) / (Int32.ofInt 10) * (Int32.ofInt 10)).toInt ≠ (2 : Int) := ic_ne.mp hp34
          refine Or.inl ⟨hp34, ?_⟩
          replace hf := Nat.lt_trans g hf
          clear g
          replace h : EV F f 188 z188 224 [some (rf 11 (0)), y1, y2, y3, y4, some (.inl (u5)), some (.inl (u6)), y7, y8, y9, y10, y11, y12] [] τ (w, σ') := h
          replace h := ei_p h rfl rfl rfl rfl
          obtain ⟨f, g, h⟩ := h
          replace hf := Nat.lt_trans g hf
          clear g
          replace h : EV F f 188 z188 226 [some (rf 11 (0)), y1, y2, y3, y4, some (.inl (u5)), some (.inl (u6)), y7, y8, y9, y10, y11, y12] [.inl (u5)] τ (w, σ') := h
          replace h := ei_p h rfl rfl rfl rfl
          obtain ⟨f, g, h⟩ := h
          replace hf := Nat.lt_trans g hf
          clear g
          replace h : EV F f 188 z188 228 (m_sto [some (rf 11 (0)), y1, y2, y3, y4, some (.inl (u5)), some (.inl (u6)), y7, y8, y9, y10, y11, y12] 5 (.inl (u5))) [] τ (w, σ') := h
          obtain ⟨y_35, e36⟩ := sto_ex [some (rf 11 (0)), y1, y2, y3, y4, some (.inl (u5)), some (.inl (u6)), y7, y8, y9, y10, y11, y12] 5 (.inl (u5)) (by decide)
          rw [e36] at h
          replace h : EV F f 188 z188 228 [some (rf 11 (0)), y1, y2, y3, y_35, some (.inl (u5)), some (.inl (u6)), y7, y8, y9, y10, y11, y12] [] τ (w, σ') := h
          replace h := ei_p h rfl rfl rfl rfl
          obtain ⟨f, g, h⟩ := h
          replace hf := Nat.lt_trans g hf
          clear g
          replace h : EV F f 188 z188 231 [some (rf 11 (0)), y1, y2, y3, y_35, some (.inl (u5)), some (.inl ((u6) + Int32.ofInt 1)), y7, y8, y9, y10, y11, y12] [] τ (w, σ') := h
          replace h := ei_p h rfl rfl rfl rfl
          obtain ⟨f, g, h⟩ := h
          replace hf := Nat.lt_trans g hf
          clear g
          replace h : EV F f 188 z188 200 [some (rf 11 (0)), y1, y2, y3, y_35, some (.inl (u5)), some (.inl ((u6) + Int32.ofInt 1)), y7, y8, y9, y10, y11, y12] [] τ (w, σ') := h
          exact IH f hf (u5) ((u6) + Int32.ofInt 1) y1 y2 y3 y_35 y7 y8 y9 y10 y11 y12 τ hsτ h
        · skip
          replace hp34 : ¬ (((v29) - (v29) / (Int32.ofInt 10) * (Int32.ofInt 10)).toInt ≠ (2 : Int)) := (not_congr ic_ne).mp hp34
          refine Or.inr ⟨hp34, ?_⟩
          replace hf := Nat.lt_trans g hf
          clear g
          replace h : EV F f 188 z188 219 [some (rf 11 (0)), y1, y2, y3, y4, some (.inl (u5)), some (.inl (u6)), y7, y8, y9, y10, y11, y12] [] τ (w, σ') := h
          replace h := ei_p h rfl rfl rfl rfl
          obtain ⟨f, g, h⟩ := h
          replace hf := Nat.lt_trans g hf
          clear g
          replace h : EV F f 188 z188 221 [some (rf 11 (0)), y1, y2, y3, y4, some (.inl (u5)), some (.inl (u6)), y7, y8, y9, y10, y11, y12] [.inl (u6)] τ (w, σ') := h
          replace h := ei_p h rfl rfl rfl rfl
          obtain ⟨f, g, h⟩ := h
          replace hf := Nat.lt_trans g hf
          clear g
          replace h : EV F f 188 z188 226 [some (rf 11 (0)), y1, y2, y3, y4, some (.inl (u5)), some (.inl (u6)), y7, y8, y9, y10, y11, y12] [.inl (u6)] τ (w, σ') := h
          replace h := ei_p h rfl rfl rfl rfl
          obtain ⟨f, g, h⟩ := h
          replace hf := Nat.lt_trans g hf
          clear g
          replace h : EV F f 188 z188 228 (m_sto [some (rf 11 (0)), y1, y2, y3, y4, some (.inl (u5)), some (.inl (u6)), y7, y8, y9, y10, y11, y12] 5 (.inl (u6))) [] τ (w, σ') := h
          obtain ⟨y_37, e38⟩ := sto_ex [some (rf 11 (0)), y1, y2, y3, y4, some (.inl (u5)), some (.inl (u6)), y7, y8, y9, y10, y11, y12] 5 (.inl (u6)) (by decide)
          rw [e38] at h
          replace h : EV F f 188 z188 228 [some (rf 11 (0)), y1, y2, y3, y_37, some (.inl (u6)), some (.inl (u6)), y7, y8, y9, y10, y11, y12] [] τ (w, σ') := h
          replace h := ei_p h rfl rfl rfl rfl
          obtain ⟨f, g, h⟩ := h
          replace hf := Nat.lt_trans g hf
          clear g
          replace h : EV F f 188 z188 231 [some (rf 11 (0)), y1, y2, y3, y_37, some (.inl (u6)), some (.inl ((u6) + Int32.ofInt 1)), y7, y8, y9, y10, y11, y12] [] τ (w, σ') := h
          replace h := ei_p h rfl rfl rfl rfl
          obtain ⟨f, g, h⟩ := h
          replace hf := Nat.lt_trans g hf
          clear g
          replace h : EV F f 188 z188 200 [some (rf 11 (0)), y1, y2, y3, y_37, some (.inl (u6)), some (.inl ((u6) + Int32.ofInt 1)), y7, y8, y9, y10, y11, y12] [] τ (w, σ') := h
          exact IH f hf (u6) ((u6) + Int32.ofInt 1) y1 y2 y3 y_37 y7 y8 y9 y10 y11 y12 τ hsτ h
      · skip
        have er31 := ro2_run rfl r31
        rw [er31] at e r31
        have p32 := x149 hsτ.1 r31
        cases e
        exact Or.inr ⟨b, p32, rfl, rfl⟩
def J188_98 (u11 : Int64) (τ : mS) (w : mX) (σ' : mS) : Prop := (((u11).toInt ≠ (Int64.ofInt (-3000000000)).toInt ∧ w = .inl (some (.inl (Int32.ofInt 0))) ∧ σ' = τ) ∨ (¬ ((u11).toInt ≠ (Int64.ofInt (-3000000000)).toInt) ∧ w = .inl (some (.inl (Int32.ofInt 1))) ∧ σ' = τ))
set_option maxRecDepth 100000 in
theorem j188_98 {F f : Nat} {σ' τ : mS} {u11 : Int64} {y0 : Option mV} {y1 : Option mV} {y2 : Option mV} {y3 : Option mV} {y4 : Option mV} {y5 : Option mV} {y6 : Option mV} {y7 : Option mV} {y8 : Option mV} {y9 : Option mV} {y10 : Option mV} {w : mX} (hsτ : HL τ) (h : EV F f 188 z188 98 [y0, y1, y2, y3, y4, y5, y6, y7, y8, y9, y10, some (.inr (.inl (u11))), none] [] τ (w, σ')) : J188_98 u11 τ w σ' := by
  unfold J188_98
  replace h := ei_p h rfl rfl rfl rfl
  obtain ⟨f, g, h⟩ := h
  clear g
  replace h : EV F f 188 z188 100 [y0, y1, y2, y3, y4, y5, y6, y7, y8, y9, y10, some (.inr (.inl (u11))), none] [.inr (.inl (u11))] τ (w, σ') := h
  replace h := ei_p h rfl rfl rfl rfl
  obtain ⟨f, g, h⟩ := h
  clear g
  replace h : EV F f 188 z188 103 [y0, y1, y2, y3, y4, y5, y6, y7, y8, y9, y10, some (.inr (.inl (u11))), none] [.inr (.inl (Int64.ofInt (-3000000000))), .inr (.inl (u11))] τ (w, σ') := h
  replace h := ei_p h rfl rfl rfl rfl
  obtain ⟨f, g, h⟩ := h
  clear g
  replace h : EV F f 188 z188 104 [y0, y1, y2, y3, y4, y5, y6, y7, y8, y9, y10, some (.inr (.inl (u11))), none] [.inl (lg_cmp (u11) (Int64.ofInt (-3000000000)))] τ (w, σ') := h
  replace h := ei_c h rfl rfl rfl
  rcases h with ⟨hp1, f, g, h⟩ | ⟨hp1, f, g, h⟩
  · skip
    replace hp1 : (u11).toInt ≠ (Int64.ofInt (-3000000000)).toInt := (ab_lc .ne _ _).mp hp1
    refine Or.inl ⟨hp1, ?_⟩
    clear g
    replace h : EV F f 188 z188 111 [y0, y1, y2, y3, y4, y5, y6, y7, y8, y9, y10, some (.inr (.inl (u11))), none] [] τ (w, σ') := h
    replace h := ei_p h rfl rfl rfl rfl
    obtain ⟨f, g, h⟩ := h
    clear g
    replace h : EV F f 188 z188 112 [y0, y1, y2, y3, y4, y5, y6, y7, y8, y9, y10, some (.inr (.inl (u11))), none] [.inl (Int32.ofInt 0)] τ (w, σ') := h
    have e := ei_iret h rfl
    cases e
    exact ⟨rfl, rfl⟩
  · skip
    replace hp1 : ¬ ((u11).toInt ≠ (Int64.ofInt (-3000000000)).toInt) := (not_congr (ab_lc .ne _ _)).mp hp1
    refine Or.inr ⟨hp1, ?_⟩
    clear g
    replace h : EV F f 188 z188 107 [y0, y1, y2, y3, y4, y5, y6, y7, y8, y9, y10, some (.inr (.inl (u11))), none] [] τ (w, σ') := h
    replace h := ei_p h rfl rfl rfl rfl
    obtain ⟨f, g, h⟩ := h
    clear g
    replace h : EV F f 188 z188 108 [y0, y1, y2, y3, y4, y5, y6, y7, y8, y9, y10, some (.inr (.inl (u11))), none] [.inl (Int32.ofInt 1)] τ (w, σ') := h
    replace h := ei_p h rfl rfl rfl rfl
    obtain ⟨f, g, h⟩ := h
    clear g
    replace h : EV F f 188 z188 112 [y0, y1, y2, y3, y4, y5, y6, y7, y8, y9, y10, some (.inr (.inl (u11))), none] [.inl (Int32.ofInt 1)] τ (w, σ') := h
    have e := ei_iret h rfl
    cases e
    exact ⟨rfl, rfl⟩
def J188_129 (u11 : Int64) (τ : mS) (w : mX) (σ' : mS) : Prop := (((u11).toInt ≠ (Int64.ofInt (-1000000000)).toInt ∧ w = .inl (some (.inl (Int32.ofInt 0))) ∧ σ' = τ) ∨ (¬ ((u11).toInt ≠ (Int64.ofInt (-1000000000)).toInt) ∧ w = .inl (some (.inl (Int32.ofInt 1))) ∧ σ' = τ))
set_option maxRecDepth 100000 in
theorem j188_129 {F f : Nat} {σ' τ : mS} {u11 : Int64} {y0 : Option mV} {y1 : Option mV} {y2 : Option mV} {y3 : Option mV} {y4 : Option mV} {y5 : Option mV} {y6 : Option mV} {y7 : Option mV} {y8 : Option mV} {y9 : Option mV} {y10 : Option mV} {w : mX} (hsτ : HL τ) (h : EV F f 188 z188 129 [y0, y1, y2, y3, y4, y5, y6, y7, y8, y9, y10, some (.inr (.inl (u11))), none] [] τ (w, σ')) : J188_129 u11 τ w σ' := by
  unfold J188_129
  replace h := ei_p h rfl rfl rfl rfl
  obtain ⟨f, g, h⟩ := h
  clear g
  replace h : EV F f 188 z188 131 [y0, y1, y2, y3, y4, y5, y6, y7, y8, y9, y10, some (.inr (.inl (u11))), none] [.inr (.inl (u11))] τ (w, σ') := h
  replace h := ei_p h rfl rfl rfl rfl
  obtain ⟨f, g, h⟩ := h
  clear g
  replace h : EV F f 188 z188 134 [y0, y1, y2, y3, y4, y5, y6, y7, y8, y9, y10, some (.inr (.inl (u11))), none] [.inr (.inl (Int64.ofInt (-1000000000))), .inr (.inl (u11))] τ (w, σ') := h
  replace h := ei_p h rfl rfl rfl rfl
  obtain ⟨f, g, h⟩ := h
  clear g
  replace h : EV F f 188 z188 135 [y0, y1, y2, y3, y4, y5, y6, y7, y8, y9, y10, some (.inr (.inl (u11))), none] [.inl (lg_cmp (u11) (Int64.ofInt (-1000000000)))] τ (w, σ') := h
  replace h := ei_c h rfl rfl rfl
  rcases h with ⟨hp1, f, g, h⟩ | ⟨hp1, f, g, h⟩
  · skip
    replace hp1 : (u11).toInt ≠ (Int64.ofInt (-1000000000)).toInt := (ab_lc .ne _ _).mp hp1
    refine Or.inl ⟨hp1, ?_⟩
    clear g
    replace h : EV F f 188 z188 142 [y0, y1, y2, y3, y4, y5, y6, y7, y8, y9, y10, some (.inr (.inl (u11))), none] [] τ (w, σ') := h
    replace h := ei_p h rfl rfl rfl rfl
    obtain ⟨f, g, h⟩ := h
    clear g
    replace h : EV F f 188 z188 143 [y0, y1, y2, y3, y4, y5, y6, y7, y8, y9, y10, some (.inr (.inl (u11))), none] [.inl (Int32.ofInt 0)] τ (w, σ') := h
    replace h := ei_p h rfl rfl rfl rfl
    obtain ⟨f, g, h⟩ := h
    clear g
    replace h : EV F f 188 z188 188 [y0, y1, y2, y3, y4, y5, y6, y7, y8, y9, y10, some (.inr (.inl (u11))), none] [.inl (Int32.ofInt 0)] τ (w, σ') := h
    have e := ei_iret h rfl
    cases e
    exact ⟨rfl, rfl⟩
  · skip
    replace hp1 : ¬ ((u11).toInt ≠ (Int64.ofInt (-1000000000)).toInt) := (not_congr (ab_lc .ne _ _)).mp hp1
    refine Or.inr ⟨hp1, ?_⟩
    clear g
    replace h : EV F f 188 z188 138 [y0, y1, y2, y3, y4, y5, y6, y7, y8, y9, y10, some (.inr (.inl (u11))), none] [] τ (w, σ') := h
    replace h := ei_p h rfl rfl rfl rfl
    obtain ⟨f, g, h⟩ := h
    clear g
    replace h : EV F f 188 z188 139 [y0, y1, y2, y3, y4, y5, y6, y7, y8, y9, y10, some (.inr (.inl (u11))), none] [.inl (Int32.ofInt 1)] τ (w, σ') := h
    replace h := ei_p h rfl rfl rfl rfl
    obtain ⟨f, g, h⟩ := h
    clear g
    replace h : EV F f 188 z188 188 [y0, y1, y2, y3, y4, y5, y6, y7, y8, y9, y10, some (.inr (.inl (u11))), none] [.inl (Int32.ofInt 1)] τ (w, σ') := h
    have e := ei_iret h rfl
    cases e
    exact ⟨rfl, rfl⟩
def J188_187 (τ : mS) (w : mX) (σ' : mS) : Prop := w = .inl (some (.inl (Int32.ofInt 0))) ∧ σ' = τ
set_option maxRecDepth 100000 in
theorem j188_187 {F f : Nat} {σ' τ : mS} {y0 : Option mV} {y1 : Option mV} {y2 : Option mV} {y3 : Option mV} {y4 : Option mV} {y5 : Option mV} {y6 : Option mV} {y7 : Option mV} {y8 : Option mV} {y9 : Option mV} {y10 : Option mV} {y11 : Option mV} {y12 : Option mV} {w : mX} (hsτ : HL τ) (h : EV F f 188 z188 187 [y0, y1, y2, y3, y4, y5, y6, y7, y8, y9, y10, y11, y12] [] τ (w, σ')) : J188_187 τ w σ' := by
  unfold J188_187
  replace h := ei_p h rfl rfl rfl rfl
  obtain ⟨f, g, h⟩ := h
  clear g
  replace h : EV F f 188 z188 188 [y0, y1, y2, y3, y4, y5, y6, y7, y8, y9, y10, y11, y12] [.inl (Int32.ofInt 0)] τ (w, σ') := h
  have e := ei_iret h rfl
  cases e
  exact ⟨rfl, rfl⟩
def J188_60 (u4 : Int32) (u5 : Int32) (u6 : Int32) (u7 : Int64) (t0 : Int64) (τ : mS) (w : mX) (σ' : mS) : Prop := ∃ v2 σ3, gF τ σ3 ∧ HL σ3 ∧ P172 τ (Int32.ofInt 12) (u5) (u6) ((Int32.ofInt 1) + ((u4) - (u4) / (Int32.ofInt 200) * (Int32.ofInt 200))) (Int32.ofInt 0) (Int32.ofInt 0) (Int32.ofInt 0) (Int32.ofInt 0) (.inl (some (.inr (.inl v2)))) σ3 ∧ (((u5).toInt = (3 : Int) ∧ J188_98 (v2) σ3 w σ') ∨ (¬ ((u5).toInt = (3 : Int)) ∧ (((u6).toInt ≠ (5 : Int) ∧ (((u7).toInt = (Int64.ofNat 0).toInt ∧ J188_129 (v2) σ3 w σ') ∨ (¬ ((u7).toInt = (Int64.ofNat 0).toInt) ∧ ((∃ v9, P182 σ3 (u6) (.inl (some (.inl v9))) σ3 ∧ (((v9).toInt = (0 : Int) ∧ (((v2).toInt ≠ (u7).toInt ∧ J188_187 σ3 w σ') ∨ (¬ ((v2).toInt ≠ (u7).toInt) ∧ ((∃ v15, P144 σ3 (Int32.ofInt (-1)) (u5) (.inl (some (.inr (.inl v15)))) σ3 ∧ (((v15).toInt ≠ (Int64.ofNat 0).toInt ∧ J188_187 σ3 w σ') ∨ (¬ ((v15).toInt ≠ (Int64.ofNat 0).toInt) ∧ ((∃ v20, P144 σ3 (u6) (u5) (.inl (some (.inr (.inl v20)))) σ3 ∧ (((v20).toInt ≠ ((t0) + (u7)).toInt ∧ J188_187 σ3 w σ') ∨ (¬ ((v20).toInt ≠ ((t0) + (u7)).toInt) ∧ w = .inl (some (.inl (Int32.ofInt 1))) ∧ σ' = σ3))) ∨ (∃ b, P144 σ3 (u6) (u5) (.inr b) σ3 ∧ w = .inr b ∧ σ' = σ3))))) ∨ (∃ b, P144 σ3 (Int32.ofInt (-1)) (u5) (.inr b) σ3 ∧ w = .inr b ∧ σ' = σ3))))) ∨ (¬ ((v9).toInt = (0 : Int)) ∧ J188_129 (v2) σ3 w σ'))) ∨ (∃ b, P182 σ3 (u6) (.inr b) σ3 ∧ w = .inr b ∧ σ' = σ3))))) ∨ (¬ ((u6).toInt ≠ (5 : Int)) ∧ J188_98 (v2) σ3 w σ'))))
set_option maxRecDepth 100000 in
theorem j188_60 {F f : Nat} {σ' τ : mS} {u4 : Int32} {u5 : Int32} {u6 : Int32} {u7 : Int64} {t0 : Int64} {y1 : Option mV} {y2 : Option mV} {y3 : Option mV} {y9 : Option mV} {y10 : Option mV} {y11 : Option mV} {y12 : Option mV} {w : mX} (hsτ : HL τ) (h : EV F f 188 z188 60 [some (rf 11 (0)), y1, y2, y3, some (.inl (u4)), some (.inl (u5)), some (.inl (u6)), some (.inr (.inl (u7))), none, y9, y10, y11, y12] [.inr (.inl (t0))] τ (w, σ')) : J188_60 u4 u5 u6 u7 t0 τ w σ' := by
  unfold J188_60
  replace h := ei_p h rfl rfl rfl rfl
  obtain ⟨f, g, h⟩ := h
  clear g
  replace h : EV F f 188 z188 62 [some (rf 11 (0)), y1, y2, y3, some (.inl (u4)), some (.inl (u5)), some (.inl (u6)), some (.inr (.inl (u7))), none, some (.inr (.inl (t0))), none, y11, y12] [] τ (w, σ') := h
  replace h := ei_p h rfl rfl rfl rfl
  obtain ⟨f, g, h⟩ := h
  clear g
  replace h : EV F f 188 z188 63 [some (rf 11 (0)), y1, y2, y3, some (.inl (u4)), some (.inl (u5)), some (.inl (u6)), some (.inr (.inl (u7))), none, some (.inr (.inl (t0))), none, y11, y12] [rf 11 (0)] τ (w, σ') := h
  replace h := ei_p h rfl rfl rfl rfl
  obtain ⟨f, g, h⟩ := h
  clear g
  replace h : EV F f 188 z188 65 [some (rf 11 (0)), y1, y2, y3, some (.inl (u4)), some (.inl (u5)), some (.inl (u6)), some (.inr (.inl (u7))), none, some (.inr (.inl (t0))), none, y11, y12] [.inl (Int32.ofInt 12), rf 11 (0)] τ (w, σ') := h
  replace h := ei_p h rfl rfl rfl rfl
  obtain ⟨f, g, h⟩ := h
  clear g
  replace h : EV F f 188 z188 67 [some (rf 11 (0)), y1, y2, y3, some (.inl (u4)), some (.inl (u5)), some (.inl (u6)), some (.inr (.inl (u7))), none, some (.inr (.inl (t0))), none, y11, y12] [.inl (u5), .inl (Int32.ofInt 12), rf 11 (0)] τ (w, σ') := h
  replace h := ei_p h rfl rfl rfl rfl
  obtain ⟨f, g, h⟩ := h
  clear g
  replace h : EV F f 188 z188 69 [some (rf 11 (0)), y1, y2, y3, some (.inl (u4)), some (.inl (u5)), some (.inl (u6)), some (.inr (.inl (u7))), none, some (.inr (.inl (t0))), none, y11, y12] [.inl (u6), .inl (u5), .inl (Int32.ofInt 12), rf 11 (0)] τ (w, σ') := h
  replace h := ei_p h rfl rfl rfl rfl
  obtain ⟨f, g, h⟩ := h
  clear g
  replace h : EV F f 188 z188 70 [some (rf 11 (0)), y1, y2, y3, some (.inl (u4)), some (.inl (u5)), some (.inl (u6)), some (.inr (.inl (u7))), none, some (.inr (.inl (t0))), none, y11, y12] [.inl (Int32.ofInt 1), .inl (u6), .inl (u5), .inl (Int32.ofInt 12), rf 11 (0)] τ (w, σ') := h
  replace h := ei_p h rfl rfl rfl rfl
  obtain ⟨f, g, h⟩ := h
  clear g
  replace h : EV F f 188 z188 72 [some (rf 11 (0)), y1, y2, y3, some (.inl (u4)), some (.inl (u5)), some (.inl (u6)), some (.inr (.inl (u7))), none, some (.inr (.inl (t0))), none, y11, y12] [.inl (u4), .inl (Int32.ofInt 1), .inl (u6), .inl (u5), .inl (Int32.ofInt 12), rf 11 (0)] τ (w, σ') := h
  replace h := ei_p h rfl rfl rfl rfl
  obtain ⟨f, g, h⟩ := h
  clear g
  replace h : EV F f 188 z188 75 [some (rf 11 (0)), y1, y2, y3, some (.inl (u4)), some (.inl (u5)), some (.inl (u6)), some (.inr (.inl (u7))), none, some (.inr (.inl (t0))), none, y11, y12] [.inl (Int32.ofInt 200), .inl (u4), .inl (Int32.ofInt 1), .inl (u6), .inl (u5), .inl (Int32.ofInt 12), rf 11 (0)] τ (w, σ') := h
  replace h := ei_irem h rfl
  obtain ⟨hd1, f, g, h⟩ := h
  clear g
  replace h : EV F f 188 z188 76 [some (rf 11 (0)), y1, y2, y3, some (.inl (u4)), some (.inl (u5)), some (.inl (u6)), some (.inr (.inl (u7))), none, some (.inr (.inl (t0))), none, y11, y12] [.inl ((u4) - (u4) / (Int32.ofInt 200) * (Int32.ofInt 200)), .inl (Int32.ofInt 1), .inl (u6), .inl (u5), .inl (Int32.ofInt 12), rf 11 (0)] τ (w, σ') := h
  replace h := ei_p h rfl rfl rfl rfl
  obtain ⟨f, g, h⟩ := h
  clear g
  replace h : EV F f 188 z188 77 [some (rf 11 (0)), y1, y2, y3, some (.inl (u4)), some (.inl (u5)), some (.inl (u6)), some (.inr (.inl (u7))), none, some (.inr (.inl (t0))), none, y11, y12] [.inl ((Int32.ofInt 1) + ((u4) - (u4) / (Int32.ofInt 200) * (Int32.ofInt 200))), .inl (u6), .inl (u5), .inl (Int32.ofInt 12), rf 11 (0)] τ (w, σ') := h
  replace h := ei_p h rfl rfl rfl rfl
  obtain ⟨f, g, h⟩ := h
  clear g
  replace h : EV F f 188 z188 78 [some (rf 11 (0)), y1, y2, y3, some (.inl (u4)), some (.inl (u5)), some (.inl (u6)), some (.inr (.inl (u7))), none, some (.inr (.inl (t0))), none, y11, y12] [.inl (Int32.ofInt 0), .inl ((Int32.ofInt 1) + ((u4) - (u4) / (Int32.ofInt 200) * (Int32.ofInt 200))), .inl (u6), .inl (u5), .inl (Int32.ofInt 12), rf 11 (0)] τ (w, σ') := h
  replace h := ei_p h rfl rfl rfl rfl
  obtain ⟨f, g, h⟩ := h
  clear g
  replace h : EV F f 188 z188 79 [some (rf 11 (0)), y1, y2, y3, some (.inl (u4)), some (.inl (u5)), some (.inl (u6)), some (.inr (.inl (u7))), none, some (.inr (.inl (t0))), none, y11, y12] [.inl (Int32.ofInt 0), .inl (Int32.ofInt 0), .inl ((Int32.ofInt 1) + ((u4) - (u4) / (Int32.ofInt 200) * (Int32.ofInt 200))), .inl (u6), .inl (u5), .inl (Int32.ofInt 12), rf 11 (0)] τ (w, σ') := h
  replace h := ei_p h rfl rfl rfl rfl
  obtain ⟨f, g, h⟩ := h
  clear g
  replace h : EV F f 188 z188 80 [some (rf 11 (0)), y1, y2, y3, some (.inl (u4)), some (.inl (u5)), some (.inl (u6)), some (.inr (.inl (u7))), none, some (.inr (.inl (t0))), none, y11, y12] [.inl (Int32.ofInt 0), .inl (Int32.ofInt 0), .inl (Int32.ofInt 0), .inl ((Int32.ofInt 1) + ((u4) - (u4) / (Int32.ofInt 200) * (Int32.ofInt 200))), .inl (u6), .inl (u5), .inl (Int32.ofInt 12), rf 11 (0)] τ (w, σ') := h
  replace h := ei_p h rfl rfl rfl rfl
  obtain ⟨f, g, h⟩ := h
  clear g
  replace h : EV F f 188 z188 81 [some (rf 11 (0)), y1, y2, y3, some (.inl (u4)), some (.inl (u5)), some (.inl (u6)), some (.inr (.inl (u7))), none, some (.inr (.inl (t0))), none, y11, y12] [.inl (Int32.ofInt 0), .inl (Int32.ofInt 0), .inl (Int32.ofInt 0), .inl (Int32.ofInt 0), .inl ((Int32.ofInt 1) + ((u4) - (u4) / (Int32.ofInt 200) * (Int32.ofInt 200))), .inl (u6), .inl (u5), .inl (Int32.ofInt 12), rf 11 (0)] τ (w, σ') := h
  replace h := bx_L (ei_s (as := [.inl (Int32.ofInt 0), .inl (Int32.ofInt 0), .inl (Int32.ofInt 0), .inl (Int32.ofInt 0), .inl ((Int32.ofInt 1) + ((u4) - (u4) / (Int32.ofInt 200) * (Int32.ofInt 200))), .inl (u6), .inl (u5), .inl (Int32.ofInt 12), rf 11 (0)]) h rfl (Nat.le_of_ble_eq_true rfl) rfl rfl) z172_at rfl
  rcases h with ⟨v2, σ3, r4, f, g, h⟩ | ⟨b, σ3, r4, e⟩
  rotate_left
  · exact (nt172 (x172 hsτ r4)).elim
  clear g
  have p5 := x172 hsτ r4
  have hsσ3 : HL σ3 := hl172 p5
  refine ⟨v2, σ3, gF_r r4 rfl hsτ, hsσ3, p5, ?_⟩
  replace h : EV F f 188 z188 84 [some (rf 11 (0)), y1, y2, y3, some (.inl (u4)), some (.inl (u5)), some (.inl (u6)), some (.inr (.inl (u7))), none, some (.inr (.inl (t0))), none, y11, y12] [.inr (.inl (v2))] σ3 (w, σ') := h
  replace h := ei_p h rfl rfl rfl rfl
  obtain ⟨f, g, h⟩ := h
  clear g
  replace h : EV F f 188 z188 86 [some (rf 11 (0)), y1, y2, y3, some (.inl (u4)), some (.inl (u5)), some (.inl (u6)), some (.inr (.inl (u7))), none, some (.inr (.inl (t0))), none, some (.inr (.inl (v2))), none] [] σ3 (w, σ') := h
  replace h := ei_p h rfl rfl rfl rfl
  obtain ⟨f, g, h⟩ := h
  clear g
  replace h : EV F f 188 z188 88 [some (rf 11 (0)), y1, y2, y3, some (.inl (u4)), some (.inl (u5)), some (.inl (u6)), some (.inr (.inl (u7))), none, some (.inr (.inl (t0))), none, some (.inr (.inl (v2))), none] [.inl (u5)] σ3 (w, σ') := h
  replace h := ei_p h rfl rfl rfl rfl
  obtain ⟨f, g, h⟩ := h
  clear g
  replace h : EV F f 188 z188 89 [some (rf 11 (0)), y1, y2, y3, some (.inl (u4)), some (.inl (u5)), some (.inl (u6)), some (.inr (.inl (u7))), none, some (.inr (.inl (t0))), none, some (.inr (.inl (v2))), none] [.inl (Int32.ofInt 3), .inl (u5)] σ3 (w, σ') := h
  replace h := ei_c h rfl rfl rfl
  rcases h with ⟨hp6, f, g, h⟩ | ⟨hp6, f, g, h⟩
  · skip
    replace hp6 : (u5).toInt = (3 : Int) := ic_eq.mp hp6
    refine Or.inl ⟨hp6, ?_⟩
    clear g
    replace h : EV F f 188 z188 98 [some (rf 11 (0)), y1, y2, y3, some (.inl (u4)), some (.inl (u5)), some (.inl (u6)), some (.inr (.inl (u7))), none, some (.inr (.inl (t0))), none, some (.inr (.inl (v2))), none] [] σ3 (w, σ') := h
    exact j188_98 hsσ3 h
  · skip
    replace hp6 : ¬ ((u5).toInt = (3 : Int)) := (not_congr ic_eq).mp hp6
    refine Or.inr ⟨hp6, ?_⟩
    clear g
    replace h : EV F f 188 z188 92 [some (rf 11 (0)), y1, y2, y3, some (.inl (u4)), some (.inl (u5)), some (.inl (u6)), some (.inr (.inl (u7))), none, some (.inr (.inl (t0))), none, some (.inr (.inl (v2))), none] [] σ3 (w, σ') := h
    replace h := ei_p h rfl rfl rfl rfl
    obtain ⟨f, g, h⟩ := h
    clear g
    replace h : EV F f 188 z188 94 [some (rf 11 (0)), y1, y2, y3, some (.inl (u4)), some (.inl (u5)), some (.inl (u6)), some (.inr (.inl (u7))), none, some (.inr (.inl (t0))), none, some (.inr (.inl (v2))), none] [.inl (u6)] σ3 (w, σ') := h
    replace h := ei_p h rfl rfl rfl rfl
    obtain ⟨f, g, h⟩ := h
    clear g
    replace h : EV F f 188 z188 95 [some (rf 11 (0)), y1, y2, y3, some (.inl (u4)), some (.inl (u5)), some (.inl (u6)), some (.inr (.inl (u7))), none, some (.inr (.inl (t0))), none, some (.inr (.inl (v2))), none] [.inl (Int32.ofInt 5), .inl (u6)] σ3 (w, σ') := h
    replace h := ei_c h rfl rfl rfl
    rcases h with ⟨hp7, f, g, h⟩ | ⟨hp7, f, g, h⟩
    · skip
      replace hp7 : (u6).toInt ≠ (5 : Int) := ic_ne.mp hp7
      refine Or.inl ⟨hp7, ?_⟩
      clear g
      replace h : EV F f 188 z188 113 [some (rf 11 (0)), y1, y2, y3, some (.inl (u4)), some (.inl (u5)), some (.inl (u6)), some (.inr (.inl (u7))), none, some (.inr (.inl (t0))), none, some (.inr (.inl (v2))), none] [] σ3 (w, σ') := h
      replace h := ei_p h rfl rfl rfl rfl
      obtain ⟨f, g, h⟩ := h
      clear g
      replace h : EV F f 188 z188 115 [some (rf 11 (0)), y1, y2, y3, some (.inl (u4)), some (.inl (u5)), some (.inl (u6)), some (.inr (.inl (u7))), none, some (.inr (.inl (t0))), none, some (.inr (.inl (v2))), none] [.inr (.inl (u7))] σ3 (w, σ') := h
      replace h := ei_p h rfl rfl rfl rfl
      obtain ⟨f, g, h⟩ := h
      clear g
      replace h : EV F f 188 z188 116 [some (rf 11 (0)), y1, y2, y3, some (.inl (u4)), some (.inl (u5)), some (.inl (u6)), some (.inr (.inl (u7))), none, some (.inr (.inl (t0))), none, some (.inr (.inl (v2))), none] [.inr (.inl (Int64.ofNat 0)), .inr (.inl (u7))] σ3 (w, σ') := h
      replace h := ei_p h rfl rfl rfl rfl
      obtain ⟨f, g, h⟩ := h
      clear g
      replace h : EV F f 188 z188 117 [some (rf 11 (0)), y1, y2, y3, some (.inl (u4)), some (.inl (u5)), some (.inl (u6)), some (.inr (.inl (u7))), none, some (.inr (.inl (t0))), none, some (.inr (.inl (v2))), none] [.inl (lg_cmp (u7) (Int64.ofNat 0))] σ3 (w, σ') := h
      replace h := ei_c h rfl rfl rfl
      rcases h with ⟨hp8, f, g, h⟩ | ⟨hp8, f, g, h⟩
      · skip
        replace hp8 : (u7).toInt = (Int64.ofNat 0).toInt := (ab_lc .eq _ _).mp hp8
        refine Or.inl ⟨hp8, ?_⟩
        clear g
        replace h : EV F f 188 z188 129 [some (rf 11 (0)), y1, y2, y3, some (.inl (u4)), some (.inl (u5)), some (.inl (u6)), some (.inr (.inl (u7))), none, some (.inr (.inl (t0))), none, some (.inr (.inl (v2))), none] [] σ3 (w, σ') := h
        exact j188_129 hsσ3 h
      · skip
        replace hp8 : ¬ ((u7).toInt = (Int64.ofNat 0).toInt) := (not_congr (ab_lc .eq _ _)).mp hp8
        refine Or.inr ⟨hp8, ?_⟩
        clear g
        replace h : EV F f 188 z188 120 [some (rf 11 (0)), y1, y2, y3, some (.inl (u4)), some (.inl (u5)), some (.inl (u6)), some (.inr (.inl (u7))), none, some (.inr (.inl (t0))), none, some (.inr (.inl (v2))), none] [] σ3 (w, σ') := h
        replace h := ei_p h rfl rfl rfl rfl
        obtain ⟨f, g, h⟩ := h
        clear g
        replace h : EV F f 188 z188 121 [some (rf 11 (0)), y1, y2, y3, some (.inl (u4)), some (.inl (u5)), some (.inl (u6)), some (.inr (.inl (u7))), none, some (.inr (.inl (t0))), none, some (.inr (.inl (v2))), none] [rf 11 (0)] σ3 (w, σ') := h
        replace h := ei_p h rfl rfl rfl rfl
        obtain ⟨f, g, h⟩ := h
        clear g
        replace h : EV F f 188 z188 123 [some (rf 11 (0)), y1, y2, y3, some (.inl (u4)), some (.inl (u5)), some (.inl (u6)), some (.inr (.inl (u7))), none, some (.inr (.inl (t0))), none, some (.inr (.inl (v2))), none] [.inl (u6), rf 11 (0)] σ3 (w, σ') := h
        replace h := bx_I (ei_s (as := [.inl (u6), rf 11 (0)]) h rfl (Nat.le_of_ble_eq_true rfl) rfl rfl) z182_at (Or.inr rfl)
        rcases h with ⟨v9, σ10, r11, f, g, h⟩ | ⟨b, σ10, r11, e⟩
        · skip
          have er11 := ro2_run rfl r11
          rw [er11] at h r11
          clear g
          have p12 := x182 hsσ3 r11
          refine Or.inl ⟨v9, p12, ?_⟩
          replace h : EV F f 188 z188 126 [some (rf 11 (0)), y1, y2, y3, some (.inl (u4)), some (.inl (u5)), some (.inl (u6)), some (.inr (.inl (u7))), none, some (.inr (.inl (t0))), none, some (.inr (.inl (v2))), none] [.inl (v9)] σ3 (w, σ') := h
          replace h := ei_c h rfl rfl rfl
          rcases h with ⟨hp13, f, g, h⟩ | ⟨hp13, f, g, h⟩
          · skip
            replace hp13 : (v9).toInt = (0 : Int) := ic_eq.mp hp13
            refine Or.inl ⟨hp13, ?_⟩
            clear g
            replace h : EV F f 188 z188 146 [some (rf 11 (0)), y1, y2, y3, some (.inl (u4)), some (.inl (u5)), some (.inl (u6)), some (.inr (.inl (u7))), none, some (.inr (.inl (t0))), none, some (.inr (.inl (v2))), none] [] σ3 (w, σ') := h
            replace h := ei_p h rfl rfl rfl rfl
            obtain ⟨f, g, h⟩ := h
            clear g
            replace h : EV F f 188 z188 148 [some (rf 11 (0)), y1, y2, y3, some (.inl (u4)), some (.inl (u5)), some (.inl (u6)), some (.inr (.inl (u7))), none, some (.inr (.inl (t0))), none, some (.inr (.inl (v2))), none] [.inr (.inl (v2))] σ3 (w, σ') := h
            replace h := ei_p h rfl rfl rfl rfl
            obtain ⟨f, g, h⟩ := h
            clear g
            replace h : EV F f 188 z188 150 [some (rf 11 (0)), y1, y2, y3, some (.inl (u4)), some (.inl (u5)), some (.inl (u6)), some (.inr (.inl (u7))), none, some (.inr (.inl (t0))), none, some (.inr (.inl (v2))), none] [.inr (.inl (u7)), .inr (.inl (v2))] σ3 (w, σ') := h
            replace h := ei_p h rfl rfl rfl rfl
            obtain ⟨f, g, h⟩ := h
            clear g
            replace h : EV F f 188 z188 151 [some (rf 11 (0)), y1, y2, y3, some (.inl (u4)), some (.inl (u5)), some (.inl (u6)), some (.inr (.inl (u7))), none, some (.inr (.inl (t0))), none, some (.inr (.inl (v2))), none] [.inl (lg_cmp (v2) (u7))] σ3 (w, σ') := h
            replace h := ei_c h rfl rfl rfl
            rcases h with ⟨hp14, f, g, h⟩ | ⟨hp14, f, g, h⟩
            · skip
              replace hp14 : (v2).toInt ≠ (u7).toInt := (ab_lc .ne _ _).mp hp14
              refine Or.inl ⟨hp14, ?_⟩
              clear g
              replace h : EV F f 188 z188 187 [some (rf 11 (0)), y1, y2, y3, some (.inl (u4)), some (.inl (u5)), some (.inl (u6)), some (.inr (.inl (u7))), none, some (.inr (.inl (t0))), none, some (.inr (.inl (v2))), none] [] σ3 (w, σ') := h
              exact j188_187 hsσ3 h
            · skip
              replace hp14 : ¬ ((v2).toInt ≠ (u7).toInt) := (not_congr (ab_lc .ne _ _)).mp hp14
              refine Or.inr ⟨hp14, ?_⟩
              clear g
              replace h : EV F f 188 z188 154 [some (rf 11 (0)), y1, y2, y3, some (.inl (u4)), some (.inl (u5)), some (.inl (u6)), some (.inr (.inl (u7))), none, some (.inr (.inl (t0))), none, some (.inr (.inl (v2))), none] [] σ3 (w, σ') := h
              replace h := ei_p h rfl rfl rfl rfl
              obtain ⟨f, g, h⟩ := h
              clear g
              replace h : EV F f 188 z188 155 [some (rf 11 (0)), y1, y2, y3, some (.inl (u4)), some (.inl (u5)), some (.inl (u6)), some (.inr (.inl (u7))), none, some (.inr (.inl (t0))), none, some (.inr (.inl (v2))), none] [rf 11 (0)] σ3 (w, σ') := h
              replace h := ei_p h rfl rfl rfl rfl
              obtain ⟨f, g, h⟩ := h
              clear g
              replace h : EV F f 188 z188 156 [some (rf 11 (0)), y1, y2, y3, some (.inl (u4)), some (.inl (u5)), some (.inl (u6)), some (.inr (.inl (u7))), none, some (.inr (.inl (t0))), none, some (.inr (.inl (v2))), none] [.inl (Int32.ofInt (-1)), rf 11 (0)] σ3 (w, σ') := h
              replace h := ei_p h rfl rfl rfl rfl
              obtain ⟨f, g, h⟩ := h
              clear g
              replace h : EV F f 188 z188 158 [some (rf 11 (0)), y1, y2, y3, some (.inl (u4)), some (.inl (u5)), some (.inl (u6)), some (.inr (.inl (u7))), none, some (.inr (.inl (t0))), none, some (.inr (.inl (v2))), none] [.inl (u5), .inl (Int32.ofInt (-1)), rf 11 (0)] σ3 (w, σ') := h
              replace h := bx_L (ei_v (as := [.inl (u5), .inl (Int32.ofInt (-1))]) h rfl rfl rfl) z144_at rfl
              rcases h with ⟨v15, σ16, r17, f, g, h⟩ | ⟨b, σ16, r17, e⟩
              · skip
                have er17 := ro2_run rfl r17
                rw [er17] at h r17
                clear g
                have p18 := x144 hsσ3.1 r17
                refine Or.inl ⟨v15, p18, ?_⟩
                replace h : EV F f 188 z188 161 [some (rf 11 (0)), y1, y2, y3, some (.inl (u4)), some (.inl (u5)), some (.inl (u6)), some (.inr (.inl (u7))), none, some (.inr (.inl (t0))), none, some (.inr (.inl (v2))), none] [.inr (.inl (v15))] σ3 (w, σ') := h
                replace h := ei_p h rfl rfl rfl rfl
                obtain ⟨f, g, h⟩ := h
                clear g
                replace h : EV F f 188 z188 162 [some (rf 11 (0)), y1, y2, y3, some (.inl (u4)), some (.inl (u5)), some (.inl (u6)), some (.inr (.inl (u7))), none, some (.inr (.inl (t0))), none, some (.inr (.inl (v2))), none] [.inr (.inl (Int64.ofNat 0)), .inr (.inl (v15))] σ3 (w, σ') := h
                replace h := ei_p h rfl rfl rfl rfl
                obtain ⟨f, g, h⟩ := h
                clear g
                replace h : EV F f 188 z188 163 [some (rf 11 (0)), y1, y2, y3, some (.inl (u4)), some (.inl (u5)), some (.inl (u6)), some (.inr (.inl (u7))), none, some (.inr (.inl (t0))), none, some (.inr (.inl (v2))), none] [.inl (lg_cmp (v15) (Int64.ofNat 0))] σ3 (w, σ') := h
                replace h := ei_c h rfl rfl rfl
                rcases h with ⟨hp19, f, g, h⟩ | ⟨hp19, f, g, h⟩
                · skip
                  replace hp19 : (v15).toInt ≠ (Int64.ofNat 0).toInt := (ab_lc .ne _ _).mp hp19
                  refine Or.inl ⟨hp19, ?_⟩
                  clear g
                  replace h : EV F f 188 z188 187 [some (rf 11 (0)), y1, y2, y3, some (.inl (u4)), some (.inl (u5)), some (.inl (u6)), some (.inr (.inl (u7))), none, some (.inr (.inl (t0))), none, some (.inr (.inl (v2))), none] [] σ3 (w, σ') := h
                  exact j188_187 hsσ3 h
                · skip
                  replace hp19 : ¬ ((v15).toInt ≠ (Int64.ofNat 0).toInt) := (not_congr (ab_lc .ne _ _)).mp hp19
                  refine Or.inr ⟨hp19, ?_⟩
                  clear g
                  replace h : EV F f 188 z188 166 [some (rf 11 (0)), y1, y2, y3, some (.inl (u4)), some (.inl (u5)), some (.inl (u6)), some (.inr (.inl (u7))), none, some (.inr (.inl (t0))), none, some (.inr (.inl (v2))), none] [] σ3 (w, σ') := h
                  replace h := ei_p h rfl rfl rfl rfl
                  obtain ⟨f, g, h⟩ := h
                  clear g
                  replace h : EV F f 188 z188 167 [some (rf 11 (0)), y1, y2, y3, some (.inl (u4)), some (.inl (u5)), some (.inl (u6)), some (.inr (.inl (u7))), none, some (.inr (.inl (t0))), none, some (.inr (.inl (v2))), none] [rf 11 (0)] σ3 (w, σ') := h
                  replace h := ei_p h rfl rfl rfl rfl
                  obtain ⟨f, g, h⟩ := h
                  clear g
                  replace h : EV F f 188 z188 169 [some (rf 11 (0)), y1, y2, y3, some (.inl (u4)), some (.inl (u5)), some (.inl (u6)), some (.inr (.inl (u7))), none, some (.inr (.inl (t0))), none, some (.inr (.inl (v2))), none] [.inl (u6), rf 11 (0)] σ3 (w, σ') := h
                  replace h := ei_p h rfl rfl rfl rfl
                  obtain ⟨f, g, h⟩ := h
                  clear g
                  replace h : EV F f 188 z188 171 [some (rf 11 (0)), y1, y2, y3, some (.inl (u4)), some (.inl (u5)), some (.inl (u6)), some (.inr (.inl (u7))), none, some (.inr (.inl (t0))), none, some (.inr (.inl (v2))), none] [.inl (u5), .inl (u6), rf 11 (0)] σ3 (w, σ') := h
                  replace h := bx_L (ei_v (as := [.inl (u5), .inl (u6)]) h rfl rfl rfl) z144_at rfl
                  rcases h with ⟨v20, σ21, r22, f, g, h⟩ | ⟨b, σ21, r22, e⟩
                  · skip
                    have er22 := ro2_run rfl r22
                    rw [er22] at h r22
                    clear g
                    have p23 := x144 hsσ3.1 r22
                    refine Or.inl ⟨v20, p23, ?_⟩
                    replace h : EV F f 188 z188 174 [some (rf 11 (0)), y1, y2, y3, some (.inl (u4)), some (.inl (u5)), some (.inl (u6)), some (.inr (.inl (u7))), none, some (.inr (.inl (t0))), none, some (.inr (.inl (v2))), none] [.inr (.inl (v20))] σ3 (w, σ') := h
                    replace h := ei_p h rfl rfl rfl rfl
                    obtain ⟨f, g, h⟩ := h
                    clear g
                    replace h : EV F f 188 z188 176 [some (rf 11 (0)), y1, y2, y3, some (.inl (u4)), some (.inl (u5)), some (.inl (u6)), some (.inr (.inl (u7))), none, some (.inr (.inl (t0))), none, some (.inr (.inl (v2))), none] [.inr (.inl (t0)), .inr (.inl (v20))] σ3 (w, σ') := h
                    replace h := ei_p h rfl rfl rfl rfl
                    obtain ⟨f, g, h⟩ := h
                    clear g
                    replace h : EV F f 188 z188 178 [some (rf 11 (0)), y1, y2, y3, some (.inl (u4)), some (.inl (u5)), some (.inl (u6)), some (.inr (.inl (u7))), none, some (.inr (.inl (t0))), none, some (.inr (.inl (v2))), none] [.inr (.inl (u7)), .inr (.inl (t0)), .inr (.inl (v20))] σ3 (w, σ') := h
                    replace h := ei_p h rfl rfl rfl rfl
                    obtain ⟨f, g, h⟩ := h
                    clear g
                    replace h : EV F f 188 z188 179 [some (rf 11 (0)), y1, y2, y3, some (.inl (u4)), some (.inl (u5)), some (.inl (u6)), some (.inr (.inl (u7))), none, some (.inr (.inl (t0))), none, some (.inr (.inl (v2))), none] [.inr (.inl ((t0) + (u7))), .inr (.inl (v20))] σ3 (w, σ') := h
                    replace h := ei_p h rfl rfl rfl rfl
                    obtain ⟨f, g, h⟩ := h
                    clear g
                    replace h : EV F f 188 z188 180 [some (rf 11 (0)), y1, y2, y3, some (.inl (u4)), some (.inl (u5)), some (.inl (u6)), some (.inr (.inl (u7))), none, some (.inr (.inl (t0))), none, some (.inr (.inl (v2))), none] [.inl (lg_cmp (v20) ((t0) + (u7)))] σ3 (w, σ') := h
                    replace h := ei_c h rfl rfl rfl
                    rcases h with ⟨hp24, f, g, h⟩ | ⟨hp24, f, g, h⟩
                    · skip
                      replace hp24 : (v20).toInt ≠ ((t0) + (u7)).toInt := (ab_lc .ne _ _).mp hp24
                      refine Or.inl ⟨hp24, ?_⟩
                      clear g
                      replace h : EV F f 188 z188 187 [some (rf 11 (0)), y1, y2, y3, some (.inl (u4)), some (.inl (u5)), some (.inl (u6)), some (.inr (.inl (u7))), none, some (.inr (.inl (t0))), none, some (.inr (.inl (v2))), none] [] σ3 (w, σ') := h
                      exact j188_187 hsσ3 h
                    · skip
                      replace hp24 : ¬ ((v20).toInt ≠ ((t0) + (u7)).toInt) := (not_congr (ab_lc .ne _ _)).mp hp24
                      refine Or.inr ⟨hp24, ?_⟩
                      clear g
                      replace h : EV F f 188 z188 183 [some (rf 11 (0)), y1, y2, y3, some (.inl (u4)), some (.inl (u5)), some (.inl (u6)), some (.inr (.inl (u7))), none, some (.inr (.inl (t0))), none, some (.inr (.inl (v2))), none] [] σ3 (w, σ') := h
                      replace h := ei_p h rfl rfl rfl rfl
                      obtain ⟨f, g, h⟩ := h
                      clear g
                      replace h : EV F f 188 z188 184 [some (rf 11 (0)), y1, y2, y3, some (.inl (u4)), some (.inl (u5)), some (.inl (u6)), some (.inr (.inl (u7))), none, some (.inr (.inl (t0))), none, some (.inr (.inl (v2))), none] [.inl (Int32.ofInt 1)] σ3 (w, σ') := h
                      replace h := ei_p h rfl rfl rfl rfl
                      obtain ⟨f, g, h⟩ := h
                      clear g
                      replace h : EV F f 188 z188 188 [some (rf 11 (0)), y1, y2, y3, some (.inl (u4)), some (.inl (u5)), some (.inl (u6)), some (.inr (.inl (u7))), none, some (.inr (.inl (t0))), none, some (.inr (.inl (v2))), none] [.inl (Int32.ofInt 1)] σ3 (w, σ') := h
                      have e := ei_iret h rfl
                      cases e
                      exact ⟨rfl, rfl⟩
                  · skip
                    have er22 := ro2_run rfl r22
                    rw [er22] at e r22
                    have p23 := x144 hsσ3.1 r22
                    cases e
                    exact Or.inr ⟨b, p23, rfl, rfl⟩
              · skip
                have er17 := ro2_run rfl r17
                rw [er17] at e r17
                have p18 := x144 hsσ3.1 r17
                cases e
                exact Or.inr ⟨b, p18, rfl, rfl⟩
          · skip
            replace hp13 : ¬ ((v9).toInt = (0 : Int)) := (not_congr ic_eq).mp hp13
            refine Or.inr ⟨hp13, ?_⟩
            clear g
            replace h : EV F f 188 z188 129 [some (rf 11 (0)), y1, y2, y3, some (.inl (u4)), some (.inl (u5)), some (.inl (u6)), some (.inr (.inl (u7))), none, some (.inr (.inl (t0))), none, some (.inr (.inl (v2))), none] [] σ3 (w, σ') := h
            exact j188_129 hsσ3 h
        · skip
          have er11 := ro2_run rfl r11
          rw [er11] at e r11
          have p12 := x182 hsσ3 r11
          cases e
          exact Or.inr ⟨b, p12, rfl, rfl⟩
    · skip
      replace hp7 : ¬ ((u6).toInt ≠ (5 : Int)) := (not_congr ic_ne).mp hp7
      refine Or.inr ⟨hp7, ?_⟩
      clear g
      replace h : EV F f 188 z188 98 [some (rf 11 (0)), y1, y2, y3, some (.inl (u4)), some (.inl (u5)), some (.inl (u6)), some (.inr (.inl (u7))), none, some (.inr (.inl (t0))), none, some (.inr (.inl (v2))), none] [] σ3 (w, σ') := h
      exact j188_98 hsσ3 h
def J188_59 (u4 : Int32) (u5 : Int32) (u6 : Int32) (u7 : Int64) (τ : mS) (w : mX) (σ' : mS) : Prop := J188_60 (u4) (u5) (u6) (u7) (Int64.ofNat 0) τ w σ'
set_option maxRecDepth 100000 in
theorem j188_59 {F f : Nat} {σ' τ : mS} {u4 : Int32} {u5 : Int32} {u6 : Int32} {u7 : Int64} {y1 : Option mV} {y2 : Option mV} {y3 : Option mV} {y9 : Option mV} {y10 : Option mV} {y11 : Option mV} {y12 : Option mV} {w : mX} (hsτ : HL τ) (h : EV F f 188 z188 59 [some (rf 11 (0)), y1, y2, y3, some (.inl (u4)), some (.inl (u5)), some (.inl (u6)), some (.inr (.inl (u7))), none, y9, y10, y11, y12] [] τ (w, σ')) : J188_59 u4 u5 u6 u7 τ w σ' := by
  unfold J188_59
  replace h := ei_p h rfl rfl rfl rfl
  obtain ⟨f, g, h⟩ := h
  clear g
  replace h : EV F f 188 z188 60 [some (rf 11 (0)), y1, y2, y3, some (.inl (u4)), some (.inl (u5)), some (.inl (u6)), some (.inr (.inl (u7))), none, y9, y10, y11, y12] [.inr (.inl (Int64.ofNat 0))] τ (w, σ') := h
  exact j188_60 hsτ h
def J188_34 (u4 : Int32) (u5 : Int32) (u6 : Int32) (t0 : Int64) (τ : mS) (w : mX) (σ' : mS) : Prop := (((3 : Int) ≤ (u5).toInt ∧ J188_59 (u4) (u5) (u6) (t0) τ w σ') ∨ (¬ ((3 : Int) ≤ (u5).toInt) ∧ (((5 : Int) ≤ (u6).toInt ∧ J188_59 (u4) (u5) (u6) (t0) τ w σ') ∨ (¬ ((5 : Int) ≤ (u6).toInt) ∧ ((∃ v3, P144 τ (u6) (u5) (.inl (some (.inr (.inl v3)))) τ ∧ J188_60 (u4) (u5) (u6) (t0) (v3) τ w σ') ∨ (∃ b, P144 τ (u6) (u5) (.inr b) τ ∧ w = .inr b ∧ σ' = τ))))))
set_option maxRecDepth 100000 in
theorem j188_34 {F f : Nat} {σ' τ : mS} {u4 : Int32} {u5 : Int32} {u6 : Int32} {t0 : Int64} {y1 : Option mV} {y2 : Option mV} {y3 : Option mV} {y7 : Option mV} {y8 : Option mV} {y9 : Option mV} {y10 : Option mV} {y11 : Option mV} {y12 : Option mV} {w : mX} (hsτ : HL τ) (h : EV F f 188 z188 34 [some (rf 11 (0)), y1, y2, y3, some (.inl (u4)), some (.inl (u5)), some (.inl (u6)), y7, y8, y9, y10, y11, y12] [.inr (.inl (t0))] τ (w, σ')) : J188_34 u4 u5 u6 t0 τ w σ' := by
  unfold J188_34
  replace h := ei_p h rfl rfl rfl rfl
  obtain ⟨f, g, h⟩ := h
  clear g
  replace h : EV F f 188 z188 36 [some (rf 11 (0)), y1, y2, y3, some (.inl (u4)), some (.inl (u5)), some (.inl (u6)), some (.inr (.inl (t0))), none, y9, y10, y11, y12] [] τ (w, σ') := h
  replace h := ei_p h rfl rfl rfl rfl
  obtain ⟨f, g, h⟩ := h
  clear g
  replace h : EV F f 188 z188 38 [some (rf 11 (0)), y1, y2, y3, some (.inl (u4)), some (.inl (u5)), some (.inl (u6)), some (.inr (.inl (t0))), none, y9, y10, y11, y12] [.inl (u5)] τ (w, σ') := h
  replace h := ei_p h rfl rfl rfl rfl
  obtain ⟨f, g, h⟩ := h
  clear g
  replace h : EV F f 188 z188 39 [some (rf 11 (0)), y1, y2, y3, some (.inl (u4)), some (.inl (u5)), some (.inl (u6)), some (.inr (.inl (t0))), none, y9, y10, y11, y12] [.inl (Int32.ofInt 3), .inl (u5)] τ (w, σ') := h
  replace h := ei_c h rfl rfl rfl
  rcases h with ⟨hp1, f, g, h⟩ | ⟨hp1, f, g, h⟩
  · skip
    replace hp1 : (3 : Int) ≤ (u5).toInt := ic_ge.mp hp1
    refine Or.inl ⟨hp1, ?_⟩
    clear g
    replace h : EV F f 188 z188 59 [some (rf 11 (0)), y1, y2, y3, some (.inl (u4)), some (.inl (u5)), some (.inl (u6)), some (.inr (.inl (t0))), none, y9, y10, y11, y12] [] τ (w, σ') := h
    exact j188_59 hsτ h
  · skip
    replace hp1 : ¬ ((3 : Int) ≤ (u5).toInt) := (not_congr ic_ge).mp hp1
    refine Or.inr ⟨hp1, ?_⟩
    clear g
    replace h : EV F f 188 z188 42 [some (rf 11 (0)), y1, y2, y3, some (.inl (u4)), some (.inl (u5)), some (.inl (u6)), some (.inr (.inl (t0))), none, y9, y10, y11, y12] [] τ (w, σ') := h
    replace h := ei_p h rfl rfl rfl rfl
    obtain ⟨f, g, h⟩ := h
    clear g
    replace h : EV F f 188 z188 44 [some (rf 11 (0)), y1, y2, y3, some (.inl (u4)), some (.inl (u5)), some (.inl (u6)), some (.inr (.inl (t0))), none, y9, y10, y11, y12] [.inl (u6)] τ (w, σ') := h
    replace h := ei_p h rfl rfl rfl rfl
    obtain ⟨f, g, h⟩ := h
    clear g
    replace h : EV F f 188 z188 45 [some (rf 11 (0)), y1, y2, y3, some (.inl (u4)), some (.inl (u5)), some (.inl (u6)), some (.inr (.inl (t0))), none, y9, y10, y11, y12] [.inl (Int32.ofInt 5), .inl (u6)] τ (w, σ') := h
    replace h := ei_c h rfl rfl rfl
    rcases h with ⟨hp2, f, g, h⟩ | ⟨hp2, f, g, h⟩
    · skip
      replace hp2 : (5 : Int) ≤ (u6).toInt := ic_ge.mp hp2
      refine Or.inl ⟨hp2, ?_⟩
      clear g
      replace h : EV F f 188 z188 59 [some (rf 11 (0)), y1, y2, y3, some (.inl (u4)), some (.inl (u5)), some (.inl (u6)), some (.inr (.inl (t0))), none, y9, y10, y11, y12] [] τ (w, σ') := h
      exact j188_59 hsτ h
    · skip
      replace hp2 : ¬ ((5 : Int) ≤ (u6).toInt) := (not_congr ic_ge).mp hp2
      refine Or.inr ⟨hp2, ?_⟩
      clear g
      replace h : EV F f 188 z188 48 [some (rf 11 (0)), y1, y2, y3, some (.inl (u4)), some (.inl (u5)), some (.inl (u6)), some (.inr (.inl (t0))), none, y9, y10, y11, y12] [] τ (w, σ') := h
      replace h := ei_p h rfl rfl rfl rfl
      obtain ⟨f, g, h⟩ := h
      clear g
      replace h : EV F f 188 z188 49 [some (rf 11 (0)), y1, y2, y3, some (.inl (u4)), some (.inl (u5)), some (.inl (u6)), some (.inr (.inl (t0))), none, y9, y10, y11, y12] [rf 11 (0)] τ (w, σ') := h
      replace h := ei_p h rfl rfl rfl rfl
      obtain ⟨f, g, h⟩ := h
      clear g
      replace h : EV F f 188 z188 51 [some (rf 11 (0)), y1, y2, y3, some (.inl (u4)), some (.inl (u5)), some (.inl (u6)), some (.inr (.inl (t0))), none, y9, y10, y11, y12] [.inl (u6), rf 11 (0)] τ (w, σ') := h
      replace h := ei_p h rfl rfl rfl rfl
      obtain ⟨f, g, h⟩ := h
      clear g
      replace h : EV F f 188 z188 53 [some (rf 11 (0)), y1, y2, y3, some (.inl (u4)), some (.inl (u5)), some (.inl (u6)), some (.inr (.inl (t0))), none, y9, y10, y11, y12] [.inl (u5), .inl (u6), rf 11 (0)] τ (w, σ') := h
      replace h := bx_L (ei_v (as := [.inl (u5), .inl (u6)]) h rfl rfl rfl) z144_at rfl
      rcases h with ⟨v3, σ4, r5, f, g, h⟩ | ⟨b, σ4, r5, e⟩
      · skip
        have er5 := ro2_run rfl r5
        rw [er5] at h r5
        clear g
        have p6 := x144 hsτ.1 r5
        refine Or.inl ⟨v3, p6, ?_⟩
        replace h : EV F f 188 z188 56 [some (rf 11 (0)), y1, y2, y3, some (.inl (u4)), some (.inl (u5)), some (.inl (u6)), some (.inr (.inl (t0))), none, y9, y10, y11, y12] [.inr (.inl (v3))] τ (w, σ') := h
        replace h := ei_p h rfl rfl rfl rfl
        obtain ⟨f, g, h⟩ := h
        clear g
        replace h : EV F f 188 z188 60 [some (rf 11 (0)), y1, y2, y3, some (.inl (u4)), some (.inl (u5)), some (.inl (u6)), some (.inr (.inl (t0))), none, y9, y10, y11, y12] [.inr (.inl (v3))] τ (w, σ') := h
        exact j188_60 hsτ h
      · skip
        have er5 := ro2_run rfl r5
        rw [er5] at e r5
        have p6 := x144 hsτ.1 r5
        cases e
        exact Or.inr ⟨b, p6, rfl, rfl⟩
def P188 (σ : mS) (x3 : Int32) (x4 : Int32) (x5 : Int32) (w : mX) (σ' : mS) : Prop := (((x3).toInt ≠ (0 : Int) ∧ (((x3).toInt ≠ (1 : Int) ∧ (0 ≤ (3 : Int) ∧ (3 : Int) < (σ.2.1 13 (17) : Int)) ∧ ∃ n5, n5 = (x4) - (x4) / ((m_i σ 13 (17) (Int32.ofInt 3).toNatClampNeg) + (Int32.ofInt 1)) * ((m_i σ 13 (17) (Int32.ofInt 3).toNatClampNeg) + (Int32.ofInt 1)) ∧ (0 ≤ (3 : Int) ∧ (3 : Int) < (σ.2.1 13 (17) : Int)) ∧ (((m_i σ 13 (17) (Int32.ofInt 3).toNatClampNeg).toInt ≤ (n5).toInt ∧ J188_392 (n5) (Int32.ofInt 0) σ w σ') ∨ (¬ ((m_i σ 13 (17) (Int32.ofInt 3).toNatClampNeg).toInt ≤ (n5).toInt) ∧ ((∃ v9, P142 σ (n5) (Int32.ofInt 2) (.inl (some (.inl v9))) σ ∧ J188_392 (n5) (v9) σ w σ') ∨ (∃ b, P142 σ (n5) (Int32.ofInt 2) (.inr b) σ ∧ w = .inr b ∧ σ' = σ))))) ∨ (¬ ((x3).toInt ≠ (1 : Int)) ∧ ∃ n, Q188_200  n (Int32.ofInt (-1)) (Int32.ofInt 0) σ w σ'))) ∨ (¬ ((x3).toInt ≠ (0 : Int)) ∧ ∃ n14, n14 = (x4) - (x4) / (Int32.ofInt 4) * (Int32.ofInt 4) ∧ ∃ n18, n18 = ((x4) / (Int32.ofInt 4)) - ((x4) / (Int32.ofInt 4)) / (Int32.ofInt 6) * (Int32.ofInt 6) ∧ (((3 : Int) ≤ (n14).toInt ∧ J188_34 (x5) (n14) (n18) (Int64.ofNat 0) σ w σ') ∨ (¬ ((3 : Int) ≤ (n14).toInt) ∧ ((∃ v21, P144 σ (Int32.ofInt (-1)) (n14) (.inl (some (.inr (.inl v21)))) σ ∧ J188_34 (x5) (n14) (n18) (v21) σ w σ') ∨ (∃ b, P144 σ (Int32.ofInt (-1)) (n14) (.inr b) σ ∧ w = .inr b ∧ σ' = σ))))))
set_option maxRecDepth 100000 in
theorem x188 {σ σ' : mS} {x3 : Int32} {x4 : Int32} {x5 : Int32} {w : mX} (hs : HL σ) (h : ev_run sm_all 188 [rf 11 (0), rf 13 (17), .inl (x3), .inl (x4), .inl (x5)] σ (w) σ') : P188 σ x3 x4 x5 w σ' := by
  unfold P188
  obtain ⟨F, f, h⟩ := ei_go h z188_at
  replace h : EV F f 188 z188 0 [some (rf 11 (0)), some (rf 13 (17)), some (.inl (x3)), some (.inl (x4)), some (.inl (x5)), none, none, none, none, none, none, none, none] [] σ (w, σ') := h
  replace h := ei_p h rfl rfl rfl rfl
  obtain ⟨f, g, h⟩ := h
  clear g
  replace h : EV F f 188 z188 1 [some (rf 11 (0)), some (rf 13 (17)), some (.inl (x3)), some (.inl (x4)), some (.inl (x5)), none, none, none, none, none, none, none, none] [.inl (x3)] σ (w, σ') := h
  replace h := ei_c h rfl rfl rfl
  rcases h with ⟨hp1, f, g, h⟩ | ⟨hp1, f, g, h⟩
  · skip
    replace hp1 : (x3).toInt ≠ (0 : Int) := ic_ne.mp hp1
    refine Or.inl ⟨hp1, ?_⟩
    clear g
    replace h : EV F f 188 z188 189 [some (rf 11 (0)), some (rf 13 (17)), some (.inl (x3)), some (.inl (x4)), some (.inl (x5)), none, none, none, none, none, none, none, none] [] σ (w, σ') := h
    replace h := ei_p h rfl rfl rfl rfl
    obtain ⟨f, g, h⟩ := h
    clear g
    replace h : EV F f 188 z188 190 [some (rf 11 (0)), some (rf 13 (17)), some (.inl (x3)), some (.inl (x4)), some (.inl (x5)), none, none, none, none, none, none, none, none] [.inl (x3)] σ (w, σ') := h
    replace h := ei_p h rfl rfl rfl rfl
    obtain ⟨f, g, h⟩ := h
    clear g
    replace h : EV F f 188 z188 191 [some (rf 11 (0)), some (rf 13 (17)), some (.inl (x3)), some (.inl (x4)), some (.inl (x5)), none, none, none, none, none, none, none, none] [.inl (Int32.ofInt 1), .inl (x3)] σ (w, σ') := h
    replace h := ei_c h rfl rfl rfl
    rcases h with ⟨hp2, f, g, h⟩ | ⟨hp2, f, g, h⟩
    · skip
      replace hp2 : (x3).toInt ≠ (1 : Int) := ic_ne.mp hp2
      refine Or.inl ⟨hp2, ?_⟩
      clear g
      replace h : EV F f 188 z188 364 [some (rf 11 (0)), some (rf 13 (17)), some (.inl (x3)), some (.inl (x4)), some (.inl (x5)), none, none, none, none, none, none, none, none] [] σ (w, σ') := h
      replace h := ei_p h rfl rfl rfl rfl
      obtain ⟨f, g, h⟩ := h
      clear g
      replace h : EV F f 188 z188 365 [some (rf 11 (0)), some (rf 13 (17)), some (.inl (x3)), some (.inl (x4)), some (.inl (x5)), none, none, none, none, none, none, none, none] [.inl (x4)] σ (w, σ') := h
      replace h := ei_p h rfl rfl rfl rfl
      obtain ⟨f, g, h⟩ := h
      clear g
      replace h : EV F f 188 z188 366 [some (rf 11 (0)), some (rf 13 (17)), some (.inl (x3)), some (.inl (x4)), some (.inl (x5)), none, none, none, none, none, none, none, none] [rf 13 (17), .inl (x4)] σ (w, σ') := h
      replace h := ei_p h rfl rfl rfl rfl
      obtain ⟨f, g, h⟩ := h
      clear g
      replace h : EV F f 188 z188 367 [some (rf 11 (0)), some (rf 13 (17)), some (.inl (x3)), some (.inl (x4)), some (.inl (x5)), none, none, none, none, none, none, none, none] [.inl (Int32.ofInt 3), rf 13 (17), .inl (x4)] σ (w, σ') := h
      replace h := ei_iald h rfl (fun _ => rfl)
      obtain ⟨vp3, f, g, h⟩ := h
      clear g
      replace h : EV F f 188 z188 368 [some (rf 11 (0)), some (rf 13 (17)), some (.inl (x3)), some (.inl (x4)), some (.inl (x5)), none, none, none, none, none, none, none, none] [.inl (m_i σ 13 (17) (Int32.ofInt 3).toNatClampNeg), .inl (x4)] σ (w, σ') := h
      refine ⟨vp_2 vp3, ?_⟩
      replace h := ei_p h rfl rfl rfl rfl
      obtain ⟨f, g, h⟩ := h
      clear g
      replace h : EV F f 188 z188 369 [some (rf 11 (0)), some (rf 13 (17)), some (.inl (x3)), some (.inl (x4)), some (.inl (x5)), none, none, none, none, none, none, none, none] [.inl (Int32.ofInt 1), .inl (m_i σ 13 (17) (Int32.ofInt 3).toNatClampNeg), .inl (x4)] σ (w, σ') := h
      replace h := ei_p h rfl rfl rfl rfl
      obtain ⟨f, g, h⟩ := h
      clear g
      replace h : EV F f 188 z188 370 [some (rf 11 (0)), some (rf 13 (17)), some (.inl (x3)), some (.inl (x4)), some (.inl (x5)), none, none, none, none, none, none, none, none] [.inl ((m_i σ 13 (17) (Int32.ofInt 3).toNatClampNeg) + (Int32.ofInt 1)), .inl (x4)] σ (w, σ') := h
      replace h := ei_irem h rfl
      obtain ⟨hd4, f, g, h⟩ := h
      clear g
      replace h : EV F f 188 z188 371 [some (rf 11 (0)), some (rf 13 (17)), some (.inl (x3)), some (.inl (x4)), some (.inl (x5)), none, none, none, none, none, none, none, none] [.inl ((x4) - (x4) / ((m_i σ 13 (17) (Int32.ofInt 3).toNatClampNeg) + (Int32.ofInt 1)) * ((m_i σ 13 (17) (Int32.ofInt 3).toNatClampNeg) + (Int32.ofInt 1)))] σ (w, σ') := h
      replace h := ei_p h rfl rfl rfl rfl
      obtain ⟨f, g, h⟩ := h
      clear g
      replace h : EV F f 188 z188 373 [some (rf 11 (0)), some (rf 13 (17)), some (.inl (x3)), some (.inl (x4)), some (.inl (x5)), some (.inl ((x4) - (x4) / ((m_i σ 13 (17) (Int32.ofInt 3).toNatClampNeg) + (Int32.ofInt 1)) * ((m_i σ 13 (17) (Int32.ofInt 3).toNatClampNeg) + (Int32.ofInt 1)))), none, none, none, none, none, none, none] [] σ (w, σ') := h
      obtain ⟨n5, e6⟩ : ∃ s, s = (x4) - (x4) / ((m_i σ 13 (17) (Int32.ofInt 3).toNatClampNeg) + (Int32.ofInt 1)) * ((m_i σ 13 (17) (Int32.ofInt 3).toNatClampNeg) + (Int32.ofInt 1)) := ⟨_, rfl⟩
      rw [← e6] at h
      refine ⟨n5, e6, ?_⟩
      replace h : EV F f 188 z188 373 [some (rf 11 (0)), some (rf 13 (17)), some (.inl (x3)), some (.inl (x4)), some (.inl (x5)), some (.inl (n5)), none, none, none, none, none, none, none] [] σ (w, σ') := h
      replace h := ei_p h rfl rfl rfl rfl
      obtain ⟨f, g, h⟩ := h
      clear g
      replace h : EV F f 188 z188 375 [some (rf 11 (0)), some (rf 13 (17)), some (.inl (x3)), some (.inl (x4)), some (.inl (x5)), some (.inl (n5)), none, none, none, none, none, none, none] [.inl (n5)] σ (w, σ') := h
      replace h := ei_p h rfl rfl rfl rfl
      obtain ⟨f, g, h⟩ := h
      clear g
      replace h : EV F f 188 z188 376 [some (rf 11 (0)), some (rf 13 (17)), some (.inl (x3)), some (.inl (x4)), some (.inl (x5)), some (.inl (n5)), none, none, none, none, none, none, none] [rf 13 (17), .inl (n5)] σ (w, σ') := h
      replace h := ei_p h rfl rfl rfl rfl
      obtain ⟨f, g, h⟩ := h
      clear g
      replace h : EV F f 188 z188 377 [some (rf 11 (0)), some (rf 13 (17)), some (.inl (x3)), some (.inl (x4)), some (.inl (x5)), some (.inl (n5)), none, none, none, none, none, none, none] [.inl (Int32.ofInt 3), rf 13 (17), .inl (n5)] σ (w, σ') := h
      replace h := ei_iald h rfl (fun _ => rfl)
      obtain ⟨vp7, f, g, h⟩ := h
      clear g
      replace h : EV F f 188 z188 378 [some (rf 11 (0)), some (rf 13 (17)), some (.inl (x3)), some (.inl (x4)), some (.inl (x5)), some (.inl (n5)), none, none, none, none, none, none, none] [.inl (m_i σ 13 (17) (Int32.ofInt 3).toNatClampNeg), .inl (n5)] σ (w, σ') := h
      refine ⟨vp_2 vp7, ?_⟩
      replace h := ei_c h rfl rfl rfl
      rcases h with ⟨hp8, f, g, h⟩ | ⟨hp8, f, g, h⟩
      · skip
        replace hp8 : (m_i σ 13 (17) (Int32.ofInt 3).toNatClampNeg).toInt ≤ (n5).toInt := ic_ge.mp hp8
        refine Or.inl ⟨hp8, ?_⟩
        clear g
        replace h : EV F f 188 z188 391 [some (rf 11 (0)), some (rf 13 (17)), some (.inl (x3)), some (.inl (x4)), some (.inl (x5)), some (.inl (n5)), none, none, none, none, none, none, none] [] σ (w, σ') := h
        replace h := ei_p h rfl rfl rfl rfl
        obtain ⟨f, g, h⟩ := h
        clear g
        replace h : EV F f 188 z188 392 [some (rf 11 (0)), some (rf 13 (17)), some (.inl (x3)), some (.inl (x4)), some (.inl (x5)), some (.inl (n5)), none, none, none, none, none, none, none] [.inl (Int32.ofInt 0)] σ (w, σ') := h
        exact j188_392 hs h
      · skip
        replace hp8 : ¬ ((m_i σ 13 (17) (Int32.ofInt 3).toNatClampNeg).toInt ≤ (n5).toInt) := (not_congr ic_ge).mp hp8
        refine Or.inr ⟨hp8, ?_⟩
        clear g
        replace h : EV F f 188 z188 381 [some (rf 11 (0)), some (rf 13 (17)), some (.inl (x3)), some (.inl (x4)), some (.inl (x5)), some (.inl (n5)), none, none, none, none, none, none, none] [] σ (w, σ') := h
        replace h := ei_p h rfl rfl rfl rfl
        obtain ⟨f, g, h⟩ := h
        clear g
        replace h : EV F f 188 z188 382 [some (rf 11 (0)), some (rf 13 (17)), some (.inl (x3)), some (.inl (x4)), some (.inl (x5)), some (.inl (n5)), none, none, none, none, none, none, none] [rf 11 (0)] σ (w, σ') := h
        replace h := ei_p h rfl rfl rfl rfl
        obtain ⟨f, g, h⟩ := h
        clear g
        replace h : EV F f 188 z188 384 [some (rf 11 (0)), some (rf 13 (17)), some (.inl (x3)), some (.inl (x4)), some (.inl (x5)), some (.inl (n5)), none, none, none, none, none, none, none] [.inl (n5), rf 11 (0)] σ (w, σ') := h
        replace h := ei_p h rfl rfl rfl rfl
        obtain ⟨f, g, h⟩ := h
        clear g
        replace h : EV F f 188 z188 385 [some (rf 11 (0)), some (rf 13 (17)), some (.inl (x3)), some (.inl (x4)), some (.inl (x5)), some (.inl (n5)), none, none, none, none, none, none, none] [.inl (Int32.ofInt 2), .inl (n5), rf 11 (0)] σ (w, σ') := h
        replace h := bx_I (ei_v (as := [.inl (Int32.ofInt 2), .inl (n5)]) h rfl rfl rfl) z142_at (Or.inl rfl)
        rcases h with ⟨v9, σ10, r11, f, g, h⟩ | ⟨b, σ10, r11, e⟩
        · skip
          have er11 := ro2_run rfl r11
          rw [er11] at h r11
          clear g
          have p12 := x142 hs.1 r11
          refine Or.inl ⟨v9, p12, ?_⟩
          replace h : EV F f 188 z188 388 [some (rf 11 (0)), some (rf 13 (17)), some (.inl (x3)), some (.inl (x4)), some (.inl (x5)), some (.inl (n5)), none, none, none, none, none, none, none] [.inl (v9)] σ (w, σ') := h
          replace h := ei_p h rfl rfl rfl rfl
          obtain ⟨f, g, h⟩ := h
          clear g
          replace h : EV F f 188 z188 392 [some (rf 11 (0)), some (rf 13 (17)), some (.inl (x3)), some (.inl (x4)), some (.inl (x5)), some (.inl (n5)), none, none, none, none, none, none, none] [.inl (v9)] σ (w, σ') := h
          exact j188_392 hs h
        · skip
          have er11 := ro2_run rfl r11
          rw [er11] at e r11
          have p12 := x142 hs.1 r11
          cases e
          exact Or.inr ⟨b, p12, rfl, rfl⟩
    · skip
      replace hp2 : ¬ ((x3).toInt ≠ (1 : Int)) := (not_congr ic_ne).mp hp2
      refine Or.inr ⟨hp2, ?_⟩
      clear g
      replace h : EV F f 188 z188 194 [some (rf 11 (0)), some (rf 13 (17)), some (.inl (x3)), some (.inl (x4)), some (.inl (x5)), none, none, none, none, none, none, none, none] [] σ (w, σ') := h
      replace h := ei_p h rfl rfl rfl rfl
      obtain ⟨f, g, h⟩ := h
      clear g
      replace h : EV F f 188 z188 195 [some (rf 11 (0)), some (rf 13 (17)), some (.inl (x3)), some (.inl (x4)), some (.inl (x5)), none, none, none, none, none, none, none, none] [.inl (Int32.ofInt (-1))] σ (w, σ') := h
      replace h := ei_p h rfl rfl rfl rfl
      obtain ⟨f, g, h⟩ := h
      clear g
      replace h : EV F f 188 z188 197 [some (rf 11 (0)), some (rf 13 (17)), some (.inl (x3)), some (.inl (x4)), some (.inl (x5)), some (.inl (Int32.ofInt (-1))), none, none, none, none, none, none, none] [] σ (w, σ') := h
      replace h := ei_p h rfl rfl rfl rfl
      obtain ⟨f, g, h⟩ := h
      clear g
      replace h : EV F f 188 z188 198 [some (rf 11 (0)), some (rf 13 (17)), some (.inl (x3)), some (.inl (x4)), some (.inl (x5)), some (.inl (Int32.ofInt (-1))), none, none, none, none, none, none, none] [.inl (Int32.ofInt 0)] σ (w, σ') := h
      replace h := ei_p h rfl rfl rfl rfl
      obtain ⟨f, g, h⟩ := h
      clear g
      replace h : EV F f 188 z188 200 [some (rf 11 (0)), some (rf 13 (17)), some (.inl (x3)), some (.inl (x4)), some (.inl (x5)), some (.inl (Int32.ofInt (-1))), some (.inl (Int32.ofInt 0)), none, none, none, none, none, none] [] σ (w, σ') := h
      exact ⟨f + 1, q188_200 (f + 1) f (Nat.lt_succ_self f) (Int32.ofInt (-1)) (Int32.ofInt 0) _ _ _ _ _ _ _ _ _ _ σ hs h⟩
  · skip
    replace hp1 : ¬ ((x3).toInt ≠ (0 : Int)) := (not_congr ic_ne).mp hp1
    refine Or.inr ⟨hp1, ?_⟩
    clear g
    replace h : EV F f 188 z188 4 [some (rf 11 (0)), some (rf 13 (17)), some (.inl (x3)), some (.inl (x4)), some (.inl (x5)), none, none, none, none, none, none, none, none] [] σ (w, σ') := h
    replace h := ei_p h rfl rfl rfl rfl
    obtain ⟨f, g, h⟩ := h
    clear g
    replace h : EV F f 188 z188 5 [some (rf 11 (0)), some (rf 13 (17)), some (.inl (x3)), some (.inl (x4)), some (.inl (x5)), none, none, none, none, none, none, none, none] [.inl (x4)] σ (w, σ') := h
    replace h := ei_p h rfl rfl rfl rfl
    obtain ⟨f, g, h⟩ := h
    clear g
    replace h : EV F f 188 z188 6 [some (rf 11 (0)), some (rf 13 (17)), some (.inl (x3)), some (.inl (x4)), some (.inl (x5)), none, none, none, none, none, none, none, none] [.inl (Int32.ofInt 4), .inl (x4)] σ (w, σ') := h
    replace h := ei_irem h rfl
    obtain ⟨hd13, f, g, h⟩ := h
    clear g
    replace h : EV F f 188 z188 7 [some (rf 11 (0)), some (rf 13 (17)), some (.inl (x3)), some (.inl (x4)), some (.inl (x5)), none, none, none, none, none, none, none, none] [.inl ((x4) - (x4) / (Int32.ofInt 4) * (Int32.ofInt 4))] σ (w, σ') := h
    replace h := ei_p h rfl rfl rfl rfl
    obtain ⟨f, g, h⟩ := h
    clear g
    replace h : EV F f 188 z188 9 [some (rf 11 (0)), some (rf 13 (17)), some (.inl (x3)), some (.inl (x4)), some (.inl (x5)), some (.inl ((x4) - (x4) / (Int32.ofInt 4) * (Int32.ofInt 4))), none, none, none, none, none, none, none] [] σ (w, σ') := h
    obtain ⟨n14, e15⟩ : ∃ s, s = (x4) - (x4) / (Int32.ofInt 4) * (Int32.ofInt 4) := ⟨_, rfl⟩
    rw [← e15] at h
    refine ⟨n14, e15, ?_⟩
    replace h : EV F f 188 z188 9 [some (rf 11 (0)), some (rf 13 (17)), some (.inl (x3)), some (.inl (x4)), some (.inl (x5)), some (.inl (n14)), none, none, none, none, none, none, none] [] σ (w, σ') := h
    replace h := ei_p h rfl rfl rfl rfl
    obtain ⟨f, g, h⟩ := h
    clear g
    replace h : EV F f 188 z188 10 [some (rf 11 (0)), some (rf 13 (17)), some (.inl (x3)), some (.inl (x4)), some (.inl (x5)), some (.inl (n14)), none, none, none, none, none, none, none] [.inl (x4)] σ (w, σ') := h
    replace h := ei_p h rfl rfl rfl rfl
    obtain ⟨f, g, h⟩ := h
    clear g
    replace h : EV F f 188 z188 11 [some (rf 11 (0)), some (rf 13 (17)), some (.inl (x3)), some (.inl (x4)), some (.inl (x5)), some (.inl (n14)), none, none, none, none, none, none, none] [.inl (Int32.ofInt 4), .inl (x4)] σ (w, σ') := h
    replace h := ei_idiv h rfl
    obtain ⟨hd16, f, g, h⟩ := h
    clear g
    replace h : EV F f 188 z188 12 [some (rf 11 (0)), some (rf 13 (17)), some (.inl (x3)), some (.inl (x4)), some (.inl (x5)), some (.inl (n14)), none, none, none, none, none, none, none] [.inl ((x4) / (Int32.ofInt 4))] σ (w, σ') := h
    replace h := ei_p h rfl rfl rfl rfl
    obtain ⟨f, g, h⟩ := h
    clear g
    replace h : EV F f 188 z188 14 [some (rf 11 (0)), some (rf 13 (17)), some (.inl (x3)), some (.inl (x4)), some (.inl (x5)), some (.inl (n14)), none, none, none, none, none, none, none] [.inl (Int32.ofInt 6), .inl ((x4) / (Int32.ofInt 4))] σ (w, σ') := h
    replace h := ei_irem h rfl
    obtain ⟨hd17, f, g, h⟩ := h
    clear g
    replace h : EV F f 188 z188 15 [some (rf 11 (0)), some (rf 13 (17)), some (.inl (x3)), some (.inl (x4)), some (.inl (x5)), some (.inl (n14)), none, none, none, none, none, none, none] [.inl (((x4) / (Int32.ofInt 4)) - ((x4) / (Int32.ofInt 4)) / (Int32.ofInt 6) * (Int32.ofInt 6))] σ (w, σ') := h
    replace h := ei_p h rfl rfl rfl rfl
    obtain ⟨f, g, h⟩ := h
    clear g
    replace h : EV F f 188 z188 17 [some (rf 11 (0)), some (rf 13 (17)), some (.inl (x3)), some (.inl (x4)), some (.inl (x5)), some (.inl (n14)), some (.inl (((x4) / (Int32.ofInt 4)) - ((x4) / (Int32.ofInt 4)) / (Int32.ofInt 6) * (Int32.ofInt 6))), none, none, none, none, none, none] [] σ (w, σ') := h
    obtain ⟨n18, e19⟩ : ∃ s, s = ((x4) / (Int32.ofInt 4)) - ((x4) / (Int32.ofInt 4)) / (Int32.ofInt 6) * (Int32.ofInt 6) := ⟨_, rfl⟩
    rw [← e19] at h
    refine ⟨n18, e19, ?_⟩
    replace h : EV F f 188 z188 17 [some (rf 11 (0)), some (rf 13 (17)), some (.inl (x3)), some (.inl (x4)), some (.inl (x5)), some (.inl (n14)), some (.inl (n18)), none, none, none, none, none, none] [] σ (w, σ') := h
    replace h := ei_p h rfl rfl rfl rfl
    obtain ⟨f, g, h⟩ := h
    clear g
    replace h : EV F f 188 z188 19 [some (rf 11 (0)), some (rf 13 (17)), some (.inl (x3)), some (.inl (x4)), some (.inl (x5)), some (.inl (n14)), some (.inl (n18)), none, none, none, none, none, none] [.inl (n14)] σ (w, σ') := h
    replace h := ei_p h rfl rfl rfl rfl
    obtain ⟨f, g, h⟩ := h
    clear g
    replace h : EV F f 188 z188 20 [some (rf 11 (0)), some (rf 13 (17)), some (.inl (x3)), some (.inl (x4)), some (.inl (x5)), some (.inl (n14)), some (.inl (n18)), none, none, none, none, none, none] [.inl (Int32.ofInt 3), .inl (n14)] σ (w, σ') := h
    replace h := ei_c h rfl rfl rfl
    rcases h with ⟨hp20, f, g, h⟩ | ⟨hp20, f, g, h⟩
    · skip
      replace hp20 : (3 : Int) ≤ (n14).toInt := ic_ge.mp hp20
      refine Or.inl ⟨hp20, ?_⟩
      clear g
      replace h : EV F f 188 z188 33 [some (rf 11 (0)), some (rf 13 (17)), some (.inl (x3)), some (.inl (x4)), some (.inl (x5)), some (.inl (n14)), some (.inl (n18)), none, none, none, none, none, none] [] σ (w, σ') := h
      replace h := ei_p h rfl rfl rfl rfl
      obtain ⟨f, g, h⟩ := h
      clear g
      replace h : EV F f 188 z188 34 [some (rf 11 (0)), some (rf 13 (17)), some (.inl (x3)), some (.inl (x4)), some (.inl (x5)), some (.inl (n14)), some (.inl (n18)), none, none, none, none, none, none] [.inr (.inl (Int64.ofNat 0))] σ (w, σ') := h
      exact j188_34 hs h
    · skip
      replace hp20 : ¬ ((3 : Int) ≤ (n14).toInt) := (not_congr ic_ge).mp hp20
      refine Or.inr ⟨hp20, ?_⟩
      clear g
      replace h : EV F f 188 z188 23 [some (rf 11 (0)), some (rf 13 (17)), some (.inl (x3)), some (.inl (x4)), some (.inl (x5)), some (.inl (n14)), some (.inl (n18)), none, none, none, none, none, none] [] σ (w, σ') := h
      replace h := ei_p h rfl rfl rfl rfl
      obtain ⟨f, g, h⟩ := h
      clear g
      replace h : EV F f 188 z188 24 [some (rf 11 (0)), some (rf 13 (17)), some (.inl (x3)), some (.inl (x4)), some (.inl (x5)), some (.inl (n14)), some (.inl (n18)), none, none, none, none, none, none] [rf 11 (0)] σ (w, σ') := h
      replace h := ei_p h rfl rfl rfl rfl
      obtain ⟨f, g, h⟩ := h
      clear g
      replace h : EV F f 188 z188 25 [some (rf 11 (0)), some (rf 13 (17)), some (.inl (x3)), some (.inl (x4)), some (.inl (x5)), some (.inl (n14)), some (.inl (n18)), none, none, none, none, none, none] [.inl (Int32.ofInt (-1)), rf 11 (0)] σ (w, σ') := h
      replace h := ei_p h rfl rfl rfl rfl
      obtain ⟨f, g, h⟩ := h
      clear g
      replace h : EV F f 188 z188 27 [some (rf 11 (0)), some (rf 13 (17)), some (.inl (x3)), some (.inl (x4)), some (.inl (x5)), some (.inl (n14)), some (.inl (n18)), none, none, none, none, none, none] [.inl (n14), .inl (Int32.ofInt (-1)), rf 11 (0)] σ (w, σ') := h
      replace h := bx_L (ei_v (as := [.inl (n14), .inl (Int32.ofInt (-1))]) h rfl rfl rfl) z144_at rfl
      rcases h with ⟨v21, σ22, r23, f, g, h⟩ | ⟨b, σ22, r23, e⟩
      · skip
        have er23 := ro2_run rfl r23
        rw [er23] at h r23
        clear g
        have p24 := x144 hs.1 r23
        refine Or.inl ⟨v21, p24, ?_⟩
        replace h : EV F f 188 z188 30 [some (rf 11 (0)), some (rf 13 (17)), some (.inl (x3)), some (.inl (x4)), some (.inl (x5)), some (.inl (n14)), some (.inl (n18)), none, none, none, none, none, none] [.inr (.inl (v21))] σ (w, σ') := h
        replace h := ei_p h rfl rfl rfl rfl
        obtain ⟨f, g, h⟩ := h
        clear g
        replace h : EV F f 188 z188 34 [some (rf 11 (0)), some (rf 13 (17)), some (.inl (x3)), some (.inl (x4)), some (.inl (x5)), some (.inl (n14)), some (.inl (n18)), none, none, none, none, none, none] [.inr (.inl (v21))] σ (w, σ') := h
        exact j188_34 hs h
      · skip
        have er23 := ro2_run rfl r23
        rw [er23] at e r23
        have p24 := x144 hs.1 r23
        cases e
        exact Or.inr ⟨b, p24, rfl, rfl⟩
