/-! the law's methods as relations: isGone -/
def z186 : mAl := ((yL_isGone, cL_isGone, 13, (some .boolean), { frames := 10, cells := 91, slots := 606, locals := 261 }, []), rw_L_isGone, false)
theorem z186_at : m_alF[186]? = some z186 := rfl
def J186_220 (u9 : Int32) (τ : mS) (w : mX) (σ' : mS) : Prop := (((u9).toInt ≠ (-3 : Int) ∧ w = .inl (some (.inl (Int32.ofInt 0))) ∧ σ' = τ) ∨ (¬ ((u9).toInt ≠ (-3 : Int)) ∧ w = .inl (some (.inl (Int32.ofInt 1))) ∧ σ' = τ))
set_option maxRecDepth 100000 in
theorem j186_220 {F f : Nat} {σ' τ : mS} {u9 : Int32} {y0 : Option mV} {y1 : Option mV} {y2 : Option mV} {y3 : Option mV} {y4 : Option mV} {y5 : Option mV} {y6 : Option mV} {y7 : Option mV} {y8 : Option mV} {y10 : Option mV} {y11 : Option mV} {y12 : Option mV} {w : mX} (hsτ : HL τ) (h : EV F f 186 z186 220 [y0, y1, y2, y3, y4, y5, y6, y7, y8, some (.inl (u9)), y10, y11, y12] [] τ (w, σ')) : J186_220 u9 τ w σ' := by
  unfold J186_220
  replace h := ei_p h rfl rfl rfl rfl
  obtain ⟨f, g, h⟩ := h
  clear g
  replace h : EV F f 186 z186 222 [y0, y1, y2, y3, y4, y5, y6, y7, y8, some (.inl (u9)), y10, y11, y12] [.inl (u9)] τ (w, σ') := h
  replace h := ei_p h rfl rfl rfl rfl
  obtain ⟨f, g, h⟩ := h
  clear g
  replace h : EV F f 186 z186 224 [y0, y1, y2, y3, y4, y5, y6, y7, y8, some (.inl (u9)), y10, y11, y12] [.inl (Int32.ofInt (-3)), .inl (u9)] τ (w, σ') := h
  replace h := ei_c h rfl rfl rfl
  rcases h with ⟨hp1, f, g, h⟩ | ⟨hp1, f, g, h⟩
  · skip
    replace hp1 : (u9).toInt ≠ (-3 : Int) := ic_ne.mp hp1
    refine Or.inl ⟨hp1, ?_⟩
    clear g
    replace h : EV F f 186 z186 231 [y0, y1, y2, y3, y4, y5, y6, y7, y8, some (.inl (u9)), y10, y11, y12] [] τ (w, σ') := h
    replace h := ei_p h rfl rfl rfl rfl
    obtain ⟨f, g, h⟩ := h
    clear g
    replace h : EV F f 186 z186 232 [y0, y1, y2, y3, y4, y5, y6, y7, y8, some (.inl (u9)), y10, y11, y12] [.inl (Int32.ofInt 0)] τ (w, σ') := h
    have e := ei_iret h rfl
    cases e
    exact ⟨rfl, rfl⟩
  · skip
    replace hp1 : ¬ ((u9).toInt ≠ (-3 : Int)) := (not_congr ic_ne).mp hp1
    refine Or.inr ⟨hp1, ?_⟩
    clear g
    replace h : EV F f 186 z186 227 [y0, y1, y2, y3, y4, y5, y6, y7, y8, some (.inl (u9)), y10, y11, y12] [] τ (w, σ') := h
    replace h := ei_p h rfl rfl rfl rfl
    obtain ⟨f, g, h⟩ := h
    clear g
    replace h : EV F f 186 z186 228 [y0, y1, y2, y3, y4, y5, y6, y7, y8, some (.inl (u9)), y10, y11, y12] [.inl (Int32.ofInt 1)] τ (w, σ') := h
    replace h := ei_p h rfl rfl rfl rfl
    obtain ⟨f, g, h⟩ := h
    clear g
    replace h : EV F f 186 z186 232 [y0, y1, y2, y3, y4, y5, y6, y7, y8, some (.inl (u9)), y10, y11, y12] [.inl (Int32.ofInt 1)] τ (w, σ') := h
    have e := ei_iret h rfl
    cases e
    exact ⟨rfl, rfl⟩
def J186_328 (τ : mS) (w : mX) (σ' : mS) : Prop := w = .inl (some (.inl (Int32.ofInt 1))) ∧ σ' = τ
set_option maxRecDepth 100000 in
theorem j186_328 {F f : Nat} {σ' τ : mS} {y0 : Option mV} {y1 : Option mV} {y2 : Option mV} {y3 : Option mV} {y4 : Option mV} {y5 : Option mV} {y6 : Option mV} {y7 : Option mV} {y8 : Option mV} {y9 : Option mV} {y10 : Option mV} {y11 : Option mV} {y12 : Option mV} {w : mX} (hsτ : HL τ) (h : EV F f 186 z186 328 [y0, y1, y2, y3, y4, y5, y6, y7, y8, y9, y10, y11, y12] [] τ (w, σ')) : J186_328 τ w σ' := by
  unfold J186_328
  replace h := ei_p h rfl rfl rfl rfl
  obtain ⟨f, g, h⟩ := h
  clear g
  replace h : EV F f 186 z186 329 [y0, y1, y2, y3, y4, y5, y6, y7, y8, y9, y10, y11, y12] [.inl (Int32.ofInt 1)] τ (w, σ') := h
  replace h := ei_p h rfl rfl rfl rfl
  obtain ⟨f, g, h⟩ := h
  clear g
  replace h : EV F f 186 z186 333 [y0, y1, y2, y3, y4, y5, y6, y7, y8, y9, y10, y11, y12] [.inl (Int32.ofInt 1)] τ (w, σ') := h
  have e := ei_iret h rfl
  cases e
  exact ⟨rfl, rfl⟩
def J186_332 (τ : mS) (w : mX) (σ' : mS) : Prop := w = .inl (some (.inl (Int32.ofInt 0))) ∧ σ' = τ
set_option maxRecDepth 100000 in
theorem j186_332 {F f : Nat} {σ' τ : mS} {y0 : Option mV} {y1 : Option mV} {y2 : Option mV} {y3 : Option mV} {y4 : Option mV} {y5 : Option mV} {y6 : Option mV} {y7 : Option mV} {y8 : Option mV} {y9 : Option mV} {y10 : Option mV} {y11 : Option mV} {y12 : Option mV} {w : mX} (hsτ : HL τ) (h : EV F f 186 z186 332 [y0, y1, y2, y3, y4, y5, y6, y7, y8, y9, y10, y11, y12] [] τ (w, σ')) : J186_332 τ w σ' := by
  unfold J186_332
  replace h := ei_p h rfl rfl rfl rfl
  obtain ⟨f, g, h⟩ := h
  clear g
  replace h : EV F f 186 z186 333 [y0, y1, y2, y3, y4, y5, y6, y7, y8, y9, y10, y11, y12] [.inl (Int32.ofInt 0)] τ (w, σ') := h
  have e := ei_iret h rfl
  cases e
  exact ⟨rfl, rfl⟩
def J186_262 (u6 : Int32) (u7 : Int32) (u8 : Int32) (u9 : Int32) (t0 : Int32) (τ : mS) (w : mX) (σ' : mS) : Prop := (((t0).toInt ≠ (0 : Int) ∧ (((u9).toInt = (-1 : Int) ∧ J186_328 τ w σ') ∨ (¬ ((u9).toInt = (-1 : Int)) ∧ (((u9).toInt ≠ (0 : Int) ∧ J186_332 τ w σ') ∨ (¬ ((u9).toInt ≠ (0 : Int)) ∧ ((((u7) - (u7) / (Int32.ofInt 10) * (Int32.ofInt 10)).toInt ≤ (0 : Int) ∧ J186_332 τ w σ') ∨ (¬ (((u7) - (u7) / (Int32.ofInt 10) * (Int32.ofInt 10)).toInt ≤ (0 : Int)) ∧ ((∃ v6, P131 τ (u8) (.inl (some (.inl v6))) τ ∧ ((((v6) - (v6) / (Int32.ofInt 10) * (Int32.ofInt 10)).toInt ≤ (0 : Int) ∧ J186_332 τ w σ') ∨ (¬ (((v6) - (v6) / (Int32.ofInt 10) * (Int32.ofInt 10)).toInt ≤ (0 : Int)) ∧ ∃ v12 σ13, gF τ σ13 ∧ HL σ13 ∧ P173 τ (Int32.ofInt 0) (u8) (u6) (.inl (some (.inl v12))) σ13 ∧ (((v12).toInt ≠ (-1 : Int) ∧ J186_332 σ13 w σ') ∨ (¬ ((v12).toInt ≠ (-1 : Int)) ∧ J186_328 σ13 w σ'))))) ∨ (∃ b, P131 τ (u8) (.inr b) τ ∧ w = .inr b ∧ σ' = τ))))))))) ∨ (¬ ((t0).toInt ≠ (0 : Int)) ∧ (((u9).toInt ≠ (-2 : Int) ∧ w = .inl (some (.inl (Int32.ofInt 0))) ∧ σ' = τ) ∨ (¬ ((u9).toInt ≠ (-2 : Int)) ∧ w = .inl (some (.inl (Int32.ofInt 1))) ∧ σ' = τ))))
set_option maxRecDepth 100000 in
theorem j186_262 {F f : Nat} {σ' τ : mS} {u6 : Int32} {u7 : Int32} {u8 : Int32} {u9 : Int32} {t0 : Int32} {y1 : Option mV} {y2 : Option mV} {y3 : Option mV} {y4 : Option mV} {y5 : Option mV} {y10 : Option mV} {y11 : Option mV} {y12 : Option mV} {w : mX} (hsτ : HL τ) (h : EV F f 186 z186 262 [some (rf 11 (0)), y1, y2, y3, y4, y5, some (.inl (u6)), some (.inl (u7)), some (.inl (u8)), some (.inl (u9)), y10, y11, y12] [.inl (t0)] τ (w, σ')) : J186_262 u6 u7 u8 u9 t0 τ w σ' := by
  unfold J186_262
  replace h := ei_p h rfl rfl rfl rfl
  obtain ⟨f, g, h⟩ := h
  clear g
  replace h : EV F f 186 z186 264 [some (rf 11 (0)), y1, y2, y3, y4, y5, some (.inl (u6)), some (.inl (u7)), some (.inl (u8)), some (.inl (u9)), some (.inl (t0)), y11, y12] [] τ (w, σ') := h
  replace h := ei_p h rfl rfl rfl rfl
  obtain ⟨f, g, h⟩ := h
  clear g
  replace h : EV F f 186 z186 266 [some (rf 11 (0)), y1, y2, y3, y4, y5, some (.inl (u6)), some (.inl (u7)), some (.inl (u8)), some (.inl (u9)), some (.inl (t0)), y11, y12] [.inl (t0)] τ (w, σ') := h
  replace h := ei_c h rfl rfl rfl
  rcases h with ⟨hp1, f, g, h⟩ | ⟨hp1, f, g, h⟩
  · skip
    replace hp1 : (t0).toInt ≠ (0 : Int) := ic_ne.mp hp1
    refine Or.inl ⟨hp1, ?_⟩
    clear g
    replace h : EV F f 186 z186 284 [some (rf 11 (0)), y1, y2, y3, y4, y5, some (.inl (u6)), some (.inl (u7)), some (.inl (u8)), some (.inl (u9)), some (.inl (t0)), y11, y12] [] τ (w, σ') := h
    replace h := ei_p h rfl rfl rfl rfl
    obtain ⟨f, g, h⟩ := h
    clear g
    replace h : EV F f 186 z186 286 [some (rf 11 (0)), y1, y2, y3, y4, y5, some (.inl (u6)), some (.inl (u7)), some (.inl (u8)), some (.inl (u9)), some (.inl (t0)), y11, y12] [.inl (u9)] τ (w, σ') := h
    replace h := ei_p h rfl rfl rfl rfl
    obtain ⟨f, g, h⟩ := h
    clear g
    replace h : EV F f 186 z186 287 [some (rf 11 (0)), y1, y2, y3, y4, y5, some (.inl (u6)), some (.inl (u7)), some (.inl (u8)), some (.inl (u9)), some (.inl (t0)), y11, y12] [.inl (Int32.ofInt (-1)), .inl (u9)] τ (w, σ') := h
    replace h := ei_c h rfl rfl rfl
    rcases h with ⟨hp2, f, g, h⟩ | ⟨hp2, f, g, h⟩
    · skip
      replace hp2 : (u9).toInt = (-1 : Int) := ic_eq.mp hp2
      refine Or.inl ⟨hp2, ?_⟩
      clear g
      replace h : EV F f 186 z186 328 [some (rf 11 (0)), y1, y2, y3, y4, y5, some (.inl (u6)), some (.inl (u7)), some (.inl (u8)), some (.inl (u9)), some (.inl (t0)), y11, y12] [] τ (w, σ') := h
      exact j186_328 hsτ h
    · skip
      replace hp2 : ¬ ((u9).toInt = (-1 : Int)) := (not_congr ic_eq).mp hp2
      refine Or.inr ⟨hp2, ?_⟩
      clear g
      replace h : EV F f 186 z186 290 [some (rf 11 (0)), y1, y2, y3, y4, y5, some (.inl (u6)), some (.inl (u7)), some (.inl (u8)), some (.inl (u9)), some (.inl (t0)), y11, y12] [] τ (w, σ') := h
      replace h := ei_p h rfl rfl rfl rfl
      obtain ⟨f, g, h⟩ := h
      clear g
      replace h : EV F f 186 z186 292 [some (rf 11 (0)), y1, y2, y3, y4, y5, some (.inl (u6)), some (.inl (u7)), some (.inl (u8)), some (.inl (u9)), some (.inl (t0)), y11, y12] [.inl (u9)] τ (w, σ') := h
      replace h := ei_c h rfl rfl rfl
      rcases h with ⟨hp3, f, g, h⟩ | ⟨hp3, f, g, h⟩
      · skip
        replace hp3 : (u9).toInt ≠ (0 : Int) := ic_ne.mp hp3
        refine Or.inl ⟨hp3, ?_⟩
        clear g
        replace h : EV F f 186 z186 332 [some (rf 11 (0)), y1, y2, y3, y4, y5, some (.inl (u6)), some (.inl (u7)), some (.inl (u8)), some (.inl (u9)), some (.inl (t0)), y11, y12] [] τ (w, σ') := h
        exact j186_332 hsτ h
      · skip
        replace hp3 : ¬ ((u9).toInt ≠ (0 : Int)) := (not_congr ic_ne).mp hp3
        refine Or.inr ⟨hp3, ?_⟩
        clear g
        replace h : EV F f 186 z186 295 [some (rf 11 (0)), y1, y2, y3, y4, y5, some (.inl (u6)), some (.inl (u7)), some (.inl (u8)), some (.inl (u9)), some (.inl (t0)), y11, y12] [] τ (w, σ') := h
        replace h := ei_p h rfl rfl rfl rfl
        obtain ⟨f, g, h⟩ := h
        clear g
        replace h : EV F f 186 z186 297 [some (rf 11 (0)), y1, y2, y3, y4, y5, some (.inl (u6)), some (.inl (u7)), some (.inl (u8)), some (.inl (u9)), some (.inl (t0)), y11, y12] [.inl (u7)] τ (w, σ') := h
        replace h := ei_p h rfl rfl rfl rfl
        obtain ⟨f, g, h⟩ := h
        clear g
        replace h : EV F f 186 z186 299 [some (rf 11 (0)), y1, y2, y3, y4, y5, some (.inl (u6)), some (.inl (u7)), some (.inl (u8)), some (.inl (u9)), some (.inl (t0)), y11, y12] [.inl (Int32.ofInt 10), .inl (u7)] τ (w, σ') := h
        replace h := ei_irem h rfl
        obtain ⟨hd4, f, g, h⟩ := h
        clear g
        replace h : EV F f 186 z186 300 [some (rf 11 (0)), y1, y2, y3, y4, y5, some (.inl (u6)), some (.inl (u7)), some (.inl (u8)), some (.inl (u9)), some (.inl (t0)), y11, y12] [.inl ((u7) - (u7) / (Int32.ofInt 10) * (Int32.ofInt 10))] τ (w, σ') := h
        replace h := ei_c h rfl rfl rfl
        rcases h with ⟨hp5, f, g, h⟩ | ⟨hp5, f, g, h⟩
        · skip
          replace hp5 : ((u7) - (u7) / (Int32.ofInt 10) * (Int32.ofInt 10)).toInt ≤ (0 : Int) := ic_le.mp hp5
          refine Or.inl ⟨hp5, ?_⟩
          clear g
          replace h : EV F f 186 z186 332 [some (rf 11 (0)), y1, y2, y3, y4, y5, some (.inl (u6)), some (.inl (u7)), some (.inl (u8)), some (.inl (u9)), some (.inl (t0)), y11, y12] [] τ (w, σ') := h
          exact j186_332 hsτ h
        · skip
          replace hp5 : ¬ (((u7) - (u7) / (Int32.ofInt 10) * (Int32.ofInt 10)).toInt ≤ (0 : Int)) := (not_congr ic_le).mp hp5
          refine Or.inr ⟨hp5, ?_⟩
          clear g
          replace h : EV F f 186 z186 303 [some (rf 11 (0)), y1, y2, y3, y4, y5, some (.inl (u6)), some (.inl (u7)), some (.inl (u8)), some (.inl (u9)), some (.inl (t0)), y11, y12] [] τ (w, σ') := h
          replace h := ei_p h rfl rfl rfl rfl
          obtain ⟨f, g, h⟩ := h
          clear g
          replace h : EV F f 186 z186 304 [some (rf 11 (0)), y1, y2, y3, y4, y5, some (.inl (u6)), some (.inl (u7)), some (.inl (u8)), some (.inl (u9)), some (.inl (t0)), y11, y12] [rf 11 (0)] τ (w, σ') := h
          replace h := ei_p h rfl rfl rfl rfl
          obtain ⟨f, g, h⟩ := h
          clear g
          replace h : EV F f 186 z186 306 [some (rf 11 (0)), y1, y2, y3, y4, y5, some (.inl (u6)), some (.inl (u7)), some (.inl (u8)), some (.inl (u9)), some (.inl (t0)), y11, y12] [.inl (u8), rf 11 (0)] τ (w, σ') := h
          replace h := bx_I (ei_v (as := [.inl (u8)]) h rfl rfl rfl) z131_at (Or.inl rfl)
          rcases h with ⟨v6, σ7, r8, f, g, h⟩ | ⟨b, σ7, r8, e⟩
          · skip
            have er8 := ro2_run rfl r8
            rw [er8] at h r8
            clear g
            have p9 := x131 hsτ.1 r8
            refine Or.inl ⟨v6, p9, ?_⟩
            replace h : EV F f 186 z186 309 [some (rf 11 (0)), y1, y2, y3, y4, y5, some (.inl (u6)), some (.inl (u7)), some (.inl (u8)), some (.inl (u9)), some (.inl (t0)), y11, y12] [.inl (v6)] τ (w, σ') := h
            replace h := ei_p h rfl rfl rfl rfl
            obtain ⟨f, g, h⟩ := h
            clear g
            replace h : EV F f 186 z186 311 [some (rf 11 (0)), y1, y2, y3, y4, y5, some (.inl (u6)), some (.inl (u7)), some (.inl (u8)), some (.inl (u9)), some (.inl (t0)), y11, y12] [.inl (Int32.ofInt 10), .inl (v6)] τ (w, σ') := h
            replace h := ei_irem h rfl
            obtain ⟨hd10, f, g, h⟩ := h
            clear g
            replace h : EV F f 186 z186 312 [some (rf 11 (0)), y1, y2, y3, y4, y5, some (.inl (u6)), some (.inl (u7)), some (.inl (u8)), some (.inl (u9)), some (.inl (t0)), y11, y12] [.inl ((v6) - (v6) / (Int32.ofInt 10) * (Int32.ofInt 10))] τ (w, σ') := h
            replace h := ei_c h rfl rfl rfl
            rcases h with ⟨hp11, f, g, h⟩ | ⟨hp11, f, g, h⟩
            · skip
              replace hp11 : ((v6) - (v6) / (Int32.ofInt 10) * (Int32.ofInt 10)).toInt ≤ (0 : Int) := ic_le.mp hp11
              refine Or.inl ⟨hp11, ?_⟩
              clear g
              replace h : EV F f 186 z186 332 [some (rf 11 (0)), y1, y2, y3, y4, y5, some (.inl (u6)), some (.inl (u7)), some (.inl (u8)), some (.inl (u9)), some (.inl (t0)), y11, y12] [] τ (w, σ') := h
              exact j186_332 hsτ h
            · skip
              replace hp11 : ¬ (((v6) - (v6) / (Int32.ofInt 10) * (Int32.ofInt 10)).toInt ≤ (0 : Int)) := (not_congr ic_le).mp hp11
              refine Or.inr ⟨hp11, ?_⟩
              clear g
              replace h : EV F f 186 z186 315 [some (rf 11 (0)), y1, y2, y3, y4, y5, some (.inl (u6)), some (.inl (u7)), some (.inl (u8)), some (.inl (u9)), some (.inl (t0)), y11, y12] [] τ (w, σ') := h
              replace h := ei_p h rfl rfl rfl rfl
              obtain ⟨f, g, h⟩ := h
              clear g
              replace h : EV F f 186 z186 316 [some (rf 11 (0)), y1, y2, y3, y4, y5, some (.inl (u6)), some (.inl (u7)), some (.inl (u8)), some (.inl (u9)), some (.inl (t0)), y11, y12] [rf 11 (0)] τ (w, σ') := h
              replace h := ei_p h rfl rfl rfl rfl
              obtain ⟨f, g, h⟩ := h
              clear g
              replace h : EV F f 186 z186 317 [some (rf 11 (0)), y1, y2, y3, y4, y5, some (.inl (u6)), some (.inl (u7)), some (.inl (u8)), some (.inl (u9)), some (.inl (t0)), y11, y12] [.inl (Int32.ofInt 0), rf 11 (0)] τ (w, σ') := h
              replace h := ei_p h rfl rfl rfl rfl
              obtain ⟨f, g, h⟩ := h
              clear g
              replace h : EV F f 186 z186 319 [some (rf 11 (0)), y1, y2, y3, y4, y5, some (.inl (u6)), some (.inl (u7)), some (.inl (u8)), some (.inl (u9)), some (.inl (t0)), y11, y12] [.inl (u8), .inl (Int32.ofInt 0), rf 11 (0)] τ (w, σ') := h
              replace h := ei_p h rfl rfl rfl rfl
              obtain ⟨f, g, h⟩ := h
              clear g
              replace h : EV F f 186 z186 321 [some (rf 11 (0)), y1, y2, y3, y4, y5, some (.inl (u6)), some (.inl (u7)), some (.inl (u8)), some (.inl (u9)), some (.inl (t0)), y11, y12] [.inl (u6), .inl (u8), .inl (Int32.ofInt 0), rf 11 (0)] τ (w, σ') := h
              replace h := bx_I (ei_s (as := [.inl (u6), .inl (u8), .inl (Int32.ofInt 0), rf 11 (0)]) h rfl (Nat.le_of_ble_eq_true rfl) rfl rfl) z173_at (Or.inl rfl)
              rcases h with ⟨v12, σ13, r14, f, g, h⟩ | ⟨b, σ13, r14, e⟩
              rotate_left
              · exact (nt173 (x173 hsτ r14)).elim
              clear g
              have p15 := x173 hsτ r14
              have hsσ13 : HL σ13 := hl173 p15
              refine ⟨v12, σ13, gF_r r14 rfl hsτ, hsσ13, p15, ?_⟩
              replace h : EV F f 186 z186 324 [some (rf 11 (0)), y1, y2, y3, y4, y5, some (.inl (u6)), some (.inl (u7)), some (.inl (u8)), some (.inl (u9)), some (.inl (t0)), y11, y12] [.inl (v12)] σ13 (w, σ') := h
              replace h := ei_p h rfl rfl rfl rfl
              obtain ⟨f, g, h⟩ := h
              clear g
              replace h : EV F f 186 z186 325 [some (rf 11 (0)), y1, y2, y3, y4, y5, some (.inl (u6)), some (.inl (u7)), some (.inl (u8)), some (.inl (u9)), some (.inl (t0)), y11, y12] [.inl (Int32.ofInt (-1)), .inl (v12)] σ13 (w, σ') := h
              replace h := ei_c h rfl rfl rfl
              rcases h with ⟨hp16, f, g, h⟩ | ⟨hp16, f, g, h⟩
              · skip
                replace hp16 : (v12).toInt ≠ (-1 : Int) := ic_ne.mp hp16
                refine Or.inl ⟨hp16, ?_⟩
                clear g
                replace h : EV F f 186 z186 332 [some (rf 11 (0)), y1, y2, y3, y4, y5, some (.inl (u6)), some (.inl (u7)), some (.inl (u8)), some (.inl (u9)), some (.inl (t0)), y11, y12] [] σ13 (w, σ') := h
                exact j186_332 hsσ13 h
              · skip
                replace hp16 : ¬ ((v12).toInt ≠ (-1 : Int)) := (not_congr ic_ne).mp hp16
                refine Or.inr ⟨hp16, ?_⟩
                clear g
                replace h : EV F f 186 z186 328 [some (rf 11 (0)), y1, y2, y3, y4, y5, some (.inl (u6)), some (.inl (u7)), some (.inl (u8)), some (.inl (u9)), some (.inl (t0)), y11, y12] [] σ13 (w, σ') := h
                exact j186_328 hsσ13 h
          · skip
            have er8 := ro2_run rfl r8
            rw [er8] at e r8
            have p9 := x131 hsτ.1 r8
            cases e
            exact Or.inr ⟨b, p9, rfl, rfl⟩
  · skip
    replace hp1 : ¬ ((t0).toInt ≠ (0 : Int)) := (not_congr ic_ne).mp hp1
    refine Or.inr ⟨hp1, ?_⟩
    clear g
    replace h : EV F f 186 z186 269 [some (rf 11 (0)), y1, y2, y3, y4, y5, some (.inl (u6)), some (.inl (u7)), some (.inl (u8)), some (.inl (u9)), some (.inl (t0)), y11, y12] [] τ (w, σ') := h
    replace h := ei_p h rfl rfl rfl rfl
    obtain ⟨f, g, h⟩ := h
    clear g
    replace h : EV F f 186 z186 271 [some (rf 11 (0)), y1, y2, y3, y4, y5, some (.inl (u6)), some (.inl (u7)), some (.inl (u8)), some (.inl (u9)), some (.inl (t0)), y11, y12] [.inl (u9)] τ (w, σ') := h
    replace h := ei_p h rfl rfl rfl rfl
    obtain ⟨f, g, h⟩ := h
    clear g
    replace h : EV F f 186 z186 273 [some (rf 11 (0)), y1, y2, y3, y4, y5, some (.inl (u6)), some (.inl (u7)), some (.inl (u8)), some (.inl (u9)), some (.inl (t0)), y11, y12] [.inl (Int32.ofInt (-2)), .inl (u9)] τ (w, σ') := h
    replace h := ei_c h rfl rfl rfl
    rcases h with ⟨hp17, f, g, h⟩ | ⟨hp17, f, g, h⟩
    · skip
      replace hp17 : (u9).toInt ≠ (-2 : Int) := ic_ne.mp hp17
      refine Or.inl ⟨hp17, ?_⟩
      clear g
      replace h : EV F f 186 z186 280 [some (rf 11 (0)), y1, y2, y3, y4, y5, some (.inl (u6)), some (.inl (u7)), some (.inl (u8)), some (.inl (u9)), some (.inl (t0)), y11, y12] [] τ (w, σ') := h
      replace h := ei_p h rfl rfl rfl rfl
      obtain ⟨f, g, h⟩ := h
      clear g
      replace h : EV F f 186 z186 281 [some (rf 11 (0)), y1, y2, y3, y4, y5, some (.inl (u6)), some (.inl (u7)), some (.inl (u8)), some (.inl (u9)), some (.inl (t0)), y11, y12] [.inl (Int32.ofInt 0)] τ (w, σ') := h
      replace h := ei_p h rfl rfl rfl rfl
      obtain ⟨f, g, h⟩ := h
      clear g
      replace h : EV F f 186 z186 333 [some (rf 11 (0)), y1, y2, y3, y4, y5, some (.inl (u6)), some (.inl (u7)), some (.inl (u8)), some (.inl (u9)), some (.inl (t0)), y11, y12] [.inl (Int32.ofInt 0)] τ (w, σ') := h
      have e := ei_iret h rfl
      cases e
      exact ⟨rfl, rfl⟩
    · skip
      replace hp17 : ¬ ((u9).toInt ≠ (-2 : Int)) := (not_congr ic_ne).mp hp17
      refine Or.inr ⟨hp17, ?_⟩
      clear g
      replace h : EV F f 186 z186 276 [some (rf 11 (0)), y1, y2, y3, y4, y5, some (.inl (u6)), some (.inl (u7)), some (.inl (u8)), some (.inl (u9)), some (.inl (t0)), y11, y12] [] τ (w, σ') := h
      replace h := ei_p h rfl rfl rfl rfl
      obtain ⟨f, g, h⟩ := h
      clear g
      replace h : EV F f 186 z186 277 [some (rf 11 (0)), y1, y2, y3, y4, y5, some (.inl (u6)), some (.inl (u7)), some (.inl (u8)), some (.inl (u9)), some (.inl (t0)), y11, y12] [.inl (Int32.ofInt 1)] τ (w, σ') := h
      replace h := ei_p h rfl rfl rfl rfl
      obtain ⟨f, g, h⟩ := h
      clear g
      replace h : EV F f 186 z186 333 [some (rf 11 (0)), y1, y2, y3, y4, y5, some (.inl (u6)), some (.inl (u7)), some (.inl (u8)), some (.inl (u9)), some (.inl (t0)), y11, y12] [.inl (Int32.ofInt 1)] τ (w, σ') := h
      have e := ei_iret h rfl
      cases e
      exact ⟨rfl, rfl⟩
def J186_261 (u6 : Int32) (u7 : Int32) (u8 : Int32) (u9 : Int32) (τ : mS) (w : mX) (σ' : mS) : Prop := J186_262 (u6) (u7) (u8) (u9) (Int32.ofInt 0) τ w σ'
set_option maxRecDepth 100000 in
theorem j186_261 {F f : Nat} {σ' τ : mS} {u6 : Int32} {u7 : Int32} {u8 : Int32} {u9 : Int32} {y1 : Option mV} {y2 : Option mV} {y3 : Option mV} {y4 : Option mV} {y5 : Option mV} {y10 : Option mV} {y11 : Option mV} {y12 : Option mV} {w : mX} (hsτ : HL τ) (h : EV F f 186 z186 261 [some (rf 11 (0)), y1, y2, y3, y4, y5, some (.inl (u6)), some (.inl (u7)), some (.inl (u8)), some (.inl (u9)), y10, y11, y12] [] τ (w, σ')) : J186_261 u6 u7 u8 u9 τ w σ' := by
  unfold J186_261
  replace h := ei_p h rfl rfl rfl rfl
  obtain ⟨f, g, h⟩ := h
  clear g
  replace h : EV F f 186 z186 262 [some (rf 11 (0)), y1, y2, y3, y4, y5, some (.inl (u6)), some (.inl (u7)), some (.inl (u8)), some (.inl (u9)), y10, y11, y12] [.inl (Int32.ofInt 0)] τ (w, σ') := h
  exact j186_262 hsτ h
def J186_181 (τ : mS) (w : mX) (σ' : mS) : Prop := w = .inl (some (.inl (Int32.ofInt 0))) ∧ σ' = τ
set_option maxRecDepth 100000 in
theorem j186_181 {F f : Nat} {σ' τ : mS} {y0 : Option mV} {y1 : Option mV} {y2 : Option mV} {y3 : Option mV} {y4 : Option mV} {y5 : Option mV} {y6 : Option mV} {y7 : Option mV} {y8 : Option mV} {y9 : Option mV} {y10 : Option mV} {y11 : Option mV} {y12 : Option mV} {w : mX} (hsτ : HL τ) (h : EV F f 186 z186 181 [y0, y1, y2, y3, y4, y5, y6, y7, y8, y9, y10, y11, y12] [] τ (w, σ')) : J186_181 τ w σ' := by
  unfold J186_181
  replace h := ei_p h rfl rfl rfl rfl
  obtain ⟨f, g, h⟩ := h
  clear g
  replace h : EV F f 186 z186 182 [y0, y1, y2, y3, y4, y5, y6, y7, y8, y9, y10, y11, y12] [.inl (Int32.ofInt 0)] τ (w, σ') := h
  have e := ei_iret h rfl
  cases e
  exact ⟨rfl, rfl⟩
def J186_177 (τ : mS) (w : mX) (σ' : mS) : Prop := w = .inl (some (.inl (Int32.ofInt 1))) ∧ σ' = τ
set_option maxRecDepth 100000 in
theorem j186_177 {F f : Nat} {σ' τ : mS} {y0 : Option mV} {y1 : Option mV} {y2 : Option mV} {y3 : Option mV} {y4 : Option mV} {y5 : Option mV} {y6 : Option mV} {y7 : Option mV} {y8 : Option mV} {y9 : Option mV} {y10 : Option mV} {y11 : Option mV} {y12 : Option mV} {w : mX} (hsτ : HL τ) (h : EV F f 186 z186 177 [y0, y1, y2, y3, y4, y5, y6, y7, y8, y9, y10, y11, y12] [] τ (w, σ')) : J186_177 τ w σ' := by
  unfold J186_177
  replace h := ei_p h rfl rfl rfl rfl
  obtain ⟨f, g, h⟩ := h
  clear g
  replace h : EV F f 186 z186 178 [y0, y1, y2, y3, y4, y5, y6, y7, y8, y9, y10, y11, y12] [.inl (Int32.ofInt 1)] τ (w, σ') := h
  replace h := ei_p h rfl rfl rfl rfl
  obtain ⟨f, g, h⟩ := h
  clear g
  replace h : EV F f 186 z186 182 [y0, y1, y2, y3, y4, y5, y6, y7, y8, y9, y10, y11, y12] [.inl (Int32.ofInt 1)] τ (w, σ') := h
  have e := ei_iret h rfl
  cases e
  exact ⟨rfl, rfl⟩
def J186_140 (τ : mS) (w : mX) (σ' : mS) : Prop := w = .inl (some (.inl (Int32.ofInt 0))) ∧ σ' = τ
set_option maxRecDepth 100000 in
theorem j186_140 {F f : Nat} {σ' τ : mS} {y0 : Option mV} {y1 : Option mV} {y2 : Option mV} {y3 : Option mV} {y4 : Option mV} {y5 : Option mV} {y6 : Option mV} {y7 : Option mV} {y8 : Option mV} {y9 : Option mV} {y10 : Option mV} {y11 : Option mV} {y12 : Option mV} {w : mX} (hsτ : HL τ) (h : EV F f 186 z186 140 [y0, y1, y2, y3, y4, y5, y6, y7, y8, y9, y10, y11, y12] [] τ (w, σ')) : J186_140 τ w σ' := by
  unfold J186_140
  replace h := ei_p h rfl rfl rfl rfl
  obtain ⟨f, g, h⟩ := h
  clear g
  replace h : EV F f 186 z186 141 [y0, y1, y2, y3, y4, y5, y6, y7, y8, y9, y10, y11, y12] [.inl (Int32.ofInt 0)] τ (w, σ') := h
  replace h := ei_p h rfl rfl rfl rfl
  obtain ⟨f, g, h⟩ := h
  clear g
  replace h : EV F f 186 z186 182 [y0, y1, y2, y3, y4, y5, y6, y7, y8, y9, y10, y11, y12] [.inl (Int32.ofInt 0)] τ (w, σ') := h
  have e := ei_iret h rfl
  cases e
  exact ⟨rfl, rfl⟩
def J186_53 (u6 : Int32) (u7 : Int32) (t0 : Int32) (τ : mS) (w : mX) (σ' : mS) : Prop := ((∃ v1, P149 τ (t0) (.inl (some (.inl v1))) τ ∧ ∃ v5 σ6, gF τ σ6 ∧ HL σ6 ∧ P172 τ (Int32.ofInt 4) (u6) (Int32.ofInt 0) (Int32.ofInt 0) (Int32.ofInt 0) (Int32.ofInt 0) (Int32.ofInt 0) (Int32.ofInt 0) (.inl (some (.inr (.inl v5)))) σ6 ∧ ((∃ v9, P149 σ6 (t0) (.inl (some (.inl v9))) σ6 ∧ (0 ≤ (0 : Int) ∧ (0 : Int) < (σ6.2.1 13 (17) : Int)) ∧ (((u6).toInt ≠ (m_i σ6 13 (17) (Int32.ofInt 0).toNatClampNeg).toInt ∧ ((((u7) - (u7) / (Int32.ofInt 10) * (Int32.ofInt 10)).toInt ≠ (0 : Int) ∧ (((v5).toInt ≠ (((u7) / (Int32.ofInt 10)).toInt64).toInt ∧ J186_181 σ6 w σ') ∨ (¬ ((v5).toInt ≠ (((u7) / (Int32.ofInt 10)).toInt64).toInt) ∧ ((∃ v19, P131 σ6 (u6) (.inl (some (.inl v19))) σ6 ∧ (((v19).toInt ≠ (0 : Int) ∧ J186_181 σ6 w σ') ∨ (¬ ((v19).toInt ≠ (0 : Int)) ∧ ((((v9) - (v1)).toInt = (0 : Int) ∧ J186_177 σ6 w σ') ∨ (¬ (((v9) - (v1)).toInt = (0 : Int)) ∧ ((((v9) - (v1)).toInt ≠ (10 : Int) ∧ J186_181 σ6 w σ') ∨ (¬ (((v9) - (v1)).toInt ≠ (10 : Int)) ∧ J186_177 σ6 w σ'))))))) ∨ (∃ b, P131 σ6 (u6) (.inr b) σ6 ∧ w = .inr b ∧ σ' = σ6))))) ∨ (¬ (((u7) - (u7) / (Int32.ofInt 10) * (Int32.ofInt 10)).toInt ≠ (0 : Int)) ∧ (((v5).toInt ≠ (Int64.ofInt (-1000000000)).toInt ∧ J186_140 σ6 w σ') ∨ (¬ ((v5).toInt ≠ (Int64.ofInt (-1000000000)).toInt) ∧ ((((v9) - (v1)).toInt ≠ (0 : Int) ∧ J186_140 σ6 w σ') ∨ (¬ (((v9) - (v1)).toInt ≠ (0 : Int)) ∧ w = .inl (some (.inl (Int32.ofInt 1))) ∧ σ' = σ6))))))) ∨ (¬ ((u6).toInt ≠ (m_i σ6 13 (17) (Int32.ofInt 0).toNatClampNeg).toInt) ∧ (((v5).toInt ≠ (Int64.ofInt (-3000000000)).toInt ∧ w = .inl (some (.inl (Int32.ofInt 0))) ∧ σ' = σ6) ∨ (¬ ((v5).toInt ≠ (Int64.ofInt (-3000000000)).toInt) ∧ w = .inl (some (.inl (Int32.ofInt 1))) ∧ σ' = σ6))))) ∨ (∃ b, P149 σ6 (t0) (.inr b) σ6 ∧ w = .inr b ∧ σ' = σ6))) ∨ (∃ b, P149 τ (t0) (.inr b) τ ∧ w = .inr b ∧ σ' = τ))
set_option maxRecDepth 100000 in
theorem j186_53 {F f : Nat} {σ' τ : mS} {u6 : Int32} {u7 : Int32} {t0 : Int32} {y1 : Option mV} {y3 : Option mV} {y4 : Option mV} {y5 : Option mV} {y8 : Option mV} {y9 : Option mV} {y10 : Option mV} {y11 : Option mV} {y12 : Option mV} {w : mX} (hsτ : HL τ) (h : EV F f 186 z186 53 [some (rf 11 (0)), y1, some (rf 13 (17)), y3, y4, y5, some (.inl (u6)), some (.inl (u7)), y8, y9, y10, y11, y12] [.inl (t0)] τ (w, σ')) : J186_53 u6 u7 t0 τ w σ' := by
  unfold J186_53
  replace h := ei_p h rfl rfl rfl rfl
  obtain ⟨f, g, h⟩ := h
  clear g
  replace h : EV F f 186 z186 55 [some (rf 11 (0)), y1, some (rf 13 (17)), y3, y4, y5, some (.inl (u6)), some (.inl (u7)), some (.inl (t0)), y9, y10, y11, y12] [] τ (w, σ') := h
  replace h := ei_p h rfl rfl rfl rfl
  obtain ⟨f, g, h⟩ := h
  clear g
  replace h : EV F f 186 z186 56 [some (rf 11 (0)), y1, some (rf 13 (17)), y3, y4, y5, some (.inl (u6)), some (.inl (u7)), some (.inl (t0)), y9, y10, y11, y12] [rf 11 (0)] τ (w, σ') := h
  replace h := ei_p h rfl rfl rfl rfl
  obtain ⟨f, g, h⟩ := h
  clear g
  replace h : EV F f 186 z186 58 [some (rf 11 (0)), y1, some (rf 13 (17)), y3, y4, y5, some (.inl (u6)), some (.inl (u7)), some (.inl (t0)), y9, y10, y11, y12] [.inl (t0), rf 11 (0)] τ (w, σ') := h
  replace h := bx_I (ei_v (as := [.inl (t0)]) h rfl rfl rfl) z149_at (Or.inl rfl)
  rcases h with ⟨v1, σ2, r3, f, g, h⟩ | ⟨b, σ2, r3, e⟩
  · skip
    have er3 := ro2_run rfl r3
    rw [er3] at h r3
    clear g
    have p4 := x149 hsτ.1 r3
    refine Or.inl ⟨v1, p4, ?_⟩
    replace h : EV F f 186 z186 61 [some (rf 11 (0)), y1, some (rf 13 (17)), y3, y4, y5, some (.inl (u6)), some (.inl (u7)), some (.inl (t0)), y9, y10, y11, y12] [.inl (v1)] τ (w, σ') := h
    replace h := ei_p h rfl rfl rfl rfl
    obtain ⟨f, g, h⟩ := h
    clear g
    replace h : EV F f 186 z186 63 [some (rf 11 (0)), y1, some (rf 13 (17)), y3, y4, y5, some (.inl (u6)), some (.inl (u7)), some (.inl (t0)), some (.inl (v1)), y10, y11, y12] [] τ (w, σ') := h
    replace h := ei_p h rfl rfl rfl rfl
    obtain ⟨f, g, h⟩ := h
    clear g
    replace h : EV F f 186 z186 64 [some (rf 11 (0)), y1, some (rf 13 (17)), y3, y4, y5, some (.inl (u6)), some (.inl (u7)), some (.inl (t0)), some (.inl (v1)), y10, y11, y12] [rf 11 (0)] τ (w, σ') := h
    replace h := ei_p h rfl rfl rfl rfl
    obtain ⟨f, g, h⟩ := h
    clear g
    replace h : EV F f 186 z186 65 [some (rf 11 (0)), y1, some (rf 13 (17)), y3, y4, y5, some (.inl (u6)), some (.inl (u7)), some (.inl (t0)), some (.inl (v1)), y10, y11, y12] [.inl (Int32.ofInt 4), rf 11 (0)] τ (w, σ') := h
    replace h := ei_p h rfl rfl rfl rfl
    obtain ⟨f, g, h⟩ := h
    clear g
    replace h : EV F f 186 z186 67 [some (rf 11 (0)), y1, some (rf 13 (17)), y3, y4, y5, some (.inl (u6)), some (.inl (u7)), some (.inl (t0)), some (.inl (v1)), y10, y11, y12] [.inl (u6), .inl (Int32.ofInt 4), rf 11 (0)] τ (w, σ') := h
    replace h := ei_p h rfl rfl rfl rfl
    obtain ⟨f, g, h⟩ := h
    clear g
    replace h : EV F f 186 z186 68 [some (rf 11 (0)), y1, some (rf 13 (17)), y3, y4, y5, some (.inl (u6)), some (.inl (u7)), some (.inl (t0)), some (.inl (v1)), y10, y11, y12] [.inl (Int32.ofInt 0), .inl (u6), .inl (Int32.ofInt 4), rf 11 (0)] τ (w, σ') := h
    replace h := ei_p h rfl rfl rfl rfl
    obtain ⟨f, g, h⟩ := h
    clear g
    replace h : EV F f 186 z186 69 [some (rf 11 (0)), y1, some (rf 13 (17)), y3, y4, y5, some (.inl (u6)), some (.inl (u7)), some (.inl (t0)), some (.inl (v1)), y10, y11, y12] [.inl (Int32.ofInt 0), .inl (Int32.ofInt 0), .inl (u6), .inl (Int32.ofInt 4), rf 11 (0)] τ (w, σ') := h
    replace h := ei_p h rfl rfl rfl rfl
    obtain ⟨f, g, h⟩ := h
    clear g
    replace h : EV F f 186 z186 70 [some (rf 11 (0)), y1, some (rf 13 (17)), y3, y4, y5, some (.inl (u6)), some (.inl (u7)), some (.inl (t0)), some (.inl (v1)), y10, y11, y12] [.inl (Int32.ofInt 0), .inl (Int32.ofInt 0), .inl (Int32.ofInt 0), .inl (u6), .inl (Int32.ofInt 4), rf 11 (0)] τ (w, σ') := h
    replace h := ei_p h rfl rfl rfl rfl
    obtain ⟨f, g, h⟩ := h
    clear g
    replace h : EV F f 186 z186 71 [some (rf 11 (0)), y1, some (rf 13 (17)), y3, y4, y5, some (.inl (u6)), some (.inl (u7)), some (.inl (t0)), some (.inl (v1)), y10, y11, y12] [.inl (Int32.ofInt 0), .inl (Int32.ofInt 0), .inl (Int32.ofInt 0), .inl (Int32.ofInt 0), .inl (u6), .inl (Int32.ofInt 4), rf 11 (0)] τ (w, σ') := h
    replace h := ei_p h rfl rfl rfl rfl
    obtain ⟨f, g, h⟩ := h
    clear g
    replace h : EV F f 186 z186 72 [some (rf 11 (0)), y1, some (rf 13 (17)), y3, y4, y5, some (.inl (u6)), some (.inl (u7)), some (.inl (t0)), some (.inl (v1)), y10, y11, y12] [.inl (Int32.ofInt 0), .inl (Int32.ofInt 0), .inl (Int32.ofInt 0), .inl (Int32.ofInt 0), .inl (Int32.ofInt 0), .inl (u6), .inl (Int32.ofInt 4), rf 11 (0)] τ (w, σ') := h
    replace h := ei_p h rfl rfl rfl rfl
    obtain ⟨f, g, h⟩ := h
    clear g
    replace h : EV F f 186 z186 73 [some (rf 11 (0)), y1, some (rf 13 (17)), y3, y4, y5, some (.inl (u6)), some (.inl (u7)), some (.inl (t0)), some (.inl (v1)), y10, y11, y12] [.inl (Int32.ofInt 0), .inl (Int32.ofInt 0), .inl (Int32.ofInt 0), .inl (Int32.ofInt 0), .inl (Int32.ofInt 0), .inl (Int32.ofInt 0), .inl (u6), .inl (Int32.ofInt 4), rf 11 (0)] τ (w, σ') := h
    replace h := bx_L (ei_s (as := [.inl (Int32.ofInt 0), .inl (Int32.ofInt 0), .inl (Int32.ofInt 0), .inl (Int32.ofInt 0), .inl (Int32.ofInt 0), .inl (Int32.ofInt 0), .inl (u6), .inl (Int32.ofInt 4), rf 11 (0)]) h rfl (Nat.le_of_ble_eq_true rfl) rfl rfl) z172_at rfl
    rcases h with ⟨v5, σ6, r7, f, g, h⟩ | ⟨b, σ6, r7, e⟩
    rotate_left
    · exact (nt172 (x172 hsτ r7)).elim
    clear g
    have p8 := x172 hsτ r7
    have hsσ6 : HL σ6 := hl172 p8
    refine ⟨v5, σ6, gF_r r7 rfl hsτ, hsσ6, p8, ?_⟩
    replace h : EV F f 186 z186 76 [some (rf 11 (0)), y1, some (rf 13 (17)), y3, y4, y5, some (.inl (u6)), some (.inl (u7)), some (.inl (t0)), some (.inl (v1)), y10, y11, y12] [.inr (.inl (v5))] σ6 (w, σ') := h
    replace h := ei_p h rfl rfl rfl rfl
    obtain ⟨f, g, h⟩ := h
    clear g
    replace h : EV F f 186 z186 78 [some (rf 11 (0)), y1, some (rf 13 (17)), y3, y4, y5, some (.inl (u6)), some (.inl (u7)), some (.inl (t0)), some (.inl (v1)), some (.inr (.inl (v5))), none, y12] [] σ6 (w, σ') := h
    replace h := ei_p h rfl rfl rfl rfl
    obtain ⟨f, g, h⟩ := h
    clear g
    replace h : EV F f 186 z186 79 [some (rf 11 (0)), y1, some (rf 13 (17)), y3, y4, y5, some (.inl (u6)), some (.inl (u7)), some (.inl (t0)), some (.inl (v1)), some (.inr (.inl (v5))), none, y12] [rf 11 (0)] σ6 (w, σ') := h
    replace h := ei_p h rfl rfl rfl rfl
    obtain ⟨f, g, h⟩ := h
    clear g
    replace h : EV F f 186 z186 81 [some (rf 11 (0)), y1, some (rf 13 (17)), y3, y4, y5, some (.inl (u6)), some (.inl (u7)), some (.inl (t0)), some (.inl (v1)), some (.inr (.inl (v5))), none, y12] [.inl (t0), rf 11 (0)] σ6 (w, σ') := h
    replace h := bx_I (ei_v (as := [.inl (t0)]) h rfl rfl rfl) z149_at (Or.inl rfl)
    rcases h with ⟨v9, σ10, r11, f, g, h⟩ | ⟨b, σ10, r11, e⟩
    · skip
      have er11 := ro2_run rfl r11
      rw [er11] at h r11
      clear g
      have p12 := x149 hsσ6.1 r11
      refine Or.inl ⟨v9, p12, ?_⟩
      replace h : EV F f 186 z186 84 [some (rf 11 (0)), y1, some (rf 13 (17)), y3, y4, y5, some (.inl (u6)), some (.inl (u7)), some (.inl (t0)), some (.inl (v1)), some (.inr (.inl (v5))), none, y12] [.inl (v9)] σ6 (w, σ') := h
      replace h := ei_p h rfl rfl rfl rfl
      obtain ⟨f, g, h⟩ := h
      clear g
      replace h : EV F f 186 z186 86 [some (rf 11 (0)), y1, some (rf 13 (17)), y3, y4, y5, some (.inl (u6)), some (.inl (u7)), some (.inl (t0)), some (.inl (v1)), some (.inr (.inl (v5))), none, y12] [.inl (v1), .inl (v9)] σ6 (w, σ') := h
      replace h := ei_p h rfl rfl rfl rfl
      obtain ⟨f, g, h⟩ := h
      clear g
      replace h : EV F f 186 z186 87 [some (rf 11 (0)), y1, some (rf 13 (17)), y3, y4, y5, some (.inl (u6)), some (.inl (u7)), some (.inl (t0)), some (.inl (v1)), some (.inr (.inl (v5))), none, y12] [.inl ((v9) - (v1))] σ6 (w, σ') := h
      replace h := ei_p h rfl rfl rfl rfl
      obtain ⟨f, g, h⟩ := h
      clear g
      replace h : EV F f 186 z186 89 [some (rf 11 (0)), y1, some (rf 13 (17)), y3, y4, y5, some (.inl (u6)), some (.inl (u7)), some (.inl (t0)), some (.inl (v1)), some (.inr (.inl (v5))), none, some (.inl ((v9) - (v1)))] [] σ6 (w, σ') := h
      replace h := ei_p h rfl rfl rfl rfl
      obtain ⟨f, g, h⟩ := h
      clear g
      replace h : EV F f 186 z186 91 [some (rf 11 (0)), y1, some (rf 13 (17)), y3, y4, y5, some (.inl (u6)), some (.inl (u7)), some (.inl (t0)), some (.inl (v1)), some (.inr (.inl (v5))), none, some (.inl ((v9) - (v1)))] [.inl (u6)] σ6 (w, σ') := h
      replace h := ei_p h rfl rfl rfl rfl
      obtain ⟨f, g, h⟩ := h
      clear g
      replace h : EV F f 186 z186 92 [some (rf 11 (0)), y1, some (rf 13 (17)), y3, y4, y5, some (.inl (u6)), some (.inl (u7)), some (.inl (t0)), some (.inl (v1)), some (.inr (.inl (v5))), none, some (.inl ((v9) - (v1)))] [rf 13 (17), .inl (u6)] σ6 (w, σ') := h
      replace h := ei_p h rfl rfl rfl rfl
      obtain ⟨f, g, h⟩ := h
      clear g
      replace h : EV F f 186 z186 93 [some (rf 11 (0)), y1, some (rf 13 (17)), y3, y4, y5, some (.inl (u6)), some (.inl (u7)), some (.inl (t0)), some (.inl (v1)), some (.inr (.inl (v5))), none, some (.inl ((v9) - (v1)))] [.inl (Int32.ofInt 0), rf 13 (17), .inl (u6)] σ6 (w, σ') := h
      replace h := ei_iald h rfl (fun _ => rfl)
      obtain ⟨vp13, f, g, h⟩ := h
      clear g
      replace h : EV F f 186 z186 94 [some (rf 11 (0)), y1, some (rf 13 (17)), y3, y4, y5, some (.inl (u6)), some (.inl (u7)), some (.inl (t0)), some (.inl (v1)), some (.inr (.inl (v5))), none, some (.inl ((v9) - (v1)))] [.inl (m_i σ6 13 (17) (Int32.ofInt 0).toNatClampNeg), .inl (u6)] σ6 (w, σ') := h
      refine ⟨vp_2 vp13, ?_⟩
      replace h := ei_c h rfl rfl rfl
      rcases h with ⟨hp14, f, g, h⟩ | ⟨hp14, f, g, h⟩
      · skip
        replace hp14 : (u6).toInt ≠ (m_i σ6 13 (17) (Int32.ofInt 0).toNatClampNeg).toInt := ic_ne.mp hp14
        refine Or.inl ⟨hp14, ?_⟩
        clear g
        replace h : EV F f 186 z186 114 [some (rf 11 (0)), y1, some (rf 13 (17)), y3, y4, y5, some (.inl (u6)), some (.inl (u7)), some (.inl (t0)), some (.inl (v1)), some (.inr (.inl (v5))), none, some (.inl ((v9) - (v1)))] [] σ6 (w, σ') := h
        replace h := ei_p h rfl rfl rfl rfl
        obtain ⟨f, g, h⟩ := h
        clear g
        replace h : EV F f 186 z186 116 [some (rf 11 (0)), y1, some (rf 13 (17)), y3, y4, y5, some (.inl (u6)), some (.inl (u7)), some (.inl (t0)), some (.inl (v1)), some (.inr (.inl (v5))), none, some (.inl ((v9) - (v1)))] [.inl (u7)] σ6 (w, σ') := h
        replace h := ei_p h rfl rfl rfl rfl
        obtain ⟨f, g, h⟩ := h
        clear g
        replace h : EV F f 186 z186 118 [some (rf 11 (0)), y1, some (rf 13 (17)), y3, y4, y5, some (.inl (u6)), some (.inl (u7)), some (.inl (t0)), some (.inl (v1)), some (.inr (.inl (v5))), none, some (.inl ((v9) - (v1)))] [.inl (Int32.ofInt 10), .inl (u7)] σ6 (w, σ') := h
        replace h := ei_irem h rfl
        obtain ⟨hd15, f, g, h⟩ := h
        clear g
        replace h : EV F f 186 z186 119 [some (rf 11 (0)), y1, some (rf 13 (17)), y3, y4, y5, some (.inl (u6)), some (.inl (u7)), some (.inl (t0)), some (.inl (v1)), some (.inr (.inl (v5))), none, some (.inl ((v9) - (v1)))] [.inl ((u7) - (u7) / (Int32.ofInt 10) * (Int32.ofInt 10))] σ6 (w, σ') := h
        replace h := ei_c h rfl rfl rfl
        rcases h with ⟨hp16, f, g, h⟩ | ⟨hp16, f, g, h⟩
        · skip
          replace hp16 : ((u7) - (u7) / (Int32.ofInt 10) * (Int32.ofInt 10)).toInt ≠ (0 : Int) := ic_ne.mp hp16
          refine Or.inl ⟨hp16, ?_⟩
          clear g
          replace h : EV F f 186 z186 144 [some (rf 11 (0)), y1, some (rf 13 (17)), y3, y4, y5, some (.inl (u6)), some (.inl (u7)), some (.inl (t0)), some (.inl (v1)), some (.inr (.inl (v5))), none, some (.inl ((v9) - (v1)))] [] σ6 (w, σ') := h
          replace h := ei_p h rfl rfl rfl rfl
          obtain ⟨f, g, h⟩ := h
          clear g
          replace h : EV F f 186 z186 146 [some (rf 11 (0)), y1, some (rf 13 (17)), y3, y4, y5, some (.inl (u6)), some (.inl (u7)), some (.inl (t0)), some (.inl (v1)), some (.inr (.inl (v5))), none, some (.inl ((v9) - (v1)))] [.inr (.inl (v5))] σ6 (w, σ') := h
          replace h := ei_p h rfl rfl rfl rfl
          obtain ⟨f, g, h⟩ := h
          clear g
          replace h : EV F f 186 z186 148 [some (rf 11 (0)), y1, some (rf 13 (17)), y3, y4, y5, some (.inl (u6)), some (.inl (u7)), some (.inl (t0)), some (.inl (v1)), some (.inr (.inl (v5))), none, some (.inl ((v9) - (v1)))] [.inl (u7), .inr (.inl (v5))] σ6 (w, σ') := h
          replace h := ei_p h rfl rfl rfl rfl
          obtain ⟨f, g, h⟩ := h
          clear g
          replace h : EV F f 186 z186 150 [some (rf 11 (0)), y1, some (rf 13 (17)), y3, y4, y5, some (.inl (u6)), some (.inl (u7)), some (.inl (t0)), some (.inl (v1)), some (.inr (.inl (v5))), none, some (.inl ((v9) - (v1)))] [.inl (Int32.ofInt 10), .inl (u7), .inr (.inl (v5))] σ6 (w, σ') := h
          replace h := ei_idiv h rfl
          obtain ⟨hd17, f, g, h⟩ := h
          clear g
          replace h : EV F f 186 z186 151 [some (rf 11 (0)), y1, some (rf 13 (17)), y3, y4, y5, some (.inl (u6)), some (.inl (u7)), some (.inl (t0)), some (.inl (v1)), some (.inr (.inl (v5))), none, some (.inl ((v9) - (v1)))] [.inl ((u7) / (Int32.ofInt 10)), .inr (.inl (v5))] σ6 (w, σ') := h
          replace h := ei_p h rfl rfl rfl rfl
          obtain ⟨f, g, h⟩ := h
          clear g
          replace h : EV F f 186 z186 152 [some (rf 11 (0)), y1, some (rf 13 (17)), y3, y4, y5, some (.inl (u6)), some (.inl (u7)), some (.inl (t0)), some (.inl (v1)), some (.inr (.inl (v5))), none, some (.inl ((v9) - (v1)))] [.inr (.inl (((u7) / (Int32.ofInt 10)).toInt64)), .inr (.inl (v5))] σ6 (w, σ') := h
          replace h := ei_p h rfl rfl rfl rfl
          obtain ⟨f, g, h⟩ := h
          clear g
          replace h : EV F f 186 z186 153 [some (rf 11 (0)), y1, some (rf 13 (17)), y3, y4, y5, some (.inl (u6)), some (.inl (u7)), some (.inl (t0)), some (.inl (v1)), some (.inr (.inl (v5))), none, some (.inl ((v9) - (v1)))] [.inl (lg_cmp (v5) (((u7) / (Int32.ofInt 10)).toInt64))] σ6 (w, σ') := h
          replace h := ei_c h rfl rfl rfl
          rcases h with ⟨hp18, f, g, h⟩ | ⟨hp18, f, g, h⟩
          · skip
            replace hp18 : (v5).toInt ≠ (((u7) / (Int32.ofInt 10)).toInt64).toInt := (ab_lc .ne _ _).mp hp18
            refine Or.inl ⟨hp18, ?_⟩
            clear g
            replace h : EV F f 186 z186 181 [some (rf 11 (0)), y1, some (rf 13 (17)), y3, y4, y5, some (.inl (u6)), some (.inl (u7)), some (.inl (t0)), some (.inl (v1)), some (.inr (.inl (v5))), none, some (.inl ((v9) - (v1)))] [] σ6 (w, σ') := h
            exact j186_181 hsσ6 h
          · skip
            replace hp18 : ¬ ((v5).toInt ≠ (((u7) / (Int32.ofInt 10)).toInt64).toInt) := (not_congr (ab_lc .ne _ _)).mp hp18
            refine Or.inr ⟨hp18, ?_⟩
            clear g
            replace h : EV F f 186 z186 156 [some (rf 11 (0)), y1, some (rf 13 (17)), y3, y4, y5, some (.inl (u6)), some (.inl (u7)), some (.inl (t0)), some (.inl (v1)), some (.inr (.inl (v5))), none, some (.inl ((v9) - (v1)))] [] σ6 (w, σ') := h
            replace h := ei_p h rfl rfl rfl rfl
            obtain ⟨f, g, h⟩ := h
            clear g
            replace h : EV F f 186 z186 157 [some (rf 11 (0)), y1, some (rf 13 (17)), y3, y4, y5, some (.inl (u6)), some (.inl (u7)), some (.inl (t0)), some (.inl (v1)), some (.inr (.inl (v5))), none, some (.inl ((v9) - (v1)))] [rf 11 (0)] σ6 (w, σ') := h
            replace h := ei_p h rfl rfl rfl rfl
            obtain ⟨f, g, h⟩ := h
            clear g
            replace h : EV F f 186 z186 159 [some (rf 11 (0)), y1, some (rf 13 (17)), y3, y4, y5, some (.inl (u6)), some (.inl (u7)), some (.inl (t0)), some (.inl (v1)), some (.inr (.inl (v5))), none, some (.inl ((v9) - (v1)))] [.inl (u6), rf 11 (0)] σ6 (w, σ') := h
            replace h := bx_I (ei_v (as := [.inl (u6)]) h rfl rfl rfl) z131_at (Or.inl rfl)
            rcases h with ⟨v19, σ20, r21, f, g, h⟩ | ⟨b, σ20, r21, e⟩
            · skip
              have er21 := ro2_run rfl r21
              rw [er21] at h r21
              clear g
              have p22 := x131 hsσ6.1 r21
              refine Or.inl ⟨v19, p22, ?_⟩
              replace h : EV F f 186 z186 162 [some (rf 11 (0)), y1, some (rf 13 (17)), y3, y4, y5, some (.inl (u6)), some (.inl (u7)), some (.inl (t0)), some (.inl (v1)), some (.inr (.inl (v5))), none, some (.inl ((v9) - (v1)))] [.inl (v19)] σ6 (w, σ') := h
              replace h := ei_c h rfl rfl rfl
              rcases h with ⟨hp23, f, g, h⟩ | ⟨hp23, f, g, h⟩
              · skip
                replace hp23 : (v19).toInt ≠ (0 : Int) := ic_ne.mp hp23
                refine Or.inl ⟨hp23, ?_⟩
                clear g
                replace h : EV F f 186 z186 181 [some (rf 11 (0)), y1, some (rf 13 (17)), y3, y4, y5, some (.inl (u6)), some (.inl (u7)), some (.inl (t0)), some (.inl (v1)), some (.inr (.inl (v5))), none, some (.inl ((v9) - (v1)))] [] σ6 (w, σ') := h
                exact j186_181 hsσ6 h
              · skip
                replace hp23 : ¬ ((v19).toInt ≠ (0 : Int)) := (not_congr ic_ne).mp hp23
                refine Or.inr ⟨hp23, ?_⟩
                clear g
                replace h : EV F f 186 z186 165 [some (rf 11 (0)), y1, some (rf 13 (17)), y3, y4, y5, some (.inl (u6)), some (.inl (u7)), some (.inl (t0)), some (.inl (v1)), some (.inr (.inl (v5))), none, some (.inl ((v9) - (v1)))] [] σ6 (w, σ') := h
                replace h := ei_p h rfl rfl rfl rfl
                obtain ⟨f, g, h⟩ := h
                clear g
                replace h : EV F f 186 z186 167 [some (rf 11 (0)), y1, some (rf 13 (17)), y3, y4, y5, some (.inl (u6)), some (.inl (u7)), some (.inl (t0)), some (.inl (v1)), some (.inr (.inl (v5))), none, some (.inl ((v9) - (v1)))] [.inl ((v9) - (v1))] σ6 (w, σ') := h
                replace h := ei_c h rfl rfl rfl
                rcases h with ⟨hp24, f, g, h⟩ | ⟨hp24, f, g, h⟩
                · skip
                  replace hp24 : ((v9) - (v1)).toInt = (0 : Int) := ic_eq.mp hp24
                  refine Or.inl ⟨hp24, ?_⟩
                  clear g
                  replace h : EV F f 186 z186 177 [some (rf 11 (0)), y1, some (rf 13 (17)), y3, y4, y5, some (.inl (u6)), some (.inl (u7)), some (.inl (t0)), some (.inl (v1)), some (.inr (.inl (v5))), none, some (.inl ((v9) - (v1)))] [] σ6 (w, σ') := h
                  exact j186_177 hsσ6 h
                · skip
                  replace hp24 : ¬ (((v9) - (v1)).toInt = (0 : Int)) := (not_congr ic_eq).mp hp24
                  refine Or.inr ⟨hp24, ?_⟩
                  clear g
                  replace h : EV F f 186 z186 170 [some (rf 11 (0)), y1, some (rf 13 (17)), y3, y4, y5, some (.inl (u6)), some (.inl (u7)), some (.inl (t0)), some (.inl (v1)), some (.inr (.inl (v5))), none, some (.inl ((v9) - (v1)))] [] σ6 (w, σ') := h
                  replace h := ei_p h rfl rfl rfl rfl
                  obtain ⟨f, g, h⟩ := h
                  clear g
                  replace h : EV F f 186 z186 172 [some (rf 11 (0)), y1, some (rf 13 (17)), y3, y4, y5, some (.inl (u6)), some (.inl (u7)), some (.inl (t0)), some (.inl (v1)), some (.inr (.inl (v5))), none, some (.inl ((v9) - (v1)))] [.inl ((v9) - (v1))] σ6 (w, σ') := h
                  replace h := ei_p h rfl rfl rfl rfl
                  obtain ⟨f, g, h⟩ := h
                  clear g
                  replace h : EV F f 186 z186 174 [some (rf 11 (0)), y1, some (rf 13 (17)), y3, y4, y5, some (.inl (u6)), some (.inl (u7)), some (.inl (t0)), some (.inl (v1)), some (.inr (.inl (v5))), none, some (.inl ((v9) - (v1)))] [.inl (Int32.ofInt 10), .inl ((v9) - (v1))] σ6 (w, σ') := h
                  replace h := ei_c h rfl rfl rfl
                  rcases h with ⟨hp25, f, g, h⟩ | ⟨hp25, f, g, h⟩
                  · skip
                    replace hp25 : ((v9) - (v1)).toInt ≠ (10 : Int) := ic_ne.mp hp25
                    refine Or.inl ⟨hp25, ?_⟩
                    clear g
                    replace h : EV F f 186 z186 181 [some (rf 11 (0)), y1, some (rf 13 (17)), y3, y4, y5, some (.inl (u6)), some (.inl (u7)), some (.inl (t0)), some (.inl (v1)), some (.inr (.inl (v5))), none, some (.inl ((v9) - (v1)))] [] σ6 (w, σ') := h
                    exact j186_181 hsσ6 h
                  · skip
                    replace hp25 : ¬ (((v9) - (v1)).toInt ≠ (10 : Int)) := (not_congr ic_ne).mp hp25
                    refine Or.inr ⟨hp25, ?_⟩
                    clear g
                    replace h : EV F f 186 z186 177 [some (rf 11 (0)), y1, some (rf 13 (17)), y3, y4, y5, some (.inl (u6)), some (.inl (u7)), some (.inl (t0)), some (.inl (v1)), some (.inr (.inl (v5))), none, some (.inl ((v9) - (v1)))] [] σ6 (w, σ') := h
                    exact j186_177 hsσ6 h
            · skip
              have er21 := ro2_run rfl r21
              rw [er21] at e r21
              have p22 := x131 hsσ6.1 r21
              cases e
              exact Or.inr ⟨b, p22, rfl, rfl⟩
        · skip
          replace hp16 : ¬ (((u7) - (u7) / (Int32.ofInt 10) * (Int32.ofInt 10)).toInt ≠ (0 : Int)) := (not_congr ic_ne).mp hp16
          refine Or.inr ⟨hp16, ?_⟩
          clear g
          replace h : EV F f 186 z186 122 [some (rf 11 (0)), y1, some (rf 13 (17)), y3, y4, y5, some (.inl (u6)), some (.inl (u7)), some (.inl (t0)), some (.inl (v1)), some (.inr (.inl (v5))), none, some (.inl ((v9) - (v1)))] [] σ6 (w, σ') := h
          replace h := ei_p h rfl rfl rfl rfl
          obtain ⟨f, g, h⟩ := h
          clear g
          replace h : EV F f 186 z186 124 [some (rf 11 (0)), y1, some (rf 13 (17)), y3, y4, y5, some (.inl (u6)), some (.inl (u7)), some (.inl (t0)), some (.inl (v1)), some (.inr (.inl (v5))), none, some (.inl ((v9) - (v1)))] [.inr (.inl (v5))] σ6 (w, σ') := h
          replace h := ei_p h rfl rfl rfl rfl
          obtain ⟨f, g, h⟩ := h
          clear g
          replace h : EV F f 186 z186 127 [some (rf 11 (0)), y1, some (rf 13 (17)), y3, y4, y5, some (.inl (u6)), some (.inl (u7)), some (.inl (t0)), some (.inl (v1)), some (.inr (.inl (v5))), none, some (.inl ((v9) - (v1)))] [.inr (.inl (Int64.ofInt (-1000000000))), .inr (.inl (v5))] σ6 (w, σ') := h
          replace h := ei_p h rfl rfl rfl rfl
          obtain ⟨f, g, h⟩ := h
          clear g
          replace h : EV F f 186 z186 128 [some (rf 11 (0)), y1, some (rf 13 (17)), y3, y4, y5, some (.inl (u6)), some (.inl (u7)), some (.inl (t0)), some (.inl (v1)), some (.inr (.inl (v5))), none, some (.inl ((v9) - (v1)))] [.inl (lg_cmp (v5) (Int64.ofInt (-1000000000)))] σ6 (w, σ') := h
          replace h := ei_c h rfl rfl rfl
          rcases h with ⟨hp26, f, g, h⟩ | ⟨hp26, f, g, h⟩
          · skip
            replace hp26 : (v5).toInt ≠ (Int64.ofInt (-1000000000)).toInt := (ab_lc .ne _ _).mp hp26
            refine Or.inl ⟨hp26, ?_⟩
            clear g
            replace h : EV F f 186 z186 140 [some (rf 11 (0)), y1, some (rf 13 (17)), y3, y4, y5, some (.inl (u6)), some (.inl (u7)), some (.inl (t0)), some (.inl (v1)), some (.inr (.inl (v5))), none, some (.inl ((v9) - (v1)))] [] σ6 (w, σ') := h
            exact j186_140 hsσ6 h
          · skip
            replace hp26 : ¬ ((v5).toInt ≠ (Int64.ofInt (-1000000000)).toInt) := (not_congr (ab_lc .ne _ _)).mp hp26
            refine Or.inr ⟨hp26, ?_⟩
            clear g
            replace h : EV F f 186 z186 131 [some (rf 11 (0)), y1, some (rf 13 (17)), y3, y4, y5, some (.inl (u6)), some (.inl (u7)), some (.inl (t0)), some (.inl (v1)), some (.inr (.inl (v5))), none, some (.inl ((v9) - (v1)))] [] σ6 (w, σ') := h
            replace h := ei_p h rfl rfl rfl rfl
            obtain ⟨f, g, h⟩ := h
            clear g
            replace h : EV F f 186 z186 133 [some (rf 11 (0)), y1, some (rf 13 (17)), y3, y4, y5, some (.inl (u6)), some (.inl (u7)), some (.inl (t0)), some (.inl (v1)), some (.inr (.inl (v5))), none, some (.inl ((v9) - (v1)))] [.inl ((v9) - (v1))] σ6 (w, σ') := h
            replace h := ei_c h rfl rfl rfl
            rcases h with ⟨hp27, f, g, h⟩ | ⟨hp27, f, g, h⟩
            · skip
              replace hp27 : ((v9) - (v1)).toInt ≠ (0 : Int) := ic_ne.mp hp27
              refine Or.inl ⟨hp27, ?_⟩
              clear g
              replace h : EV F f 186 z186 140 [some (rf 11 (0)), y1, some (rf 13 (17)), y3, y4, y5, some (.inl (u6)), some (.inl (u7)), some (.inl (t0)), some (.inl (v1)), some (.inr (.inl (v5))), none, some (.inl ((v9) - (v1)))] [] σ6 (w, σ') := h
              exact j186_140 hsσ6 h
            · skip
              replace hp27 : ¬ (((v9) - (v1)).toInt ≠ (0 : Int)) := (not_congr ic_ne).mp hp27
              refine Or.inr ⟨hp27, ?_⟩
              clear g
              replace h : EV F f 186 z186 136 [some (rf 11 (0)), y1, some (rf 13 (17)), y3, y4, y5, some (.inl (u6)), some (.inl (u7)), some (.inl (t0)), some (.inl (v1)), some (.inr (.inl (v5))), none, some (.inl ((v9) - (v1)))] [] σ6 (w, σ') := h
              replace h := ei_p h rfl rfl rfl rfl
              obtain ⟨f, g, h⟩ := h
              clear g
              replace h : EV F f 186 z186 137 [some (rf 11 (0)), y1, some (rf 13 (17)), y3, y4, y5, some (.inl (u6)), some (.inl (u7)), some (.inl (t0)), some (.inl (v1)), some (.inr (.inl (v5))), none, some (.inl ((v9) - (v1)))] [.inl (Int32.ofInt 1)] σ6 (w, σ') := h
              replace h := ei_p h rfl rfl rfl rfl
              obtain ⟨f, g, h⟩ := h
              clear g
              replace h : EV F f 186 z186 182 [some (rf 11 (0)), y1, some (rf 13 (17)), y3, y4, y5, some (.inl (u6)), some (.inl (u7)), some (.inl (t0)), some (.inl (v1)), some (.inr (.inl (v5))), none, some (.inl ((v9) - (v1)))] [.inl (Int32.ofInt 1)] σ6 (w, σ') := h
              have e := ei_iret h rfl
              cases e
              exact ⟨rfl, rfl⟩
      · skip
        replace hp14 : ¬ ((u6).toInt ≠ (m_i σ6 13 (17) (Int32.ofInt 0).toNatClampNeg).toInt) := (not_congr ic_ne).mp hp14
        refine Or.inr ⟨hp14, ?_⟩
        clear g
        replace h : EV F f 186 z186 97 [some (rf 11 (0)), y1, some (rf 13 (17)), y3, y4, y5, some (.inl (u6)), some (.inl (u7)), some (.inl (t0)), some (.inl (v1)), some (.inr (.inl (v5))), none, some (.inl ((v9) - (v1)))] [] σ6 (w, σ') := h
        replace h := ei_p h rfl rfl rfl rfl
        obtain ⟨f, g, h⟩ := h
        clear g
        replace h : EV F f 186 z186 99 [some (rf 11 (0)), y1, some (rf 13 (17)), y3, y4, y5, some (.inl (u6)), some (.inl (u7)), some (.inl (t0)), some (.inl (v1)), some (.inr (.inl (v5))), none, some (.inl ((v9) - (v1)))] [.inr (.inl (v5))] σ6 (w, σ') := h
        replace h := ei_p h rfl rfl rfl rfl
        obtain ⟨f, g, h⟩ := h
        clear g
        replace h : EV F f 186 z186 102 [some (rf 11 (0)), y1, some (rf 13 (17)), y3, y4, y5, some (.inl (u6)), some (.inl (u7)), some (.inl (t0)), some (.inl (v1)), some (.inr (.inl (v5))), none, some (.inl ((v9) - (v1)))] [.inr (.inl (Int64.ofInt (-3000000000))), .inr (.inl (v5))] σ6 (w, σ') := h
        replace h := ei_p h rfl rfl rfl rfl
        obtain ⟨f, g, h⟩ := h
        clear g
        replace h : EV F f 186 z186 103 [some (rf 11 (0)), y1, some (rf 13 (17)), y3, y4, y5, some (.inl (u6)), some (.inl (u7)), some (.inl (t0)), some (.inl (v1)), some (.inr (.inl (v5))), none, some (.inl ((v9) - (v1)))] [.inl (lg_cmp (v5) (Int64.ofInt (-3000000000)))] σ6 (w, σ') := h
        replace h := ei_c h rfl rfl rfl
        rcases h with ⟨hp28, f, g, h⟩ | ⟨hp28, f, g, h⟩
        · skip
          replace hp28 : (v5).toInt ≠ (Int64.ofInt (-3000000000)).toInt := (ab_lc .ne _ _).mp hp28
          refine Or.inl ⟨hp28, ?_⟩
          clear g
          replace h : EV F f 186 z186 110 [some (rf 11 (0)), y1, some (rf 13 (17)), y3, y4, y5, some (.inl (u6)), some (.inl (u7)), some (.inl (t0)), some (.inl (v1)), some (.inr (.inl (v5))), none, some (.inl ((v9) - (v1)))] [] σ6 (w, σ') := h
          replace h := ei_p h rfl rfl rfl rfl
          obtain ⟨f, g, h⟩ := h
          clear g
          replace h : EV F f 186 z186 111 [some (rf 11 (0)), y1, some (rf 13 (17)), y3, y4, y5, some (.inl (u6)), some (.inl (u7)), some (.inl (t0)), some (.inl (v1)), some (.inr (.inl (v5))), none, some (.inl ((v9) - (v1)))] [.inl (Int32.ofInt 0)] σ6 (w, σ') := h
          replace h := ei_p h rfl rfl rfl rfl
          obtain ⟨f, g, h⟩ := h
          clear g
          replace h : EV F f 186 z186 182 [some (rf 11 (0)), y1, some (rf 13 (17)), y3, y4, y5, some (.inl (u6)), some (.inl (u7)), some (.inl (t0)), some (.inl (v1)), some (.inr (.inl (v5))), none, some (.inl ((v9) - (v1)))] [.inl (Int32.ofInt 0)] σ6 (w, σ') := h
          have e := ei_iret h rfl
          cases e
          exact ⟨rfl, rfl⟩
        · skip
          replace hp28 : ¬ ((v5).toInt ≠ (Int64.ofInt (-3000000000)).toInt) := (not_congr (ab_lc .ne _ _)).mp hp28
          refine Or.inr ⟨hp28, ?_⟩
          clear g
          replace h : EV F f 186 z186 106 [some (rf 11 (0)), y1, some (rf 13 (17)), y3, y4, y5, some (.inl (u6)), some (.inl (u7)), some (.inl (t0)), some (.inl (v1)), some (.inr (.inl (v5))), none, some (.inl ((v9) - (v1)))] [] σ6 (w, σ') := h
          replace h := ei_p h rfl rfl rfl rfl
          obtain ⟨f, g, h⟩ := h
          clear g
          replace h : EV F f 186 z186 107 [some (rf 11 (0)), y1, some (rf 13 (17)), y3, y4, y5, some (.inl (u6)), some (.inl (u7)), some (.inl (t0)), some (.inl (v1)), some (.inr (.inl (v5))), none, some (.inl ((v9) - (v1)))] [.inl (Int32.ofInt 1)] σ6 (w, σ') := h
          replace h := ei_p h rfl rfl rfl rfl
          obtain ⟨f, g, h⟩ := h
          clear g
          replace h : EV F f 186 z186 182 [some (rf 11 (0)), y1, some (rf 13 (17)), y3, y4, y5, some (.inl (u6)), some (.inl (u7)), some (.inl (t0)), some (.inl (v1)), some (.inr (.inl (v5))), none, some (.inl ((v9) - (v1)))] [.inl (Int32.ofInt 1)] σ6 (w, σ') := h
          have e := ei_iret h rfl
          cases e
          exact ⟨rfl, rfl⟩
    · skip
      have er11 := ro2_run rfl r11
      rw [er11] at e r11
      have p12 := x149 hsσ6.1 r11
      cases e
      exact Or.inr ⟨b, p12, rfl, rfl⟩
  · skip
    have er3 := ro2_run rfl r3
    rw [er3] at e r3
    have p4 := x149 hsτ.1 r3
    cases e
    exact Or.inr ⟨b, p4, rfl, rfl⟩
def J186_28 (u3 : Int32) (u5 : Int32) (u6 : Int32) (t0 : Int32) (τ : mS) (w : mX) (σ' : mS) : Prop := (((u3).toInt ≠ (0 : Int) ∧ (0 ≤ (0 : Int) ∧ (0 : Int) < (τ.2.1 13 (17) : Int)) ∧ ∃ n4, n4 = (u5) - (u5) / ((m_i τ 13 (17) (Int32.ofInt 0).toNatClampNeg) + (Int32.ofInt 1)) * ((m_i τ 13 (17) (Int32.ofInt 0).toNatClampNeg) + (Int32.ofInt 1)) ∧ ∃ v6 σ7, gF τ σ7 ∧ HL σ7 ∧ P173 τ (Int32.ofInt 0) (u6) (n4) (.inl (some (.inl v6))) σ7 ∧ (0 ≤ (0 : Int) ∧ (0 : Int) < (σ7.2.1 13 (17) : Int)) ∧ (((u6).toInt = (m_i σ7 13 (17) (Int32.ofInt 0).toNatClampNeg).toInt ∧ J186_220 (v6) σ7 w σ') ∨ (¬ ((u6).toInt = (m_i σ7 13 (17) (Int32.ofInt 0).toNatClampNeg).toInt) ∧ (0 ≤ (0 : Int) ∧ (0 : Int) < (σ7.2.1 13 (17) : Int)) ∧ (((n4).toInt ≠ (m_i σ7 13 (17) (Int32.ofInt 0).toNatClampNeg).toInt ∧ (((u6).toInt = (n4).toInt ∧ J186_261 (u6) (t0) (n4) (v6) σ7 w σ') ∨ (¬ ((u6).toInt = (n4).toInt) ∧ (0 ≤ (u6).toInt ∧ (u6).toInt < (σ7.2.1 13 (15) : Int)) ∧ (0 ≤ (n4).toInt ∧ (n4).toInt < (σ7.2.1 13 (15) : Int)) ∧ ((((m_i σ7 13 (15) (u6).toNatClampNeg) - (m_i σ7 13 (15) (u6).toNatClampNeg) / (Int32.ofInt 10) * (Int32.ofInt 10)).toInt ≠ ((m_i σ7 13 (15) (n4).toNatClampNeg) - (m_i σ7 13 (15) (n4).toNatClampNeg) / (Int32.ofInt 10) * (Int32.ofInt 10)).toInt ∧ J186_261 (u6) (t0) (n4) (v6) σ7 w σ') ∨ (¬ (((m_i σ7 13 (15) (u6).toNatClampNeg) - (m_i σ7 13 (15) (u6).toNatClampNeg) / (Int32.ofInt 10) * (Int32.ofInt 10)).toInt ≠ ((m_i σ7 13 (15) (n4).toNatClampNeg) - (m_i σ7 13 (15) (n4).toNatClampNeg) / (Int32.ofInt 10) * (Int32.ofInt 10)).toInt) ∧ J186_262 (u6) (t0) (n4) (v6) (Int32.ofInt 1) σ7 w σ'))))) ∨ (¬ ((n4).toInt ≠ (m_i σ7 13 (17) (Int32.ofInt 0).toNatClampNeg).toInt) ∧ J186_220 (v6) σ7 w σ'))))) ∨ (¬ ((u3).toInt ≠ (0 : Int)) ∧ (0 ≤ (0 : Int) ∧ (0 : Int) < (τ.2.1 13 (17) : Int)) ∧ (((m_i τ 13 (17) (Int32.ofInt 0).toNatClampNeg).toInt ≤ (u6).toInt ∧ J186_53 (u6) (t0) (Int32.ofInt 0) τ w σ') ∨ (¬ ((m_i τ 13 (17) (Int32.ofInt 0).toNatClampNeg).toInt ≤ (u6).toInt) ∧ (0 ≤ (u6).toInt ∧ (u6).toInt < (τ.2.1 13 (15) : Int)) ∧ J186_53 (u6) (t0) ((m_i τ 13 (15) (u6).toNatClampNeg) - (m_i τ 13 (15) (u6).toNatClampNeg) / (Int32.ofInt 10) * (Int32.ofInt 10)) τ w σ'))))
set_option maxRecDepth 100000 in
theorem j186_28 {F f : Nat} {σ' τ : mS} {u3 : Int32} {u5 : Int32} {u6 : Int32} {t0 : Int32} {y4 : Option mV} {y7 : Option mV} {y8 : Option mV} {y9 : Option mV} {y10 : Option mV} {y11 : Option mV} {y12 : Option mV} {w : mX} (hsτ : HL τ) (h : EV F f 186 z186 28 [some (rf 11 (0)), some (rf 13 (15)), some (rf 13 (17)), some (.inl (u3)), y4, some (.inl (u5)), some (.inl (u6)), y7, y8, y9, y10, y11, y12] [.inl (t0)] τ (w, σ')) : J186_28 u3 u5 u6 t0 τ w σ' := by
  unfold J186_28
  replace h := ei_p h rfl rfl rfl rfl
  obtain ⟨f, g, h⟩ := h
  clear g
  replace h : EV F f 186 z186 30 [some (rf 11 (0)), some (rf 13 (15)), some (rf 13 (17)), some (.inl (u3)), y4, some (.inl (u5)), some (.inl (u6)), some (.inl (t0)), y8, y9, y10, y11, y12] [] τ (w, σ') := h
  replace h := ei_p h rfl rfl rfl rfl
  obtain ⟨f, g, h⟩ := h
  clear g
  replace h : EV F f 186 z186 31 [some (rf 11 (0)), some (rf 13 (15)), some (rf 13 (17)), some (.inl (u3)), y4, some (.inl (u5)), some (.inl (u6)), some (.inl (t0)), y8, y9, y10, y11, y12] [.inl (u3)] τ (w, σ') := h
  replace h := ei_c h rfl rfl rfl
  rcases h with ⟨hp1, f, g, h⟩ | ⟨hp1, f, g, h⟩
  · skip
    replace hp1 : (u3).toInt ≠ (0 : Int) := ic_ne.mp hp1
    refine Or.inl ⟨hp1, ?_⟩
    clear g
    replace h : EV F f 186 z186 183 [some (rf 11 (0)), some (rf 13 (15)), some (rf 13 (17)), some (.inl (u3)), y4, some (.inl (u5)), some (.inl (u6)), some (.inl (t0)), y8, y9, y10, y11, y12] [] τ (w, σ') := h
    replace h := ei_p h rfl rfl rfl rfl
    obtain ⟨f, g, h⟩ := h
    clear g
    replace h : EV F f 186 z186 185 [some (rf 11 (0)), some (rf 13 (15)), some (rf 13 (17)), some (.inl (u3)), y4, some (.inl (u5)), some (.inl (u6)), some (.inl (t0)), y8, y9, y10, y11, y12] [.inl (u5)] τ (w, σ') := h
    replace h := ei_p h rfl rfl rfl rfl
    obtain ⟨f, g, h⟩ := h
    clear g
    replace h : EV F f 186 z186 186 [some (rf 11 (0)), some (rf 13 (15)), some (rf 13 (17)), some (.inl (u3)), y4, some (.inl (u5)), some (.inl (u6)), some (.inl (t0)), y8, y9, y10, y11, y12] [rf 13 (17), .inl (u5)] τ (w, σ') := h
    replace h := ei_p h rfl rfl rfl rfl
    obtain ⟨f, g, h⟩ := h
    clear g
    replace h : EV F f 186 z186 187 [some (rf 11 (0)), some (rf 13 (15)), some (rf 13 (17)), some (.inl (u3)), y4, some (.inl (u5)), some (.inl (u6)), some (.inl (t0)), y8, y9, y10, y11, y12] [.inl (Int32.ofInt 0), rf 13 (17), .inl (u5)] τ (w, σ') := h
    replace h := ei_iald h rfl (fun _ => rfl)
    obtain ⟨vp2, f, g, h⟩ := h
    clear g
    replace h : EV F f 186 z186 188 [some (rf 11 (0)), some (rf 13 (15)), some (rf 13 (17)), some (.inl (u3)), y4, some (.inl (u5)), some (.inl (u6)), some (.inl (t0)), y8, y9, y10, y11, y12] [.inl (m_i τ 13 (17) (Int32.ofInt 0).toNatClampNeg), .inl (u5)] τ (w, σ') := h
    refine ⟨vp_2 vp2, ?_⟩
    replace h := ei_p h rfl rfl rfl rfl
    obtain ⟨f, g, h⟩ := h
    clear g
    replace h : EV F f 186 z186 189 [some (rf 11 (0)), some (rf 13 (15)), some (rf 13 (17)), some (.inl (u3)), y4, some (.inl (u5)), some (.inl (u6)), some (.inl (t0)), y8, y9, y10, y11, y12] [.inl (Int32.ofInt 1), .inl (m_i τ 13 (17) (Int32.ofInt 0).toNatClampNeg), .inl (u5)] τ (w, σ') := h
    replace h := ei_p h rfl rfl rfl rfl
    obtain ⟨f, g, h⟩ := h
    clear g
    replace h : EV F f 186 z186 190 [some (rf 11 (0)), some (rf 13 (15)), some (rf 13 (17)), some (.inl (u3)), y4, some (.inl (u5)), some (.inl (u6)), some (.inl (t0)), y8, y9, y10, y11, y12] [.inl ((m_i τ 13 (17) (Int32.ofInt 0).toNatClampNeg) + (Int32.ofInt 1)), .inl (u5)] τ (w, σ') := h
    replace h := ei_irem h rfl
    obtain ⟨hd3, f, g, h⟩ := h
    clear g
    replace h : EV F f 186 z186 191 [some (rf 11 (0)), some (rf 13 (15)), some (rf 13 (17)), some (.inl (u3)), y4, some (.inl (u5)), some (.inl (u6)), some (.inl (t0)), y8, y9, y10, y11, y12] [.inl ((u5) - (u5) / ((m_i τ 13 (17) (Int32.ofInt 0).toNatClampNeg) + (Int32.ofInt 1)) * ((m_i τ 13 (17) (Int32.ofInt 0).toNatClampNeg) + (Int32.ofInt 1)))] τ (w, σ') := h
    replace h := ei_p h rfl rfl rfl rfl
    obtain ⟨f, g, h⟩ := h
    clear g
    replace h : EV F f 186 z186 193 [some (rf 11 (0)), some (rf 13 (15)), some (rf 13 (17)), some (.inl (u3)), y4, some (.inl (u5)), some (.inl (u6)), some (.inl (t0)), some (.inl ((u5) - (u5) / ((m_i τ 13 (17) (Int32.ofInt 0).toNatClampNeg) + (Int32.ofInt 1)) * ((m_i τ 13 (17) (Int32.ofInt 0).toNatClampNeg) + (Int32.ofInt 1)))), y9, y10, y11, y12] [] τ (w, σ') := h
    obtain ⟨n4, e5⟩ : ∃ s, s = (u5) - (u5) / ((m_i τ 13 (17) (Int32.ofInt 0).toNatClampNeg) + (Int32.ofInt 1)) * ((m_i τ 13 (17) (Int32.ofInt 0).toNatClampNeg) + (Int32.ofInt 1)) := ⟨_, rfl⟩
    rw [← e5] at h
    refine ⟨n4, e5, ?_⟩
    replace h : EV F f 186 z186 193 [some (rf 11 (0)), some (rf 13 (15)), some (rf 13 (17)), some (.inl (u3)), y4, some (.inl (u5)), some (.inl (u6)), some (.inl (t0)), some (.inl (n4)), y9, y10, y11, y12] [] τ (w, σ') := h
    replace h := ei_p h rfl rfl rfl rfl
    obtain ⟨f, g, h⟩ := h
    clear g
    replace h : EV F f 186 z186 194 [some (rf 11 (0)), some (rf 13 (15)), some (rf 13 (17)), some (.inl (u3)), y4, some (.inl (u5)), some (.inl (u6)), some (.inl (t0)), some (.inl (n4)), y9, y10, y11, y12] [rf 11 (0)] τ (w, σ') := h
    replace h := ei_p h rfl rfl rfl rfl
    obtain ⟨f, g, h⟩ := h
    clear g
    replace h : EV F f 186 z186 195 [some (rf 11 (0)), some (rf 13 (15)), some (rf 13 (17)), some (.inl (u3)), y4, some (.inl (u5)), some (.inl (u6)), some (.inl (t0)), some (.inl (n4)), y9, y10, y11, y12] [.inl (Int32.ofInt 0), rf 11 (0)] τ (w, σ') := h
    replace h := ei_p h rfl rfl rfl rfl
    obtain ⟨f, g, h⟩ := h
    clear g
    replace h : EV F f 186 z186 197 [some (rf 11 (0)), some (rf 13 (15)), some (rf 13 (17)), some (.inl (u3)), y4, some (.inl (u5)), some (.inl (u6)), some (.inl (t0)), some (.inl (n4)), y9, y10, y11, y12] [.inl (u6), .inl (Int32.ofInt 0), rf 11 (0)] τ (w, σ') := h
    replace h := ei_p h rfl rfl rfl rfl
    obtain ⟨f, g, h⟩ := h
    clear g
    replace h : EV F f 186 z186 199 [some (rf 11 (0)), some (rf 13 (15)), some (rf 13 (17)), some (.inl (u3)), y4, some (.inl (u5)), some (.inl (u6)), some (.inl (t0)), some (.inl (n4)), y9, y10, y11, y12] [.inl (n4), .inl (u6), .inl (Int32.ofInt 0), rf 11 (0)] τ (w, σ') := h
    replace h := bx_I (ei_s (as := [.inl (n4), .inl (u6), .inl (Int32.ofInt 0), rf 11 (0)]) h rfl (Nat.le_of_ble_eq_true rfl) rfl rfl) z173_at (Or.inl rfl)
    rcases h with ⟨v6, σ7, r8, f, g, h⟩ | ⟨b, σ7, r8, e⟩
    rotate_left
    · exact (nt173 (x173 hsτ r8)).elim
    clear g
    have p9 := x173 hsτ r8
    have hsσ7 : HL σ7 := hl173 p9
    refine ⟨v6, σ7, gF_r r8 rfl hsτ, hsσ7, p9, ?_⟩
    replace h : EV F f 186 z186 202 [some (rf 11 (0)), some (rf 13 (15)), some (rf 13 (17)), some (.inl (u3)), y4, some (.inl (u5)), some (.inl (u6)), some (.inl (t0)), some (.inl (n4)), y9, y10, y11, y12] [.inl (v6)] σ7 (w, σ') := h
    replace h := ei_p h rfl rfl rfl rfl
    obtain ⟨f, g, h⟩ := h
    clear g
    replace h : EV F f 186 z186 204 [some (rf 11 (0)), some (rf 13 (15)), some (rf 13 (17)), some (.inl (u3)), y4, some (.inl (u5)), some (.inl (u6)), some (.inl (t0)), some (.inl (n4)), some (.inl (v6)), y10, y11, y12] [] σ7 (w, σ') := h
    replace h := ei_p h rfl rfl rfl rfl
    obtain ⟨f, g, h⟩ := h
    clear g
    replace h : EV F f 186 z186 206 [some (rf 11 (0)), some (rf 13 (15)), some (rf 13 (17)), some (.inl (u3)), y4, some (.inl (u5)), some (.inl (u6)), some (.inl (t0)), some (.inl (n4)), some (.inl (v6)), y10, y11, y12] [.inl (u6)] σ7 (w, σ') := h
    replace h := ei_p h rfl rfl rfl rfl
    obtain ⟨f, g, h⟩ := h
    clear g
    replace h : EV F f 186 z186 207 [some (rf 11 (0)), some (rf 13 (15)), some (rf 13 (17)), some (.inl (u3)), y4, some (.inl (u5)), some (.inl (u6)), some (.inl (t0)), some (.inl (n4)), some (.inl (v6)), y10, y11, y12] [rf 13 (17), .inl (u6)] σ7 (w, σ') := h
    replace h := ei_p h rfl rfl rfl rfl
    obtain ⟨f, g, h⟩ := h
    clear g
    replace h : EV F f 186 z186 208 [some (rf 11 (0)), some (rf 13 (15)), some (rf 13 (17)), some (.inl (u3)), y4, some (.inl (u5)), some (.inl (u6)), some (.inl (t0)), some (.inl (n4)), some (.inl (v6)), y10, y11, y12] [.inl (Int32.ofInt 0), rf 13 (17), .inl (u6)] σ7 (w, σ') := h
    replace h := ei_iald h rfl (fun _ => rfl)
    obtain ⟨vp10, f, g, h⟩ := h
    clear g
    replace h : EV F f 186 z186 209 [some (rf 11 (0)), some (rf 13 (15)), some (rf 13 (17)), some (.inl (u3)), y4, some (.inl (u5)), some (.inl (u6)), some (.inl (t0)), some (.inl (n4)), some (.inl (v6)), y10, y11, y12] [.inl (m_i σ7 13 (17) (Int32.ofInt 0).toNatClampNeg), .inl (u6)] σ7 (w, σ') := h
    refine ⟨vp_2 vp10, ?_⟩
    replace h := ei_c h rfl rfl rfl
    rcases h with ⟨hp11, f, g, h⟩ | ⟨hp11, f, g, h⟩
    · skip
      replace hp11 : (u6).toInt = (m_i σ7 13 (17) (Int32.ofInt 0).toNatClampNeg).toInt := ic_eq.mp hp11
      refine Or.inl ⟨hp11, ?_⟩
      clear g
      replace h : EV F f 186 z186 220 [some (rf 11 (0)), some (rf 13 (15)), some (rf 13 (17)), some (.inl (u3)), y4, some (.inl (u5)), some (.inl (u6)), some (.inl (t0)), some (.inl (n4)), some (.inl (v6)), y10, y11, y12] [] σ7 (w, σ') := h
      exact j186_220 hsσ7 h
    · skip
      replace hp11 : ¬ ((u6).toInt = (m_i σ7 13 (17) (Int32.ofInt 0).toNatClampNeg).toInt) := (not_congr ic_eq).mp hp11
      refine Or.inr ⟨hp11, ?_⟩
      clear g
      replace h : EV F f 186 z186 212 [some (rf 11 (0)), some (rf 13 (15)), some (rf 13 (17)), some (.inl (u3)), y4, some (.inl (u5)), some (.inl (u6)), some (.inl (t0)), some (.inl (n4)), some (.inl (v6)), y10, y11, y12] [] σ7 (w, σ') := h
      replace h := ei_p h rfl rfl rfl rfl
      obtain ⟨f, g, h⟩ := h
      clear g
      replace h : EV F f 186 z186 214 [some (rf 11 (0)), some (rf 13 (15)), some (rf 13 (17)), some (.inl (u3)), y4, some (.inl (u5)), some (.inl (u6)), some (.inl (t0)), some (.inl (n4)), some (.inl (v6)), y10, y11, y12] [.inl (n4)] σ7 (w, σ') := h
      replace h := ei_p h rfl rfl rfl rfl
      obtain ⟨f, g, h⟩ := h
      clear g
      replace h : EV F f 186 z186 215 [some (rf 11 (0)), some (rf 13 (15)), some (rf 13 (17)), some (.inl (u3)), y4, some (.inl (u5)), some (.inl (u6)), some (.inl (t0)), some (.inl (n4)), some (.inl (v6)), y10, y11, y12] [rf 13 (17), .inl (n4)] σ7 (w, σ') := h
      replace h := ei_p h rfl rfl rfl rfl
      obtain ⟨f, g, h⟩ := h
      clear g
      replace h : EV F f 186 z186 216 [some (rf 11 (0)), some (rf 13 (15)), some (rf 13 (17)), some (.inl (u3)), y4, some (.inl (u5)), some (.inl (u6)), some (.inl (t0)), some (.inl (n4)), some (.inl (v6)), y10, y11, y12] [.inl (Int32.ofInt 0), rf 13 (17), .inl (n4)] σ7 (w, σ') := h
      replace h := ei_iald h rfl (fun _ => rfl)
      obtain ⟨vp12, f, g, h⟩ := h
      clear g
      replace h : EV F f 186 z186 217 [some (rf 11 (0)), some (rf 13 (15)), some (rf 13 (17)), some (.inl (u3)), y4, some (.inl (u5)), some (.inl (u6)), some (.inl (t0)), some (.inl (n4)), some (.inl (v6)), y10, y11, y12] [.inl (m_i σ7 13 (17) (Int32.ofInt 0).toNatClampNeg), .inl (n4)] σ7 (w, σ') := h
      refine ⟨vp_2 vp12, ?_⟩
      replace h := ei_c h rfl rfl rfl
      rcases h with ⟨hp13, f, g, h⟩ | ⟨hp13, f, g, h⟩
      · skip
        replace hp13 : (n4).toInt ≠ (m_i σ7 13 (17) (Int32.ofInt 0).toNatClampNeg).toInt := ic_ne.mp hp13
        refine Or.inl ⟨hp13, ?_⟩
        clear g
        replace h : EV F f 186 z186 233 [some (rf 11 (0)), some (rf 13 (15)), some (rf 13 (17)), some (.inl (u3)), y4, some (.inl (u5)), some (.inl (u6)), some (.inl (t0)), some (.inl (n4)), some (.inl (v6)), y10, y11, y12] [] σ7 (w, σ') := h
        replace h := ei_p h rfl rfl rfl rfl
        obtain ⟨f, g, h⟩ := h
        clear g
        replace h : EV F f 186 z186 235 [some (rf 11 (0)), some (rf 13 (15)), some (rf 13 (17)), some (.inl (u3)), y4, some (.inl (u5)), some (.inl (u6)), some (.inl (t0)), some (.inl (n4)), some (.inl (v6)), y10, y11, y12] [.inl (u6)] σ7 (w, σ') := h
        replace h := ei_p h rfl rfl rfl rfl
        obtain ⟨f, g, h⟩ := h
        clear g
        replace h : EV F f 186 z186 237 [some (rf 11 (0)), some (rf 13 (15)), some (rf 13 (17)), some (.inl (u3)), y4, some (.inl (u5)), some (.inl (u6)), some (.inl (t0)), some (.inl (n4)), some (.inl (v6)), y10, y11, y12] [.inl (n4), .inl (u6)] σ7 (w, σ') := h
        replace h := ei_c h rfl rfl rfl
        rcases h with ⟨hp14, f, g, h⟩ | ⟨hp14, f, g, h⟩
        · skip
          replace hp14 : (u6).toInt = (n4).toInt := ic_eq.mp hp14
          refine Or.inl ⟨hp14, ?_⟩
          clear g
          replace h : EV F f 186 z186 261 [some (rf 11 (0)), some (rf 13 (15)), some (rf 13 (17)), some (.inl (u3)), y4, some (.inl (u5)), some (.inl (u6)), some (.inl (t0)), some (.inl (n4)), some (.inl (v6)), y10, y11, y12] [] σ7 (w, σ') := h
          exact j186_261 hsσ7 h
        · skip
          replace hp14 : ¬ ((u6).toInt = (n4).toInt) := (not_congr ic_eq).mp hp14
          refine Or.inr ⟨hp14, ?_⟩
          clear g
          replace h : EV F f 186 z186 240 [some (rf 11 (0)), some (rf 13 (15)), some (rf 13 (17)), some (.inl (u3)), y4, some (.inl (u5)), some (.inl (u6)), some (.inl (t0)), some (.inl (n4)), some (.inl (v6)), y10, y11, y12] [] σ7 (w, σ') := h
          replace h := ei_p h rfl rfl rfl rfl
          obtain ⟨f, g, h⟩ := h
          clear g
          replace h : EV F f 186 z186 241 [some (rf 11 (0)), some (rf 13 (15)), some (rf 13 (17)), some (.inl (u3)), y4, some (.inl (u5)), some (.inl (u6)), some (.inl (t0)), some (.inl (n4)), some (.inl (v6)), y10, y11, y12] [rf 13 (15)] σ7 (w, σ') := h
          replace h := ei_p h rfl rfl rfl rfl
          obtain ⟨f, g, h⟩ := h
          clear g
          replace h : EV F f 186 z186 243 [some (rf 11 (0)), some (rf 13 (15)), some (rf 13 (17)), some (.inl (u3)), y4, some (.inl (u5)), some (.inl (u6)), some (.inl (t0)), some (.inl (n4)), some (.inl (v6)), y10, y11, y12] [.inl (u6), rf 13 (15)] σ7 (w, σ') := h
          replace h := ei_iald h rfl (fun _ => rfl)
          obtain ⟨vp15, f, g, h⟩ := h
          clear g
          replace h : EV F f 186 z186 244 [some (rf 11 (0)), some (rf 13 (15)), some (rf 13 (17)), some (.inl (u3)), y4, some (.inl (u5)), some (.inl (u6)), some (.inl (t0)), some (.inl (n4)), some (.inl (v6)), y10, y11, y12] [.inl (m_i σ7 13 (15) (u6).toNatClampNeg)] σ7 (w, σ') := h
          refine ⟨vp_2 vp15, ?_⟩
          replace h := ei_p h rfl rfl rfl rfl
          obtain ⟨f, g, h⟩ := h
          clear g
          replace h : EV F f 186 z186 246 [some (rf 11 (0)), some (rf 13 (15)), some (rf 13 (17)), some (.inl (u3)), y4, some (.inl (u5)), some (.inl (u6)), some (.inl (t0)), some (.inl (n4)), some (.inl (v6)), y10, y11, y12] [.inl (Int32.ofInt 10), .inl (m_i σ7 13 (15) (u6).toNatClampNeg)] σ7 (w, σ') := h
          replace h := ei_irem h rfl
          obtain ⟨hd16, f, g, h⟩ := h
          clear g
          replace h : EV F f 186 z186 247 [some (rf 11 (0)), some (rf 13 (15)), some (rf 13 (17)), some (.inl (u3)), y4, some (.inl (u5)), some (.inl (u6)), some (.inl (t0)), some (.inl (n4)), some (.inl (v6)), y10, y11, y12] [.inl ((m_i σ7 13 (15) (u6).toNatClampNeg) - (m_i σ7 13 (15) (u6).toNatClampNeg) / (Int32.ofInt 10) * (Int32.ofInt 10))] σ7 (w, σ') := h
          replace h := ei_p h rfl rfl rfl rfl
          obtain ⟨f, g, h⟩ := h
          clear g
          replace h : EV F f 186 z186 248 [some (rf 11 (0)), some (rf 13 (15)), some (rf 13 (17)), some (.inl (u3)), y4, some (.inl (u5)), some (.inl (u6)), some (.inl (t0)), some (.inl (n4)), some (.inl (v6)), y10, y11, y12] [rf 13 (15), .inl ((m_i σ7 13 (15) (u6).toNatClampNeg) - (m_i σ7 13 (15) (u6).toNatClampNeg) / (Int32.ofInt 10) * (Int32.ofInt 10))] σ7 (w, σ') := h
          replace h := ei_p h rfl rfl rfl rfl
          obtain ⟨f, g, h⟩ := h
          clear g
          replace h : EV F f 186 z186 250 [some (rf 11 (0)), some (rf 13 (15)), some (rf 13 (17)), some (.inl (u3)), y4, some (.inl (u5)), some (.inl (u6)), some (.inl (t0)), some (.inl (n4)), some (.inl (v6)), y10, y11, y12] [.inl (n4), rf 13 (15), .inl ((m_i σ7 13 (15) (u6).toNatClampNeg) - (m_i σ7 13 (15) (u6).toNatClampNeg) / (Int32.ofInt 10) * (Int32.ofInt 10))] σ7 (w, σ') := h
          replace h := ei_iald h rfl (fun _ => rfl)
          obtain ⟨vp17, f, g, h⟩ := h
          clear g
          replace h : EV F f 186 z186 251 [some (rf 11 (0)), some (rf 13 (15)), some (rf 13 (17)), some (.inl (u3)), y4, some (.inl (u5)), some (.inl (u6)), some (.inl (t0)), some (.inl (n4)), some (.inl (v6)), y10, y11, y12] [.inl (m_i σ7 13 (15) (n4).toNatClampNeg), .inl ((m_i σ7 13 (15) (u6).toNatClampNeg) - (m_i σ7 13 (15) (u6).toNatClampNeg) / (Int32.ofInt 10) * (Int32.ofInt 10))] σ7 (w, σ') := h
          refine ⟨vp_2 vp17, ?_⟩
          replace h := ei_p h rfl rfl rfl rfl
          obtain ⟨f, g, h⟩ := h
          clear g
          replace h : EV F f 186 z186 253 [some (rf 11 (0)), some (rf 13 (15)), some (rf 13 (17)), some (.inl (u3)), y4, some (.inl (u5)), some (.inl (u6)), some (.inl (t0)), some (.inl (n4)), some (.inl (v6)), y10, y11, y12] [.inl (Int32.ofInt 10), .inl (m_i σ7 13 (15) (n4).toNatClampNeg), .inl ((m_i σ7 13 (15) (u6).toNatClampNeg) - (m_i σ7 13 (15) (u6).toNatClampNeg) / (Int32.ofInt 10) * (Int32.ofInt 10))] σ7 (w, σ') := h
          replace h := ei_irem h rfl
          obtain ⟨hd18, f, g, h⟩ := h
          clear g
          replace h : EV F f 186 z186 254 [some (rf 11 (0)), some (rf 13 (15)), some (rf 13 (17)), some (.inl (u3)), y4, some (.inl (u5)), some (.inl (u6)), some (.inl (t0)), some (.inl (n4)), some (.inl (v6)), y10, y11, y12] [.inl ((m_i σ7 13 (15) (n4).toNatClampNeg) - (m_i σ7 13 (15) (n4).toNatClampNeg) / (Int32.ofInt 10) * (Int32.ofInt 10)), .inl ((m_i σ7 13 (15) (u6).toNatClampNeg) - (m_i σ7 13 (15) (u6).toNatClampNeg) / (Int32.ofInt 10) * (Int32.ofInt 10))] σ7 (w, σ') := h
          replace h := ei_c h rfl rfl rfl
          rcases h with ⟨hp19, f, g, h⟩ | ⟨hp19, f, g, h⟩
          · skip
            replace hp19 : ((m_i σ7 13 (15) (u6).toNatClampNeg) - (m_i σ7 13 (15) (u6).toNatClampNeg) / (Int32.ofInt 10) * (Int32.ofInt 10)).toInt ≠ ((m_i σ7 13 (15) (n4).toNatClampNeg) - (m_i σ7 13 (15) (n4).toNatClampNeg) / (Int32.ofInt 10) * (Int32.ofInt 10)).toInt := ic_ne.mp hp19
            refine Or.inl ⟨hp19, ?_⟩
            clear g
            replace h : EV F f 186 z186 261 [some (rf 11 (0)), some (rf 13 (15)), some (rf 13 (17)), some (.inl (u3)), y4, some (.inl (u5)), some (.inl (u6)), some (.inl (t0)), some (.inl (n4)), some (.inl (v6)), y10, y11, y12] [] σ7 (w, σ') := h
            exact j186_261 hsσ7 h
          · skip
            replace hp19 : ¬ (((m_i σ7 13 (15) (u6).toNatClampNeg) - (m_i σ7 13 (15) (u6).toNatClampNeg) / (Int32.ofInt 10) * (Int32.ofInt 10)).toInt ≠ ((m_i σ7 13 (15) (n4).toNatClampNeg) - (m_i σ7 13 (15) (n4).toNatClampNeg) / (Int32.ofInt 10) * (Int32.ofInt 10)).toInt) := (not_congr ic_ne).mp hp19
            refine Or.inr ⟨hp19, ?_⟩
            clear g
            replace h : EV F f 186 z186 257 [some (rf 11 (0)), some (rf 13 (15)), some (rf 13 (17)), some (.inl (u3)), y4, some (.inl (u5)), some (.inl (u6)), some (.inl (t0)), some (.inl (n4)), some (.inl (v6)), y10, y11, y12] [] σ7 (w, σ') := h
            replace h := ei_p h rfl rfl rfl rfl
            obtain ⟨f, g, h⟩ := h
            clear g
            replace h : EV F f 186 z186 258 [some (rf 11 (0)), some (rf 13 (15)), some (rf 13 (17)), some (.inl (u3)), y4, some (.inl (u5)), some (.inl (u6)), some (.inl (t0)), some (.inl (n4)), some (.inl (v6)), y10, y11, y12] [.inl (Int32.ofInt 1)] σ7 (w, σ') := h
            replace h := ei_p h rfl rfl rfl rfl
            obtain ⟨f, g, h⟩ := h
            clear g
            replace h : EV F f 186 z186 262 [some (rf 11 (0)), some (rf 13 (15)), some (rf 13 (17)), some (.inl (u3)), y4, some (.inl (u5)), some (.inl (u6)), some (.inl (t0)), some (.inl (n4)), some (.inl (v6)), y10, y11, y12] [.inl (Int32.ofInt 1)] σ7 (w, σ') := h
            exact j186_262 hsσ7 h
      · skip
        replace hp13 : ¬ ((n4).toInt ≠ (m_i σ7 13 (17) (Int32.ofInt 0).toNatClampNeg).toInt) := (not_congr ic_ne).mp hp13
        refine Or.inr ⟨hp13, ?_⟩
        clear g
        replace h : EV F f 186 z186 220 [some (rf 11 (0)), some (rf 13 (15)), some (rf 13 (17)), some (.inl (u3)), y4, some (.inl (u5)), some (.inl (u6)), some (.inl (t0)), some (.inl (n4)), some (.inl (v6)), y10, y11, y12] [] σ7 (w, σ') := h
        exact j186_220 hsσ7 h
  · skip
    replace hp1 : ¬ ((u3).toInt ≠ (0 : Int)) := (not_congr ic_ne).mp hp1
    refine Or.inr ⟨hp1, ?_⟩
    clear g
    replace h : EV F f 186 z186 34 [some (rf 11 (0)), some (rf 13 (15)), some (rf 13 (17)), some (.inl (u3)), y4, some (.inl (u5)), some (.inl (u6)), some (.inl (t0)), y8, y9, y10, y11, y12] [] τ (w, σ') := h
    replace h := ei_p h rfl rfl rfl rfl
    obtain ⟨f, g, h⟩ := h
    clear g
    replace h : EV F f 186 z186 36 [some (rf 11 (0)), some (rf 13 (15)), some (rf 13 (17)), some (.inl (u3)), y4, some (.inl (u5)), some (.inl (u6)), some (.inl (t0)), y8, y9, y10, y11, y12] [.inl (u6)] τ (w, σ') := h
    replace h := ei_p h rfl rfl rfl rfl
    obtain ⟨f, g, h⟩ := h
    clear g
    replace h : EV F f 186 z186 37 [some (rf 11 (0)), some (rf 13 (15)), some (rf 13 (17)), some (.inl (u3)), y4, some (.inl (u5)), some (.inl (u6)), some (.inl (t0)), y8, y9, y10, y11, y12] [rf 13 (17), .inl (u6)] τ (w, σ') := h
    replace h := ei_p h rfl rfl rfl rfl
    obtain ⟨f, g, h⟩ := h
    clear g
    replace h : EV F f 186 z186 38 [some (rf 11 (0)), some (rf 13 (15)), some (rf 13 (17)), some (.inl (u3)), y4, some (.inl (u5)), some (.inl (u6)), some (.inl (t0)), y8, y9, y10, y11, y12] [.inl (Int32.ofInt 0), rf 13 (17), .inl (u6)] τ (w, σ') := h
    replace h := ei_iald h rfl (fun _ => rfl)
    obtain ⟨vp20, f, g, h⟩ := h
    clear g
    replace h : EV F f 186 z186 39 [some (rf 11 (0)), some (rf 13 (15)), some (rf 13 (17)), some (.inl (u3)), y4, some (.inl (u5)), some (.inl (u6)), some (.inl (t0)), y8, y9, y10, y11, y12] [.inl (m_i τ 13 (17) (Int32.ofInt 0).toNatClampNeg), .inl (u6)] τ (w, σ') := h
    refine ⟨vp_2 vp20, ?_⟩
    replace h := ei_c h rfl rfl rfl
    rcases h with ⟨hp21, f, g, h⟩ | ⟨hp21, f, g, h⟩
    · skip
      replace hp21 : (m_i τ 13 (17) (Int32.ofInt 0).toNatClampNeg).toInt ≤ (u6).toInt := ic_ge.mp hp21
      refine Or.inl ⟨hp21, ?_⟩
      clear g
      replace h : EV F f 186 z186 52 [some (rf 11 (0)), some (rf 13 (15)), some (rf 13 (17)), some (.inl (u3)), y4, some (.inl (u5)), some (.inl (u6)), some (.inl (t0)), y8, y9, y10, y11, y12] [] τ (w, σ') := h
      replace h := ei_p h rfl rfl rfl rfl
      obtain ⟨f, g, h⟩ := h
      clear g
      replace h : EV F f 186 z186 53 [some (rf 11 (0)), some (rf 13 (15)), some (rf 13 (17)), some (.inl (u3)), y4, some (.inl (u5)), some (.inl (u6)), some (.inl (t0)), y8, y9, y10, y11, y12] [.inl (Int32.ofInt 0)] τ (w, σ') := h
      exact j186_53 hsτ h
    · skip
      replace hp21 : ¬ ((m_i τ 13 (17) (Int32.ofInt 0).toNatClampNeg).toInt ≤ (u6).toInt) := (not_congr ic_ge).mp hp21
      refine Or.inr ⟨hp21, ?_⟩
      clear g
      replace h : EV F f 186 z186 42 [some (rf 11 (0)), some (rf 13 (15)), some (rf 13 (17)), some (.inl (u3)), y4, some (.inl (u5)), some (.inl (u6)), some (.inl (t0)), y8, y9, y10, y11, y12] [] τ (w, σ') := h
      replace h := ei_p h rfl rfl rfl rfl
      obtain ⟨f, g, h⟩ := h
      clear g
      replace h : EV F f 186 z186 43 [some (rf 11 (0)), some (rf 13 (15)), some (rf 13 (17)), some (.inl (u3)), y4, some (.inl (u5)), some (.inl (u6)), some (.inl (t0)), y8, y9, y10, y11, y12] [rf 13 (15)] τ (w, σ') := h
      replace h := ei_p h rfl rfl rfl rfl
      obtain ⟨f, g, h⟩ := h
      clear g
      replace h : EV F f 186 z186 45 [some (rf 11 (0)), some (rf 13 (15)), some (rf 13 (17)), some (.inl (u3)), y4, some (.inl (u5)), some (.inl (u6)), some (.inl (t0)), y8, y9, y10, y11, y12] [.inl (u6), rf 13 (15)] τ (w, σ') := h
      replace h := ei_iald h rfl (fun _ => rfl)
      obtain ⟨vp22, f, g, h⟩ := h
      clear g
      replace h : EV F f 186 z186 46 [some (rf 11 (0)), some (rf 13 (15)), some (rf 13 (17)), some (.inl (u3)), y4, some (.inl (u5)), some (.inl (u6)), some (.inl (t0)), y8, y9, y10, y11, y12] [.inl (m_i τ 13 (15) (u6).toNatClampNeg)] τ (w, σ') := h
      refine ⟨vp_2 vp22, ?_⟩
      replace h := ei_p h rfl rfl rfl rfl
      obtain ⟨f, g, h⟩ := h
      clear g
      replace h : EV F f 186 z186 48 [some (rf 11 (0)), some (rf 13 (15)), some (rf 13 (17)), some (.inl (u3)), y4, some (.inl (u5)), some (.inl (u6)), some (.inl (t0)), y8, y9, y10, y11, y12] [.inl (Int32.ofInt 10), .inl (m_i τ 13 (15) (u6).toNatClampNeg)] τ (w, σ') := h
      replace h := ei_irem h rfl
      obtain ⟨hd23, f, g, h⟩ := h
      clear g
      replace h : EV F f 186 z186 49 [some (rf 11 (0)), some (rf 13 (15)), some (rf 13 (17)), some (.inl (u3)), y4, some (.inl (u5)), some (.inl (u6)), some (.inl (t0)), y8, y9, y10, y11, y12] [.inl ((m_i τ 13 (15) (u6).toNatClampNeg) - (m_i τ 13 (15) (u6).toNatClampNeg) / (Int32.ofInt 10) * (Int32.ofInt 10))] τ (w, σ') := h
      replace h := ei_p h rfl rfl rfl rfl
      obtain ⟨f, g, h⟩ := h
      clear g
      replace h : EV F f 186 z186 53 [some (rf 11 (0)), some (rf 13 (15)), some (rf 13 (17)), some (.inl (u3)), y4, some (.inl (u5)), some (.inl (u6)), some (.inl (t0)), y8, y9, y10, y11, y12] [.inl ((m_i τ 13 (15) (u6).toNatClampNeg) - (m_i τ 13 (15) (u6).toNatClampNeg) / (Int32.ofInt 10) * (Int32.ofInt 10))] τ (w, σ') := h
      exact j186_53 hsτ h
def P186 (σ : mS) (x4 : Int32) (x5 : Int32) (x6 : Int32) (w : mX) (σ' : mS) : Prop := (0 ≤ (0 : Int) ∧ (0 : Int) < (σ.2.1 13 (17) : Int)) ∧ ∃ n3, n3 = (x5) - (x5) / ((m_i σ 13 (17) (Int32.ofInt 0).toNatClampNeg) + (Int32.ofInt 1)) * ((m_i σ 13 (17) (Int32.ofInt 0).toNatClampNeg) + (Int32.ofInt 1)) ∧ (0 ≤ (0 : Int) ∧ (0 : Int) < (σ.2.1 13 (17) : Int)) ∧ (((m_i σ 13 (17) (Int32.ofInt 0).toNatClampNeg).toInt ≤ (n3).toInt ∧ J186_28 (x4) (x6) (n3) (Int32.ofInt 0) σ w σ') ∨ (¬ ((m_i σ 13 (17) (Int32.ofInt 0).toNatClampNeg).toInt ≤ (n3).toInt) ∧ ((∃ v7, P131 σ (n3) (.inl (some (.inl v7))) σ ∧ J186_28 (x4) (x6) (n3) (v7) σ w σ') ∨ (∃ b, P131 σ (n3) (.inr b) σ ∧ w = .inr b ∧ σ' = σ))))
set_option maxRecDepth 100000 in
theorem x186 {σ σ' : mS} {x4 : Int32} {x5 : Int32} {x6 : Int32} {w : mX} (hs : HL σ) (h : ev_run sm_all 186 [rf 11 (0), rf 13 (15), rf 13 (17), .inl (x4), .inl (x5), .inl (x6)] σ (w) σ') : P186 σ x4 x5 x6 w σ' := by
  unfold P186
  obtain ⟨F, f, h⟩ := ei_go h z186_at
  replace h : EV F f 186 z186 0 [some (rf 11 (0)), some (rf 13 (15)), some (rf 13 (17)), some (.inl (x4)), some (.inl (x5)), some (.inl (x6)), none, none, none, none, none, none, none] [] σ (w, σ') := h
  replace h := ei_p h rfl rfl rfl rfl
  obtain ⟨f, g, h⟩ := h
  clear g
  replace h : EV F f 186 z186 2 [some (rf 11 (0)), some (rf 13 (15)), some (rf 13 (17)), some (.inl (x4)), some (.inl (x5)), some (.inl (x6)), none, none, none, none, none, none, none] [.inl (x5)] σ (w, σ') := h
  replace h := ei_p h rfl rfl rfl rfl
  obtain ⟨f, g, h⟩ := h
  clear g
  replace h : EV F f 186 z186 3 [some (rf 11 (0)), some (rf 13 (15)), some (rf 13 (17)), some (.inl (x4)), some (.inl (x5)), some (.inl (x6)), none, none, none, none, none, none, none] [rf 13 (17), .inl (x5)] σ (w, σ') := h
  replace h := ei_p h rfl rfl rfl rfl
  obtain ⟨f, g, h⟩ := h
  clear g
  replace h : EV F f 186 z186 4 [some (rf 11 (0)), some (rf 13 (15)), some (rf 13 (17)), some (.inl (x4)), some (.inl (x5)), some (.inl (x6)), none, none, none, none, none, none, none] [.inl (Int32.ofInt 0), rf 13 (17), .inl (x5)] σ (w, σ') := h
  replace h := ei_iald h rfl (fun _ => rfl)
  obtain ⟨vp1, f, g, h⟩ := h
  clear g
  replace h : EV F f 186 z186 5 [some (rf 11 (0)), some (rf 13 (15)), some (rf 13 (17)), some (.inl (x4)), some (.inl (x5)), some (.inl (x6)), none, none, none, none, none, none, none] [.inl (m_i σ 13 (17) (Int32.ofInt 0).toNatClampNeg), .inl (x5)] σ (w, σ') := h
  refine ⟨vp_2 vp1, ?_⟩
  replace h := ei_p h rfl rfl rfl rfl
  obtain ⟨f, g, h⟩ := h
  clear g
  replace h : EV F f 186 z186 6 [some (rf 11 (0)), some (rf 13 (15)), some (rf 13 (17)), some (.inl (x4)), some (.inl (x5)), some (.inl (x6)), none, none, none, none, none, none, none] [.inl (Int32.ofInt 1), .inl (m_i σ 13 (17) (Int32.ofInt 0).toNatClampNeg), .inl (x5)] σ (w, σ') := h
  replace h := ei_p h rfl rfl rfl rfl
  obtain ⟨f, g, h⟩ := h
  clear g
  replace h : EV F f 186 z186 7 [some (rf 11 (0)), some (rf 13 (15)), some (rf 13 (17)), some (.inl (x4)), some (.inl (x5)), some (.inl (x6)), none, none, none, none, none, none, none] [.inl ((m_i σ 13 (17) (Int32.ofInt 0).toNatClampNeg) + (Int32.ofInt 1)), .inl (x5)] σ (w, σ') := h
  replace h := ei_irem h rfl
  obtain ⟨hd2, f, g, h⟩ := h
  clear g
  replace h : EV F f 186 z186 8 [some (rf 11 (0)), some (rf 13 (15)), some (rf 13 (17)), some (.inl (x4)), some (.inl (x5)), some (.inl (x6)), none, none, none, none, none, none, none] [.inl ((x5) - (x5) / ((m_i σ 13 (17) (Int32.ofInt 0).toNatClampNeg) + (Int32.ofInt 1)) * ((m_i σ 13 (17) (Int32.ofInt 0).toNatClampNeg) + (Int32.ofInt 1)))] σ (w, σ') := h
  replace h := ei_p h rfl rfl rfl rfl
  obtain ⟨f, g, h⟩ := h
  clear g
  replace h : EV F f 186 z186 10 [some (rf 11 (0)), some (rf 13 (15)), some (rf 13 (17)), some (.inl (x4)), some (.inl (x5)), some (.inl (x6)), some (.inl ((x5) - (x5) / ((m_i σ 13 (17) (Int32.ofInt 0).toNatClampNeg) + (Int32.ofInt 1)) * ((m_i σ 13 (17) (Int32.ofInt 0).toNatClampNeg) + (Int32.ofInt 1)))), none, none, none, none, none, none] [] σ (w, σ') := h
  obtain ⟨n3, e4⟩ : ∃ s, s = (x5) - (x5) / ((m_i σ 13 (17) (Int32.ofInt 0).toNatClampNeg) + (Int32.ofInt 1)) * ((m_i σ 13 (17) (Int32.ofInt 0).toNatClampNeg) + (Int32.ofInt 1)) := ⟨_, rfl⟩
  rw [← e4] at h
  refine ⟨n3, e4, ?_⟩
  replace h : EV F f 186 z186 10 [some (rf 11 (0)), some (rf 13 (15)), some (rf 13 (17)), some (.inl (x4)), some (.inl (x5)), some (.inl (x6)), some (.inl (n3)), none, none, none, none, none, none] [] σ (w, σ') := h
  replace h := ei_p h rfl rfl rfl rfl
  obtain ⟨f, g, h⟩ := h
  clear g
  replace h : EV F f 186 z186 12 [some (rf 11 (0)), some (rf 13 (15)), some (rf 13 (17)), some (.inl (x4)), some (.inl (x5)), some (.inl (x6)), some (.inl (n3)), none, none, none, none, none, none] [.inl (n3)] σ (w, σ') := h
  replace h := ei_p h rfl rfl rfl rfl
  obtain ⟨f, g, h⟩ := h
  clear g
  replace h : EV F f 186 z186 13 [some (rf 11 (0)), some (rf 13 (15)), some (rf 13 (17)), some (.inl (x4)), some (.inl (x5)), some (.inl (x6)), some (.inl (n3)), none, none, none, none, none, none] [rf 13 (17), .inl (n3)] σ (w, σ') := h
  replace h := ei_p h rfl rfl rfl rfl
  obtain ⟨f, g, h⟩ := h
  clear g
  replace h : EV F f 186 z186 14 [some (rf 11 (0)), some (rf 13 (15)), some (rf 13 (17)), some (.inl (x4)), some (.inl (x5)), some (.inl (x6)), some (.inl (n3)), none, none, none, none, none, none] [.inl (Int32.ofInt 0), rf 13 (17), .inl (n3)] σ (w, σ') := h
  replace h := ei_iald h rfl (fun _ => rfl)
  obtain ⟨vp5, f, g, h⟩ := h
  clear g
  replace h : EV F f 186 z186 15 [some (rf 11 (0)), some (rf 13 (15)), some (rf 13 (17)), some (.inl (x4)), some (.inl (x5)), some (.inl (x6)), some (.inl (n3)), none, none, none, none, none, none] [.inl (m_i σ 13 (17) (Int32.ofInt 0).toNatClampNeg), .inl (n3)] σ (w, σ') := h
  refine ⟨vp_2 vp5, ?_⟩
  replace h := ei_c h rfl rfl rfl
  rcases h with ⟨hp6, f, g, h⟩ | ⟨hp6, f, g, h⟩
  · skip
    replace hp6 : (m_i σ 13 (17) (Int32.ofInt 0).toNatClampNeg).toInt ≤ (n3).toInt := ic_ge.mp hp6
    refine Or.inl ⟨hp6, ?_⟩
    clear g
    replace h : EV F f 186 z186 27 [some (rf 11 (0)), some (rf 13 (15)), some (rf 13 (17)), some (.inl (x4)), some (.inl (x5)), some (.inl (x6)), some (.inl (n3)), none, none, none, none, none, none] [] σ (w, σ') := h
    replace h := ei_p h rfl rfl rfl rfl
    obtain ⟨f, g, h⟩ := h
    clear g
    replace h : EV F f 186 z186 28 [some (rf 11 (0)), some (rf 13 (15)), some (rf 13 (17)), some (.inl (x4)), some (.inl (x5)), some (.inl (x6)), some (.inl (n3)), none, none, none, none, none, none] [.inl (Int32.ofInt 0)] σ (w, σ') := h
    exact j186_28 hs h
  · skip
    replace hp6 : ¬ ((m_i σ 13 (17) (Int32.ofInt 0).toNatClampNeg).toInt ≤ (n3).toInt) := (not_congr ic_ge).mp hp6
    refine Or.inr ⟨hp6, ?_⟩
    clear g
    replace h : EV F f 186 z186 18 [some (rf 11 (0)), some (rf 13 (15)), some (rf 13 (17)), some (.inl (x4)), some (.inl (x5)), some (.inl (x6)), some (.inl (n3)), none, none, none, none, none, none] [] σ (w, σ') := h
    replace h := ei_p h rfl rfl rfl rfl
    obtain ⟨f, g, h⟩ := h
    clear g
    replace h : EV F f 186 z186 19 [some (rf 11 (0)), some (rf 13 (15)), some (rf 13 (17)), some (.inl (x4)), some (.inl (x5)), some (.inl (x6)), some (.inl (n3)), none, none, none, none, none, none] [rf 11 (0)] σ (w, σ') := h
    replace h := ei_p h rfl rfl rfl rfl
    obtain ⟨f, g, h⟩ := h
    clear g
    replace h : EV F f 186 z186 21 [some (rf 11 (0)), some (rf 13 (15)), some (rf 13 (17)), some (.inl (x4)), some (.inl (x5)), some (.inl (x6)), some (.inl (n3)), none, none, none, none, none, none] [.inl (n3), rf 11 (0)] σ (w, σ') := h
    replace h := bx_I (ei_v (as := [.inl (n3)]) h rfl rfl rfl) z131_at (Or.inl rfl)
    rcases h with ⟨v7, σ8, r9, f, g, h⟩ | ⟨b, σ8, r9, e⟩
    · skip
      have er9 := ro2_run rfl r9
      rw [er9] at h r9
      clear g
      have p10 := x131 hs.1 r9
      refine Or.inl ⟨v7, p10, ?_⟩
      replace h : EV F f 186 z186 24 [some (rf 11 (0)), some (rf 13 (15)), some (rf 13 (17)), some (.inl (x4)), some (.inl (x5)), some (.inl (x6)), some (.inl (n3)), none, none, none, none, none, none] [.inl (v7)] σ (w, σ') := h
      replace h := ei_p h rfl rfl rfl rfl
      obtain ⟨f, g, h⟩ := h
      clear g
      replace h : EV F f 186 z186 28 [some (rf 11 (0)), some (rf 13 (15)), some (rf 13 (17)), some (.inl (x4)), some (.inl (x5)), some (.inl (x6)), some (.inl (n3)), none, none, none, none, none, none] [.inl (v7)] σ (w, σ') := h
      exact j186_28 hs h
    · skip
      have er9 := ro2_run rfl r9
      rw [er9] at e r9
      have p10 := x131 hs.1 r9
      cases e
      exact Or.inr ⟨b, p10, rfl, rfl⟩
