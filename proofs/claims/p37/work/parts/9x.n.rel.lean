/-! the law's methods as relations: isShown, areOrders -/
def z179 : mAl := ((yL_isShown, cL_isShown, 13, (some .boolean), { frames := 8, cells := 80, slots := 720, locals := 133 }, []), rw_L_isShown, false)
theorem z179_at : m_alF[179]? = some z179 := rfl
def J179_222 (τ : mS) (w : mX) (σ' : mS) : Prop := w = .inl (some (.inl (Int32.ofInt 0))) ∧ σ' = τ
set_option maxRecDepth 100000 in
theorem j179_222 {F f : Nat} {σ' τ : mS} {y0 : Option mV} {y1 : Option mV} {y2 : Option mV} {y3 : Option mV} {y4 : Option mV} {y5 : Option mV} {y6 : Option mV} {y7 : Option mV} {y8 : Option mV} {y9 : Option mV} {y10 : Option mV} {y11 : Option mV} {y12 : Option mV} {w : mX} (hsτ : HL τ) (h : EV F f 179 z179 222 [y0, y1, y2, y3, y4, y5, y6, y7, y8, y9, y10, y11, y12] [] τ (w, σ')) : J179_222 τ w σ' := by
  unfold J179_222
  replace h := ei_p h rfl rfl rfl rfl
  obtain ⟨f, g, h⟩ := h
  clear g
  replace h : EV F f 179 z179 223 [y0, y1, y2, y3, y4, y5, y6, y7, y8, y9, y10, y11, y12] [.inl (Int32.ofInt 0)] τ (w, σ') := h
  have e := ei_iret h rfl
  cases e
  exact ⟨rfl, rfl⟩
def J179_200 (u7 : Int64) (u9 : Int32) (u10 : Int32) (t0 : Int32) (t1 : Int32) (τ : mS) (w : mX) (σ' : mS) : Prop := (((t1).toInt ≠ (t0).toInt ∧ J179_222 τ w σ') ∨ (¬ ((t1).toInt ≠ (t0).toInt) ∧ ((∃ v2, P132 τ (u9) (u10) (.inl (some (.inl v2))) τ ∧ ((((v2).toInt64).toInt ≠ (u7).toInt ∧ J179_222 τ w σ') ∨ (¬ (((v2).toInt64).toInt ≠ (u7).toInt) ∧ w = .inl (some (.inl (Int32.ofInt 1))) ∧ σ' = τ))) ∨ (∃ b, P132 τ (u9) (u10) (.inr b) τ ∧ w = .inr b ∧ σ' = τ))))
set_option maxRecDepth 100000 in
theorem j179_200 {F f : Nat} {σ' τ : mS} {u7 : Int64} {u9 : Int32} {u10 : Int32} {t0 : Int32} {t1 : Int32} {y1 : Option mV} {y2 : Option mV} {y3 : Option mV} {y4 : Option mV} {y5 : Option mV} {y6 : Option mV} {y11 : Option mV} {y12 : Option mV} {w : mX} (hsτ : HL τ) (h : EV F f 179 z179 200 [some (rf 11 (0)), y1, y2, y3, y4, y5, y6, some (.inr (.inl (u7))), none, some (.inl (u9)), some (.inl (u10)), y11, y12] [.inl (t0), .inl (t1)] τ (w, σ')) : J179_200 u7 u9 u10 t0 t1 τ w σ' := by
  unfold J179_200
  replace h := ei_c h rfl rfl rfl
  rcases h with ⟨hp1, f, g, h⟩ | ⟨hp1, f, g, h⟩
  · skip
    replace hp1 : (t1).toInt ≠ (t0).toInt := ic_ne.mp hp1
    refine Or.inl ⟨hp1, ?_⟩
    clear g
    replace h : EV F f 179 z179 222 [some (rf 11 (0)), y1, y2, y3, y4, y5, y6, some (.inr (.inl (u7))), none, some (.inl (u9)), some (.inl (u10)), y11, y12] [] τ (w, σ') := h
    exact j179_222 hsτ h
  · skip
    replace hp1 : ¬ ((t1).toInt ≠ (t0).toInt) := (not_congr ic_ne).mp hp1
    refine Or.inr ⟨hp1, ?_⟩
    clear g
    replace h : EV F f 179 z179 203 [some (rf 11 (0)), y1, y2, y3, y4, y5, y6, some (.inr (.inl (u7))), none, some (.inl (u9)), some (.inl (u10)), y11, y12] [] τ (w, σ') := h
    replace h := ei_p h rfl rfl rfl rfl
    obtain ⟨f, g, h⟩ := h
    clear g
    replace h : EV F f 179 z179 204 [some (rf 11 (0)), y1, y2, y3, y4, y5, y6, some (.inr (.inl (u7))), none, some (.inl (u9)), some (.inl (u10)), y11, y12] [rf 11 (0)] τ (w, σ') := h
    replace h := ei_p h rfl rfl rfl rfl
    obtain ⟨f, g, h⟩ := h
    clear g
    replace h : EV F f 179 z179 206 [some (rf 11 (0)), y1, y2, y3, y4, y5, y6, some (.inr (.inl (u7))), none, some (.inl (u9)), some (.inl (u10)), y11, y12] [.inl (u9), rf 11 (0)] τ (w, σ') := h
    replace h := ei_p h rfl rfl rfl rfl
    obtain ⟨f, g, h⟩ := h
    clear g
    replace h : EV F f 179 z179 208 [some (rf 11 (0)), y1, y2, y3, y4, y5, y6, some (.inr (.inl (u7))), none, some (.inl (u9)), some (.inl (u10)), y11, y12] [.inl (u10), .inl (u9), rf 11 (0)] τ (w, σ') := h
    replace h := bx_I (ei_v (as := [.inl (u10), .inl (u9)]) h rfl rfl rfl) z132_at (Or.inl rfl)
    rcases h with ⟨v2, σ3, r4, f, g, h⟩ | ⟨b, σ3, r4, e⟩
    · skip
      have er4 := ro2_run rfl r4
      rw [er4] at h r4
      clear g
      have p5 := x132 hsτ.1 r4
      refine Or.inl ⟨v2, p5, ?_⟩
      replace h : EV F f 179 z179 211 [some (rf 11 (0)), y1, y2, y3, y4, y5, y6, some (.inr (.inl (u7))), none, some (.inl (u9)), some (.inl (u10)), y11, y12] [.inl (v2)] τ (w, σ') := h
      replace h := ei_p h rfl rfl rfl rfl
      obtain ⟨f, g, h⟩ := h
      clear g
      replace h : EV F f 179 z179 212 [some (rf 11 (0)), y1, y2, y3, y4, y5, y6, some (.inr (.inl (u7))), none, some (.inl (u9)), some (.inl (u10)), y11, y12] [.inr (.inl ((v2).toInt64))] τ (w, σ') := h
      replace h := ei_p h rfl rfl rfl rfl
      obtain ⟨f, g, h⟩ := h
      clear g
      replace h : EV F f 179 z179 214 [some (rf 11 (0)), y1, y2, y3, y4, y5, y6, some (.inr (.inl (u7))), none, some (.inl (u9)), some (.inl (u10)), y11, y12] [.inr (.inl (u7)), .inr (.inl ((v2).toInt64))] τ (w, σ') := h
      replace h := ei_p h rfl rfl rfl rfl
      obtain ⟨f, g, h⟩ := h
      clear g
      replace h : EV F f 179 z179 215 [some (rf 11 (0)), y1, y2, y3, y4, y5, y6, some (.inr (.inl (u7))), none, some (.inl (u9)), some (.inl (u10)), y11, y12] [.inl (lg_cmp ((v2).toInt64) (u7))] τ (w, σ') := h
      replace h := ei_c h rfl rfl rfl
      rcases h with ⟨hp6, f, g, h⟩ | ⟨hp6, f, g, h⟩
      · skip
        replace hp6 : ((v2).toInt64).toInt ≠ (u7).toInt := (ab_lc .ne _ _).mp hp6
        refine Or.inl ⟨hp6, ?_⟩
        clear g
        replace h : EV F f 179 z179 222 [some (rf 11 (0)), y1, y2, y3, y4, y5, y6, some (.inr (.inl (u7))), none, some (.inl (u9)), some (.inl (u10)), y11, y12] [] τ (w, σ') := h
        exact j179_222 hsτ h
      · skip
        replace hp6 : ¬ (((v2).toInt64).toInt ≠ (u7).toInt) := (not_congr (ab_lc .ne _ _)).mp hp6
        refine Or.inr ⟨hp6, ?_⟩
        clear g
        replace h : EV F f 179 z179 218 [some (rf 11 (0)), y1, y2, y3, y4, y5, y6, some (.inr (.inl (u7))), none, some (.inl (u9)), some (.inl (u10)), y11, y12] [] τ (w, σ') := h
        replace h := ei_p h rfl rfl rfl rfl
        obtain ⟨f, g, h⟩ := h
        clear g
        replace h : EV F f 179 z179 219 [some (rf 11 (0)), y1, y2, y3, y4, y5, y6, some (.inr (.inl (u7))), none, some (.inl (u9)), some (.inl (u10)), y11, y12] [.inl (Int32.ofInt 1)] τ (w, σ') := h
        replace h := ei_p h rfl rfl rfl rfl
        obtain ⟨f, g, h⟩ := h
        clear g
        replace h : EV F f 179 z179 223 [some (rf 11 (0)), y1, y2, y3, y4, y5, y6, some (.inr (.inl (u7))), none, some (.inl (u9)), some (.inl (u10)), y11, y12] [.inl (Int32.ofInt 1)] τ (w, σ') := h
        have e := ei_iret h rfl
        cases e
        exact ⟨rfl, rfl⟩
    · skip
      have er4 := ro2_run rfl r4
      rw [er4] at e r4
      have p5 := x132 hsτ.1 r4
      cases e
      exact Or.inr ⟨b, p5, rfl, rfl⟩
def J179_188 (u5 : Int64) (u7 : Int64) (u9 : Int32) (u10 : Int32) (t0 : Int32) (τ : mS) (w : mX) (σ' : mS) : Prop := (((u5).toInt ≤ (Int64.ofNat 0).toInt ∧ J179_200 (u7) (u9) (u10) (Int32.ofInt 0) (t0) τ w σ') ∨ (¬ ((u5).toInt ≤ (Int64.ofNat 0).toInt) ∧ J179_200 (u7) (u9) (u10) (Int32.ofInt 1) (t0) τ w σ'))
set_option maxRecDepth 100000 in
theorem j179_188 {F f : Nat} {σ' τ : mS} {u5 : Int64} {u7 : Int64} {u9 : Int32} {u10 : Int32} {t0 : Int32} {y1 : Option mV} {y2 : Option mV} {y3 : Option mV} {y4 : Option mV} {y11 : Option mV} {y12 : Option mV} {w : mX} (hsτ : HL τ) (h : EV F f 179 z179 188 [some (rf 11 (0)), y1, y2, y3, y4, some (.inr (.inl (u5))), none, some (.inr (.inl (u7))), none, some (.inl (u9)), some (.inl (u10)), y11, y12] [.inl (t0)] τ (w, σ')) : J179_188 u5 u7 u9 u10 t0 τ w σ' := by
  unfold J179_188
  replace h := ei_p h rfl rfl rfl rfl
  obtain ⟨f, g, h⟩ := h
  clear g
  replace h : EV F f 179 z179 190 [some (rf 11 (0)), y1, y2, y3, y4, some (.inr (.inl (u5))), none, some (.inr (.inl (u7))), none, some (.inl (u9)), some (.inl (u10)), y11, y12] [.inr (.inl (u5)), .inl (t0)] τ (w, σ') := h
  replace h := ei_p h rfl rfl rfl rfl
  obtain ⟨f, g, h⟩ := h
  clear g
  replace h : EV F f 179 z179 191 [some (rf 11 (0)), y1, y2, y3, y4, some (.inr (.inl (u5))), none, some (.inr (.inl (u7))), none, some (.inl (u9)), some (.inl (u10)), y11, y12] [.inr (.inl (Int64.ofNat 0)), .inr (.inl (u5)), .inl (t0)] τ (w, σ') := h
  replace h := ei_p h rfl rfl rfl rfl
  obtain ⟨f, g, h⟩ := h
  clear g
  replace h : EV F f 179 z179 192 [some (rf 11 (0)), y1, y2, y3, y4, some (.inr (.inl (u5))), none, some (.inr (.inl (u7))), none, some (.inl (u9)), some (.inl (u10)), y11, y12] [.inl (lg_cmp (u5) (Int64.ofNat 0)), .inl (t0)] τ (w, σ') := h
  replace h := ei_c h rfl rfl rfl
  rcases h with ⟨hp1, f, g, h⟩ | ⟨hp1, f, g, h⟩
  · skip
    replace hp1 : (u5).toInt ≤ (Int64.ofNat 0).toInt := (ab_lc .le _ _).mp hp1
    refine Or.inl ⟨hp1, ?_⟩
    clear g
    replace h : EV F f 179 z179 199 [some (rf 11 (0)), y1, y2, y3, y4, some (.inr (.inl (u5))), none, some (.inr (.inl (u7))), none, some (.inl (u9)), some (.inl (u10)), y11, y12] [.inl (t0)] τ (w, σ') := h
    replace h := ei_p h rfl rfl rfl rfl
    obtain ⟨f, g, h⟩ := h
    clear g
    replace h : EV F f 179 z179 200 [some (rf 11 (0)), y1, y2, y3, y4, some (.inr (.inl (u5))), none, some (.inr (.inl (u7))), none, some (.inl (u9)), some (.inl (u10)), y11, y12] [.inl (Int32.ofInt 0), .inl (t0)] τ (w, σ') := h
    exact j179_200 hsτ h
  · skip
    replace hp1 : ¬ ((u5).toInt ≤ (Int64.ofNat 0).toInt) := (not_congr (ab_lc .le _ _)).mp hp1
    refine Or.inr ⟨hp1, ?_⟩
    clear g
    replace h : EV F f 179 z179 195 [some (rf 11 (0)), y1, y2, y3, y4, some (.inr (.inl (u5))), none, some (.inr (.inl (u7))), none, some (.inl (u9)), some (.inl (u10)), y11, y12] [.inl (t0)] τ (w, σ') := h
    replace h := ei_p h rfl rfl rfl rfl
    obtain ⟨f, g, h⟩ := h
    clear g
    replace h : EV F f 179 z179 196 [some (rf 11 (0)), y1, y2, y3, y4, some (.inr (.inl (u5))), none, some (.inr (.inl (u7))), none, some (.inl (u9)), some (.inl (u10)), y11, y12] [.inl (Int32.ofInt 1), .inl (t0)] τ (w, σ') := h
    replace h := ei_p h rfl rfl rfl rfl
    obtain ⟨f, g, h⟩ := h
    clear g
    replace h : EV F f 179 z179 200 [some (rf 11 (0)), y1, y2, y3, y4, some (.inr (.inl (u5))), none, some (.inr (.inl (u7))), none, some (.inl (u9)), some (.inl (u10)), y11, y12] [.inl (Int32.ofInt 1), .inl (t0)] τ (w, σ') := h
    exact j179_200 hsτ h
abbrev B179_32 (c1 : Int32) (c2 : Int32) (c3 : Int32) (ih : Int64 → Int64 → Int32 → mS → mX → mS → Prop) (u5 : Int64) (u7 : Int64) (u11 : Int32) (τ : mS) (w : mX) (σ' : mS) : Prop := (0 ≤ (0 : Int) ∧ (0 : Int) < (τ.2.1 13 (17) : Int)) ∧ (((m_i τ 13 (17) (Int32.ofInt 0).toNatClampNeg).toInt ≤ (u11).toInt ∧ (0 ≤ (c1).toInt ∧ (c1).toInt < (τ.2.1 13 (14) : Int)) ∧ ((∃ v4, P133 τ (c2) (c3) (m_i τ 13 (14) (c1).toNatClampNeg) (.inl (some (.inl v4))) τ ∧ (((u5).toInt < ((v4).toInt64).toInt ∧ J179_222 τ w σ') ∨ (¬ ((u5).toInt < ((v4).toInt64).toInt) ∧ (((v4).toInt ≤ (0 : Int) ∧ J179_188 (u5) (u7) (c2) (c3) (Int32.ofInt 0) τ w σ') ∨ (¬ ((v4).toInt ≤ (0 : Int)) ∧ J179_188 (u5) (u7) (c2) (c3) (Int32.ofInt 1) τ w σ'))))) ∨ (∃ b, P133 τ (c2) (c3) (m_i τ 13 (14) (c1).toNatClampNeg) (.inr b) τ ∧ w = .inr b ∧ σ' = τ))) ∨ (¬ ((m_i τ 13 (17) (Int32.ofInt 0).toNatClampNeg).toInt ≤ (u11).toInt) ∧ ((∃ v10, P131 τ (u11) (.inl (some (.inl v10))) τ ∧ ((((v10) - (v10) / (Int32.ofInt 10) * (Int32.ofInt 10)).toInt ≠ (1 : Int) ∧ ih (u5) (u7) ((u11) + Int32.ofInt 1) τ w σ') ∨ (¬ (((v10) - (v10) / (Int32.ofInt 10) * (Int32.ofInt 10)).toInt ≠ (1 : Int)) ∧ (0 ≤ (u11).toInt ∧ (u11).toInt < (τ.2.1 13 (15) : Int)) ∧ (0 ≤ (c1).toInt ∧ (c1).toInt < (τ.2.1 13 (15) : Int)) ∧ ((((m_i τ 13 (15) (u11).toNatClampNeg) / (Int32.ofInt 10)).toInt ≠ ((m_i τ 13 (15) (c1).toNatClampNeg) / (Int32.ofInt 10)).toInt ∧ ih (u5) (u7) ((u11) + Int32.ofInt 1) τ w σ') ∨ (¬ (((m_i τ 13 (15) (u11).toNatClampNeg) / (Int32.ofInt 10)).toInt ≠ ((m_i τ 13 (15) (c1).toNatClampNeg) / (Int32.ofInt 10)).toInt) ∧ (0 ≤ (u11).toInt ∧ (u11).toInt < (τ.2.1 13 (14) : Int)) ∧ (0 ≤ (c1).toInt ∧ (c1).toInt < (τ.2.1 13 (14) : Int)) ∧ (((m_i τ 13 (14) (u11).toNatClampNeg).toInt ≠ (m_i τ 13 (14) (c1).toNatClampNeg).toInt ∧ (((u7).toInt < (Int64.ofNat 0).toInt ∧ (0 ≤ (u11).toInt ∧ (u11).toInt < (τ.2.1 13 (14) : Int)) ∧ ∃ n26, n26 = (m_i τ 13 (14) (u11).toNatClampNeg).toInt64 ∧ ih ((u5) + (Int64.ofNat 0)) (n26) ((u11) + Int32.ofInt 1) τ w σ') ∨ (¬ ((u7).toInt < (Int64.ofNat 0).toInt) ∧ (((c3).toInt ≠ (0 : Int) ∧ (0 ≤ (u11).toInt ∧ (u11).toInt < (τ.2.1 13 (14) : Int)) ∧ (((u7).toInt ≤ ((m_i τ 13 (14) (u11).toNatClampNeg).toInt64).toInt ∧ ih ((u5) + (Int64.ofNat 0)) (u7) ((u11) + Int32.ofInt 1) τ w σ') ∨ (¬ ((u7).toInt ≤ ((m_i τ 13 (14) (u11).toNatClampNeg).toInt64).toInt) ∧ (0 ≤ (u11).toInt ∧ (u11).toInt < (τ.2.1 13 (14) : Int)) ∧ ∃ n32, n32 = (m_i τ 13 (14) (u11).toNatClampNeg).toInt64 ∧ ih ((u5) + (Int64.ofNat 0)) (n32) ((u11) + Int32.ofInt 1) τ w σ'))) ∨ (¬ ((c3).toInt ≠ (0 : Int)) ∧ (0 ≤ (u11).toInt ∧ (u11).toInt < (τ.2.1 13 (14) : Int)) ∧ ((((m_i τ 13 (14) (u11).toNatClampNeg).toInt64).toInt ≤ (u7).toInt ∧ ih ((u5) + (Int64.ofNat 0)) (u7) ((u11) + Int32.ofInt 1) τ w σ') ∨ (¬ (((m_i τ 13 (14) (u11).toNatClampNeg).toInt64).toInt ≤ (u7).toInt) ∧ (0 ≤ (u11).toInt ∧ (u11).toInt < (τ.2.1 13 (14) : Int)) ∧ ∃ n37, n37 = (m_i τ 13 (14) (u11).toNatClampNeg).toInt64 ∧ ih ((u5) + (Int64.ofNat 0)) (n37) ((u11) + Int32.ofInt 1) τ w σ'))))))) ∨ (¬ ((m_i τ 13 (14) (u11).toNatClampNeg).toInt ≠ (m_i τ 13 (14) (c1).toNatClampNeg).toInt) ∧ ∃ n40, n40 = (u5) + (((v10) / (Int32.ofInt 10)).toInt64) ∧ (((u7).toInt < (Int64.ofNat 0).toInt ∧ (0 ≤ (u11).toInt ∧ (u11).toInt < (τ.2.1 13 (14) : Int)) ∧ ∃ n44, n44 = (m_i τ 13 (14) (u11).toNatClampNeg).toInt64 ∧ ih (n40) (n44) ((u11) + Int32.ofInt 1) τ w σ') ∨ (¬ ((u7).toInt < (Int64.ofNat 0).toInt) ∧ (((c3).toInt ≠ (0 : Int) ∧ (0 ≤ (u11).toInt ∧ (u11).toInt < (τ.2.1 13 (14) : Int)) ∧ (((u7).toInt ≤ ((m_i τ 13 (14) (u11).toNatClampNeg).toInt64).toInt ∧ ih (n40) (u7) ((u11) + Int32.ofInt 1) τ w σ') ∨ (¬ ((u7).toInt ≤ ((m_i τ 13 (14) (u11).toNatClampNeg).toInt64).toInt) ∧ (0 ≤ (u11).toInt ∧ (u11).toInt < (τ.2.1 13 (14) : Int)) ∧ ∃ n50, n50 = (m_i τ 13 (14) (u11).toNatClampNeg).toInt64 ∧ ih (n40) (n50) ((u11) + Int32.ofInt 1) τ w σ'))) ∨ (¬ ((c3).toInt ≠ (0 : Int)) ∧ (0 ≤ (u11).toInt ∧ (u11).toInt < (τ.2.1 13 (14) : Int)) ∧ ((((m_i τ 13 (14) (u11).toNatClampNeg).toInt64).toInt ≤ (u7).toInt ∧ ih (n40) (u7) ((u11) + Int32.ofInt 1) τ w σ') ∨ (¬ (((m_i τ 13 (14) (u11).toNatClampNeg).toInt64).toInt ≤ (u7).toInt) ∧ (0 ≤ (u11).toInt ∧ (u11).toInt < (τ.2.1 13 (14) : Int)) ∧ ∃ n55, n55 = (m_i τ 13 (14) (u11).toNatClampNeg).toInt64 ∧ ih (n40) (n55) ((u11) + Int32.ofInt 1) τ w σ'))))))))))))) ∨ (∃ b, P131 τ (u11) (.inr b) τ ∧ w = .inr b ∧ σ' = τ))))
def Q179_32 (c1 : Int32) (c2 : Int32) (c3 : Int32) : Nat → Int64 → Int64 → Int32 → mS → mX → mS → Prop
  | 0 => fun _ _ _ _ _ _ => False
  | n + 1 => B179_32 c1 c2 c3 (Q179_32 c1 c2 c3 n)
set_option maxRecDepth 100000 in
theorem q179_32 {F : Nat} {σ' : mS} {c1 : Int32} {c2 : Int32} {c3 : Int32} {w : mX} : ∀ N f, f < N → ∀ (u5 : Int64) (u7 : Int64) (u11 : Int32) (y12 : Option mV) (τ : mS), HL τ → EV F f 179 z179 32 [some (rf 11 (0)), some (rf 13 (14)), some (rf 13 (15)), some (rf 13 (17)), some (.inl (c1)), some (.inr (.inl (u5))), none, some (.inr (.inl (u7))), none, some (.inl (c2)), some (.inl (c3)), some (.inl (u11)), y12] [] τ (w, σ') → Q179_32 c1 c2 c3 N u5 u7 u11 τ w σ' := by
  intro N
  induction N with
  | zero => intro f hf; omega
  | succ N IH =>
    intro f hf0 u5 u7 u11 y12 τ hsτ h
    have hf : f < N + 1 := hf0
    clear hf0
    show B179_32 c1 c2 c3 (Q179_32 c1 c2 c3 N) u5 u7 u11 τ w σ'
    replace h := ei_p h rfl rfl rfl rfl
    obtain ⟨f, g, h⟩ := h
    replace hf := Nat.lt_of_lt_of_le g (Nat.le_of_lt_succ hf)
    clear g
    replace h : EV F f 179 z179 34 [some (rf 11 (0)), some (rf 13 (14)), some (rf 13 (15)), some (rf 13 (17)), some (.inl (c1)), some (.inr (.inl (u5))), none, some (.inr (.inl (u7))), none, some (.inl (c2)), some (.inl (c3)), some (.inl (u11)), y12] [.inl (u11)] τ (w, σ') := h
    replace h := ei_p h rfl rfl rfl rfl
    obtain ⟨f, g, h⟩ := h
    replace hf := Nat.lt_trans g hf
    clear g
    replace h : EV F f 179 z179 35 [some (rf 11 (0)), some (rf 13 (14)), some (rf 13 (15)), some (rf 13 (17)), some (.inl (c1)), some (.inr (.inl (u5))), none, some (.inr (.inl (u7))), none, some (.inl (c2)), some (.inl (c3)), some (.inl (u11)), y12] [rf 13 (17), .inl (u11)] τ (w, σ') := h
    replace h := ei_p h rfl rfl rfl rfl
    obtain ⟨f, g, h⟩ := h
    replace hf := Nat.lt_trans g hf
    clear g
    replace h : EV F f 179 z179 36 [some (rf 11 (0)), some (rf 13 (14)), some (rf 13 (15)), some (rf 13 (17)), some (.inl (c1)), some (.inr (.inl (u5))), none, some (.inr (.inl (u7))), none, some (.inl (c2)), some (.inl (c3)), some (.inl (u11)), y12] [.inl (Int32.ofInt 0), rf 13 (17), .inl (u11)] τ (w, σ') := h
    replace h := ei_iald h rfl (fun _ => rfl)
    obtain ⟨vp1, f, g, h⟩ := h
    replace hf := Nat.lt_trans g hf
    clear g
    replace h : EV F f 179 z179 37 [some (rf 11 (0)), some (rf 13 (14)), some (rf 13 (15)), some (rf 13 (17)), some (.inl (c1)), some (.inr (.inl (u5))), none, some (.inr (.inl (u7))), none, some (.inl (c2)), some (.inl (c3)), some (.inl (u11)), y12] [.inl (m_i τ 13 (17) (Int32.ofInt 0).toNatClampNeg), .inl (u11)] τ (w, σ') := h
    refine ⟨vp_2 vp1, ?_⟩
    replace h := ei_c h rfl rfl rfl
    rcases h with ⟨hp2, f, g, h⟩ | ⟨hp2, f, g, h⟩
    · skip
      replace hp2 : (m_i τ 13 (17) (Int32.ofInt 0).toNatClampNeg).toInt ≤ (u11).toInt := ic_ge.mp hp2
      refine Or.inl ⟨hp2, ?_⟩
      replace hf := Nat.lt_trans g hf
      clear g
      replace h : EV F f 179 z179 155 [some (rf 11 (0)), some (rf 13 (14)), some (rf 13 (15)), some (rf 13 (17)), some (.inl (c1)), some (.inr (.inl (u5))), none, some (.inr (.inl (u7))), none, some (.inl (c2)), some (.inl (c3)), some (.inl (u11)), y12] [] τ (w, σ') := h
      replace h := ei_p h rfl rfl rfl rfl
      obtain ⟨f, g, h⟩ := h
      replace hf := Nat.lt_trans g hf
      clear g
      replace h : EV F f 179 z179 156 [some (rf 11 (0)), some (rf 13 (14)), some (rf 13 (15)), some (rf 13 (17)), some (.inl (c1)), some (.inr (.inl (u5))), none, some (.inr (.inl (u7))), none, some (.inl (c2)), some (.inl (c3)), some (.inl (u11)), y12] [rf 11 (0)] τ (w, σ') := h
      replace h := ei_p h rfl rfl rfl rfl
      obtain ⟨f, g, h⟩ := h
      replace hf := Nat.lt_trans g hf
      clear g
      replace h : EV F f 179 z179 158 [some (rf 11 (0)), some (rf 13 (14)), some (rf 13 (15)), some (rf 13 (17)), some (.inl (c1)), some (.inr (.inl (u5))), none, some (.inr (.inl (u7))), none, some (.inl (c2)), some (.inl (c3)), some (.inl (u11)), y12] [.inl (c2), rf 11 (0)] τ (w, σ') := h
      replace h := ei_p h rfl rfl rfl rfl
      obtain ⟨f, g, h⟩ := h
      replace hf := Nat.lt_trans g hf
      clear g
      replace h : EV F f 179 z179 160 [some (rf 11 (0)), some (rf 13 (14)), some (rf 13 (15)), some (rf 13 (17)), some (.inl (c1)), some (.inr (.inl (u5))), none, some (.inr (.inl (u7))), none, some (.inl (c2)), some (.inl (c3)), some (.inl (u11)), y12] [.inl (c3), .inl (c2), rf 11 (0)] τ (w, σ') := h
      replace h := ei_p h rfl rfl rfl rfl
      obtain ⟨f, g, h⟩ := h
      replace hf := Nat.lt_trans g hf
      clear g
      replace h : EV F f 179 z179 161 [some (rf 11 (0)), some (rf 13 (14)), some (rf 13 (15)), some (rf 13 (17)), some (.inl (c1)), some (.inr (.inl (u5))), none, some (.inr (.inl (u7))), none, some (.inl (c2)), some (.inl (c3)), some (.inl (u11)), y12] [rf 13 (14), .inl (c3), .inl (c2), rf 11 (0)] τ (w, σ') := h
      replace h := ei_p h rfl rfl rfl rfl
      obtain ⟨f, g, h⟩ := h
      replace hf := Nat.lt_trans g hf
      clear g
      replace h : EV F f 179 z179 163 [some (rf 11 (0)), some (rf 13 (14)), some (rf 13 (15)), some (rf 13 (17)), some (.inl (c1)), some (.inr (.inl (u5))), none, some (.inr (.inl (u7))), none, some (.inl (c2)), some (.inl (c3)), some (.inl (u11)), y12] [.inl (c1), rf 13 (14), .inl (c3), .inl (c2), rf 11 (0)] τ (w, σ') := h
      replace h := ei_iald h rfl (fun _ => rfl)
      obtain ⟨vp3, f, g, h⟩ := h
      replace hf := Nat.lt_trans g hf
      clear g
      replace h : EV F f 179 z179 164 [some (rf 11 (0)), some (rf 13 (14)), some (rf 13 (15)), some (rf 13 (17)), some (.inl (c1)), some (.inr (.inl (u5))), none, some (.inr (.inl (u7))), none, some (.inl (c2)), some (.inl (c3)), some (.inl (u11)), y12] [.inl (m_i τ 13 (14) (c1).toNatClampNeg), .inl (c3), .inl (c2), rf 11 (0)] τ (w, σ') := h
      refine ⟨vp_2 vp3, ?_⟩
      replace h := bx_I (ei_v (as := [.inl (m_i τ 13 (14) (c1).toNatClampNeg), .inl (c3), .inl (c2)]) h rfl rfl rfl) z133_at (Or.inl rfl)
      rcases h with ⟨v4, σ5, r6, f, g, h⟩ | ⟨b, σ5, r6, e⟩
      · skip
        have er6 := ro2_run rfl r6
        rw [er6] at h r6
        replace hf := Nat.lt_trans g hf
        clear g
        have p7 := x133 hsτ.1 r6
        refine Or.inl ⟨v4, p7, ?_⟩
        replace h : EV F f 179 z179 167 [some (rf 11 (0)), some (rf 13 (14)), some (rf 13 (15)), some (rf 13 (17)), some (.inl (c1)), some (.inr (.inl (u5))), none, some (.inr (.inl (u7))), none, some (.inl (c2)), some (.inl (c3)), some (.inl (u11)), y12] [.inl (v4)] τ (w, σ') := h
        replace h := ei_p h rfl rfl rfl rfl
        obtain ⟨f, g, h⟩ := h
        replace hf := Nat.lt_trans g hf
        clear g
        replace h : EV F f 179 z179 169 [some (rf 11 (0)), some (rf 13 (14)), some (rf 13 (15)), some (rf 13 (17)), some (.inl (c1)), some (.inr (.inl (u5))), none, some (.inr (.inl (u7))), none, some (.inl (c2)), some (.inl (c3)), some (.inl (v4)), y12] [] τ (w, σ') := h
        replace h := ei_p h rfl rfl rfl rfl
        obtain ⟨f, g, h⟩ := h
        replace hf := Nat.lt_trans g hf
        clear g
        replace h : EV F f 179 z179 171 [some (rf 11 (0)), some (rf 13 (14)), some (rf 13 (15)), some (rf 13 (17)), some (.inl (c1)), some (.inr (.inl (u5))), none, some (.inr (.inl (u7))), none, some (.inl (c2)), some (.inl (c3)), some (.inl (v4)), y12] [.inl (v4)] τ (w, σ') := h
        replace h := ei_p h rfl rfl rfl rfl
        obtain ⟨f, g, h⟩ := h
        replace hf := Nat.lt_trans g hf
        clear g
        replace h : EV F f 179 z179 172 [some (rf 11 (0)), some (rf 13 (14)), some (rf 13 (15)), some (rf 13 (17)), some (.inl (c1)), some (.inr (.inl (u5))), none, some (.inr (.inl (u7))), none, some (.inl (c2)), some (.inl (c3)), some (.inl (v4)), y12] [.inr (.inl ((v4).toInt64))] τ (w, σ') := h
        replace h := ei_p h rfl rfl rfl rfl
        obtain ⟨f, g, h⟩ := h
        replace hf := Nat.lt_trans g hf
        clear g
        replace h : EV F f 179 z179 174 [some (rf 11 (0)), some (rf 13 (14)), some (rf 13 (15)), some (rf 13 (17)), some (.inl (c1)), some (.inr (.inl (u5))), none, some (.inr (.inl (u7))), none, some (.inl (c2)), some (.inl (c3)), some (.inl (v4)), y12] [.inr (.inl (u5)), .inr (.inl ((v4).toInt64))] τ (w, σ') := h
        replace h := ei_p h rfl rfl rfl rfl
        obtain ⟨f, g, h⟩ := h
        replace hf := Nat.lt_trans g hf
        clear g
        replace h : EV F f 179 z179 175 [some (rf 11 (0)), some (rf 13 (14)), some (rf 13 (15)), some (rf 13 (17)), some (.inl (c1)), some (.inr (.inl (u5))), none, some (.inr (.inl (u7))), none, some (.inl (c2)), some (.inl (c3)), some (.inl (v4)), y12] [.inl (lg_cmp ((v4).toInt64) (u5))] τ (w, σ') := h
        replace h := ei_c h rfl rfl rfl
        rcases h with ⟨hp8, f, g, h⟩ | ⟨hp8, f, g, h⟩
        · skip
          replace hp8 : (u5).toInt < ((v4).toInt64).toInt := (ab_lc .gt _ _).mp hp8
          refine Or.inl ⟨hp8, ?_⟩
          replace hf := Nat.lt_trans g hf
          clear g
          replace h : EV F f 179 z179 222 [some (rf 11 (0)), some (rf 13 (14)), some (rf 13 (15)), some (rf 13 (17)), some (.inl (c1)), some (.inr (.inl (u5))), none, some (.inr (.inl (u7))), none, some (.inl (c2)), some (.inl (c3)), some (.inl (v4)), y12] [] τ (w, σ') := h
          exact j179_222 hsτ h
        · skip
          replace hp8 : ¬ ((u5).toInt < ((v4).toInt64).toInt) := (not_congr (ab_lc .gt _ _)).mp hp8
          refine Or.inr ⟨hp8, ?_⟩
          replace hf := Nat.lt_trans g hf
          clear g
          replace h : EV F f 179 z179 178 [some (rf 11 (0)), some (rf 13 (14)), some (rf 13 (15)), some (rf 13 (17)), some (.inl (c1)), some (.inr (.inl (u5))), none, some (.inr (.inl (u7))), none, some (.inl (c2)), some (.inl (c3)), some (.inl (v4)), y12] [] τ (w, σ') := h
          replace h := ei_p h rfl rfl rfl rfl
          obtain ⟨f, g, h⟩ := h
          replace hf := Nat.lt_trans g hf
          clear g
          replace h : EV F f 179 z179 180 [some (rf 11 (0)), some (rf 13 (14)), some (rf 13 (15)), some (rf 13 (17)), some (.inl (c1)), some (.inr (.inl (u5))), none, some (.inr (.inl (u7))), none, some (.inl (c2)), some (.inl (c3)), some (.inl (v4)), y12] [.inl (v4)] τ (w, σ') := h
          replace h := ei_c h rfl rfl rfl
          rcases h with ⟨hp9, f, g, h⟩ | ⟨hp9, f, g, h⟩
          · skip
            replace hp9 : (v4).toInt ≤ (0 : Int) := ic_le.mp hp9
            refine Or.inl ⟨hp9, ?_⟩
            replace hf := Nat.lt_trans g hf
            clear g
            replace h : EV F f 179 z179 187 [some (rf 11 (0)), some (rf 13 (14)), some (rf 13 (15)), some (rf 13 (17)), some (.inl (c1)), some (.inr (.inl (u5))), none, some (.inr (.inl (u7))), none, some (.inl (c2)), some (.inl (c3)), some (.inl (v4)), y12] [] τ (w, σ') := h
            replace h := ei_p h rfl rfl rfl rfl
            obtain ⟨f, g, h⟩ := h
            replace hf := Nat.lt_trans g hf
            clear g
            replace h : EV F f 179 z179 188 [some (rf 11 (0)), some (rf 13 (14)), some (rf 13 (15)), some (rf 13 (17)), some (.inl (c1)), some (.inr (.inl (u5))), none, some (.inr (.inl (u7))), none, some (.inl (c2)), some (.inl (c3)), some (.inl (v4)), y12] [.inl (Int32.ofInt 0)] τ (w, σ') := h
            exact j179_188 hsτ h
          · skip
            replace hp9 : ¬ ((v4).toInt ≤ (0 : Int)) := (not_congr ic_le).mp hp9
            refine Or.inr ⟨hp9, ?_⟩
            replace hf := Nat.lt_trans g hf
            clear g
            replace h : EV F f 179 z179 183 [some (rf 11 (0)), some (rf 13 (14)), some (rf 13 (15)), some (rf 13 (17)), some (.inl (c1)), some (.inr (.inl (u5))), none, some (.inr (.inl (u7))), none, some (.inl (c2)), some (.inl (c3)), some (.inl (v4)), y12] [] τ (w, σ') := h
            replace h := ei_p h rfl rfl rfl rfl
            obtain ⟨f, g, h⟩ := h
            replace hf := Nat.lt_trans g hf
            clear g
            replace h : EV F f 179 z179 184 [some (rf 11 (0)), some (rf 13 (14)), some (rf 13 (15)), some (rf 13 (17)), some (.inl (c1)), some (.inr (.inl (u5))), none, some (.inr (.inl (u7))), none, some (.inl (c2)), some (.inl (c3)), some (.inl (v4)), y12] [.inl (Int32.ofInt 1)] τ (w, σ') := h
            replace h := ei_p h rfl rfl rfl rfl
            obtain ⟨f, g, h⟩ := h
            replace hf := Nat.lt_trans g hf
            clear g
            replace h : EV F f 179 z179 188 [some (rf 11 (0)), some (rf 13 (14)), some (rf 13 (15)), some (rf 13 (17)), some (.inl (c1)), some (.inr (.inl (u5))), none, some (.inr (.inl (u7))), none, some (.inl (c2)), some (.inl (c3)), some (.inl (v4)), y12] [.inl (Int32.ofInt 1)] τ (w, σ') := h
            exact j179_188 hsτ h
      · skip
        have er6 := ro2_run rfl r6
        rw [er6] at e r6
        have p7 := x133 hsτ.1 r6
        cases e
        exact Or.inr ⟨b, p7, rfl, rfl⟩
    · skip
      replace hp2 : ¬ ((m_i τ 13 (17) (Int32.ofInt 0).toNatClampNeg).toInt ≤ (u11).toInt) := (not_congr ic_ge).mp hp2
      refine Or.inr ⟨hp2, ?_⟩
      replace hf := Nat.lt_trans g hf
      clear g
      replace h : EV F f 179 z179 40 [some (rf 11 (0)), some (rf 13 (14)), some (rf 13 (15)), some (rf 13 (17)), some (.inl (c1)), some (.inr (.inl (u5))), none, some (.inr (.inl (u7))), none, some (.inl (c2)), some (.inl (c3)), some (.inl (u11)), y12] [] τ (w, σ') := h
      replace h := ei_p h rfl rfl rfl rfl
      obtain ⟨f, g, h⟩ := h
      replace hf := Nat.lt_trans g hf
      clear g
      replace h : EV F f 179 z179 41 [some (rf 11 (0)), some (rf 13 (14)), some (rf 13 (15)), some (rf 13 (17)), some (.inl (c1)), some (.inr (.inl (u5))), none, some (.inr (.inl (u7))), none, some (.inl (c2)), some (.inl (c3)), some (.inl (u11)), y12] [rf 11 (0)] τ (w, σ') := h
      replace h := ei_p h rfl rfl rfl rfl
      obtain ⟨f, g, h⟩ := h
      replace hf := Nat.lt_trans g hf
      clear g
      replace h : EV F f 179 z179 43 [some (rf 11 (0)), some (rf 13 (14)), some (rf 13 (15)), some (rf 13 (17)), some (.inl (c1)), some (.inr (.inl (u5))), none, some (.inr (.inl (u7))), none, some (.inl (c2)), some (.inl (c3)), some (.inl (u11)), y12] [.inl (u11), rf 11 (0)] τ (w, σ') := h
      replace h := bx_I (ei_v (as := [.inl (u11)]) h rfl rfl rfl) z131_at (Or.inl rfl)
      rcases h with ⟨v10, σ11, r12, f, g, h⟩ | ⟨b, σ11, r12, e⟩
      · skip
        have er12 := ro2_run rfl r12
        rw [er12] at h r12
        replace hf := Nat.lt_trans g hf
        clear g
        have p13 := x131 hsτ.1 r12
        refine Or.inl ⟨v10, p13, ?_⟩
        replace h : EV F f 179 z179 46 [some (rf 11 (0)), some (rf 13 (14)), some (rf 13 (15)), some (rf 13 (17)), some (.inl (c1)), some (.inr (.inl (u5))), none, some (.inr (.inl (u7))), none, some (.inl (c2)), some (.inl (c3)), some (.inl (u11)), y12] [.inl (v10)] τ (w, σ') := h
        replace h := ei_p h rfl rfl rfl rfl
        obtain ⟨f, g, h⟩ := h
        replace hf := Nat.lt_trans g hf
        clear g
        replace h : EV F f 179 z179 48 [some (rf 11 (0)), some (rf 13 (14)), some (rf 13 (15)), some (rf 13 (17)), some (.inl (c1)), some (.inr (.inl (u5))), none, some (.inr (.inl (u7))), none, some (.inl (c2)), some (.inl (c3)), some (.inl (u11)), some (.inl (v10))] [] τ (w, σ') := h
        replace h := ei_p h rfl rfl rfl rfl
        obtain ⟨f, g, h⟩ := h
        replace hf := Nat.lt_trans g hf
        clear g
        replace h : EV F f 179 z179 50 [some (rf 11 (0)), some (rf 13 (14)), some (rf 13 (15)), some (rf 13 (17)), some (.inl (c1)), some (.inr (.inl (u5))), none, some (.inr (.inl (u7))), none, some (.inl (c2)), some (.inl (c3)), some (.inl (u11)), some (.inl (v10))] [.inl (v10)] τ (w, σ') := h
        replace h := ei_p h rfl rfl rfl rfl
        obtain ⟨f, g, h⟩ := h
        replace hf := Nat.lt_trans g hf
        clear g
        replace h : EV F f 179 z179 52 [some (rf 11 (0)), some (rf 13 (14)), some (rf 13 (15)), some (rf 13 (17)), some (.inl (c1)), some (.inr (.inl (u5))), none, some (.inr (.inl (u7))), none, some (.inl (c2)), some (.inl (c3)), some (.inl (u11)), some (.inl (v10))] [.inl (Int32.ofInt 10), .inl (v10)] τ (w, σ') := h
        replace h := ei_irem h rfl
        obtain ⟨hd14, f, g, h⟩ := h
        replace hf := Nat.lt_trans g hf
        clear g
        replace h : EV F f 179 z179 53 [some (rf 11 (0)), some (rf 13 (14)), some (rf 13 (15)), some (rf 13 (17)), some (.inl (c1)), some (.inr (.inl (u5))), none, some (.inr (.inl (u7))), none, some (.inl (c2)), some (.inl (c3)), some (.inl (u11)), some (.inl (v10))] [.inl ((v10) - (v10) / (Int32.ofInt 10) * (Int32.ofInt 10))] τ (w, σ') := h
        replace h := ei_p h rfl rfl rfl rfl
        obtain ⟨f, g, h⟩ := h
        replace hf := Nat.lt_trans g hf
        clear g
        replace h : EV F f 179 z179 54 [some (rf 11 (0)), some (rf 13 (14)), some (rf 13 (15)), some (rf 13 (17)), some (.inl (c1)), some (.inr (.inl (u5))), none, some (.inr (.inl (u7))), none, some (.inl (c2)), some (.inl (c3)), some (.inl (u11)), some (.inl (v10))] [.inl (Int32.ofInt 1), .inl ((v10) - (v10) / (Int32.ofInt 10) * (Int32.ofInt 10))] τ (w, σ') := h
        replace h := ei_c h rfl rfl rfl
        rcases h with ⟨hp15, f, g, h⟩ | ⟨hp15, f, g, h⟩
        · skip
          replace hp15 : ((v10) - (v10) / (Int32.ofInt 10) * (Int32.ofInt 10)).toInt ≠ (1 : Int) := ic_ne.mp hp15
          refine Or.inl ⟨hp15, ?_⟩
          replace hf := Nat.lt_trans g hf
          clear g
          replace h : EV F f 179 z179 149 [some (rf 11 (0)), some (rf 13 (14)), some (rf 13 (15)), some (rf 13 (17)), some (.inl (c1)), some (.inr (.inl (u5))), none, some (.inr (.inl (u7))), none, some (.inl (c2)), some (.inl (c3)), some (.inl (u11)), some (.inl (v10))] [] τ (w, σ') := h
          replace h := ei_p h rfl rfl rfl rfl
          obtain ⟨f, g, h⟩ := h
          replace hf := Nat.lt_trans g hf
          clear g
          replace h : EV F f 179 z179 152 [some (rf 11 (0)), some (rf 13 (14)), some (rf 13 (15)), some (rf 13 (17)), some (.inl (c1)), some (.inr (.inl (u5))), none, some (.inr (.inl (u7))), none, some (.inl (c2)), some (.inl (c3)), some (.inl ((u11) + Int32.ofInt 1)), some (.inl (v10))] [] τ (w, σ') := h
          replace h := ei_p h rfl rfl rfl rfl
          obtain ⟨f, g, h⟩ := h
          replace hf := Nat.lt_trans g hf
          clear g
          replace h : EV F f 179 z179 32 [some (rf 11 (0)), some (rf 13 (14)), some (rf 13 (15)), some (rf 13 (17)), some (.inl (c1)), some (.inr (.inl (u5))), none, some (.inr (.inl (u7))), none, some (.inl (c2)), some (.inl (c3)), some (.inl ((u11) + Int32.ofInt 1)), some (.inl (v10))] [] τ (w, σ') := h
          exact IH f hf (u5) (u7) ((u11) + Int32.ofInt 1) (some (.inl (v10))) τ hsτ h
        · skip
          replace hp15 : ¬ (((v10) - (v10) / (Int32.ofInt 10) * (Int32.ofInt 10)).toInt ≠ (1 : Int)) := (not_congr ic_ne).mp hp15
          refine Or.inr ⟨hp15, ?_⟩
          replace hf := Nat.lt_trans g hf
          clear g
          replace h : EV F f 179 z179 57 [some (rf 11 (0)), some (rf 13 (14)), some (rf 13 (15)), some (rf 13 (17)), some (.inl (c1)), some (.inr (.inl (u5))), none, some (.inr (.inl (u7))), none, some (.inl (c2)), some (.inl (c3)), some (.inl (u11)), some (.inl (v10))] [] τ (w, σ') := h
          replace h := ei_p h rfl rfl rfl rfl
          obtain ⟨f, g, h⟩ := h
          replace hf := Nat.lt_trans g hf
          clear g
          replace h : EV F f 179 z179 58 [some (rf 11 (0)), some (rf 13 (14)), some (rf 13 (15)), some (rf 13 (17)), some (.inl (c1)), some (.inr (.inl (u5))), none, some (.inr (.inl (u7))), none, some (.inl (c2)), some (.inl (c3)), some (.inl (u11)), some (.inl (v10))] [rf 13 (15)] τ (w, σ') := h
          replace h := ei_p h rfl rfl rfl rfl
          obtain ⟨f, g, h⟩ := h
          replace hf := Nat.lt_trans g hf
          clear g
          replace h : EV F f 179 z179 60 [some (rf 11 (0)), some (rf 13 (14)), some (rf 13 (15)), some (rf 13 (17)), some (.inl (c1)), some (.inr (.inl (u5))), none, some (.inr (.inl (u7))), none, some (.inl (c2)), some (.inl (c3)), some (.inl (u11)), some (.inl (v10))] [.inl (u11), rf 13 (15)] τ (w, σ') := h
          replace h := ei_iald h rfl (fun _ => rfl)
          obtain ⟨vp16, f, g, h⟩ := h
          replace hf := Nat.lt_trans g hf
          clear g
          replace h : EV F f 179 z179 61 [some (rf 11 (0)), some (rf 13 (14)), some (rf 13 (15)), some (rf 13 (17)), some (.inl (c1)), some (.inr (.inl (u5))), none, some (.inr (.inl (u7))), none, some (.inl (c2)), some (.inl (c3)), some (.inl (u11)), some (.inl (v10))] [.inl (m_i τ 13 (15) (u11).toNatClampNeg)] τ (w, σ') := h
          refine ⟨vp_2 vp16, ?_⟩
          replace h := ei_p h rfl rfl rfl rfl
          obtain ⟨f, g, h⟩ := h
          replace hf := Nat.lt_trans g hf
          clear g
          replace h : EV F f 179 z179 63 [some (rf 11 (0)), some (rf 13 (14)), some (rf 13 (15)), some (rf 13 (17)), some (.inl (c1)), some (.inr (.inl (u5))), none, some (.inr (.inl (u7))), none, some (.inl (c2)), some (.inl (c3)), some (.inl (u11)), some (.inl (v10))] [.inl (Int32.ofInt 10), .inl (m_i τ 13 (15) (u11).toNatClampNeg)] τ (w, σ') := h
          replace h := ei_idiv h rfl
          obtain ⟨hd17, f, g, h⟩ := h
          replace hf := Nat.lt_trans g hf
          clear g
          replace h : EV F f 179 z179 64 [some (rf 11 (0)), some (rf 13 (14)), some (rf 13 (15)), some (rf 13 (17)), some (.inl (c1)), some (.inr (.inl (u5))), none, some (.inr (.inl (u7))), none, some (.inl (c2)), some (.inl (c3)), some (.inl (u11)), some (.inl (v10))] [.inl ((m_i τ 13 (15) (u11).toNatClampNeg) / (Int32.ofInt 10))] τ (w, σ') := h
          replace h := ei_p h rfl rfl rfl rfl
          obtain ⟨f, g, h⟩ := h
          replace hf := Nat.lt_trans g hf
          clear g
          replace h : EV F f 179 z179 65 [some (rf 11 (0)), some (rf 13 (14)), some (rf 13 (15)), some (rf 13 (17)), some (.inl (c1)), some (.inr (.inl (u5))), none, some (.inr (.inl (u7))), none, some (.inl (c2)), some (.inl (c3)), some (.inl (u11)), some (.inl (v10))] [rf 13 (15), .inl ((m_i τ 13 (15) (u11).toNatClampNeg) / (Int32.ofInt 10))] τ (w, σ') := h
          replace h := ei_p h rfl rfl rfl rfl
          obtain ⟨f, g, h⟩ := h
          replace hf := Nat.lt_trans g hf
          clear g
          replace h : EV F f 179 z179 67 [some (rf 11 (0)), some (rf 13 (14)), some (rf 13 (15)), some (rf 13 (17)), some (.inl (c1)), some (.inr (.inl (u5))), none, some (.inr (.inl (u7))), none, some (.inl (c2)), some (.inl (c3)), some (.inl (u11)), some (.inl (v10))] [.inl (c1), rf 13 (15), .inl ((m_i τ 13 (15) (u11).toNatClampNeg) / (Int32.ofInt 10))] τ (w, σ') := h
          replace h := ei_iald h rfl (fun _ => rfl)
          obtain ⟨vp18, f, g, h⟩ := h
          replace hf := Nat.lt_trans g hf
          clear g
          replace h : EV F f 179 z179 68 [some (rf 11 (0)), some (rf 13 (14)), some (rf 13 (15)), some (rf 13 (17)), some (.inl (c1)), some (.inr (.inl (u5))), none, some (.inr (.inl (u7))), none, some (.inl (c2)), some (.inl (c3)), some (.inl (u11)), some (.inl (v10))] [.inl (m_i τ 13 (15) (c1).toNatClampNeg), .inl ((m_i τ 13 (15) (u11).toNatClampNeg) / (Int32.ofInt 10))] τ (w, σ') := h
          refine ⟨vp_2 vp18, ?_⟩
          replace h := ei_p h rfl rfl rfl rfl
          obtain ⟨f, g, h⟩ := h
          replace hf := Nat.lt_trans g hf
          clear g
          replace h : EV F f 179 z179 70 [some (rf 11 (0)), some (rf 13 (14)), some (rf 13 (15)), some (rf 13 (17)), some (.inl (c1)), some (.inr (.inl (u5))), none, some (.inr (.inl (u7))), none, some (.inl (c2)), some (.inl (c3)), some (.inl (u11)), some (.inl (v10))] [.inl (Int32.ofInt 10), .inl (m_i τ 13 (15) (c1).toNatClampNeg), .inl ((m_i τ 13 (15) (u11).toNatClampNeg) / (Int32.ofInt 10))] τ (w, σ') := h
          replace h := ei_idiv h rfl
          obtain ⟨hd19, f, g, h⟩ := h
          replace hf := Nat.lt_trans g hf
          clear g
          replace h : EV F f 179 z179 71 [some (rf 11 (0)), some (rf 13 (14)), some (rf 13 (15)), some (rf 13 (17)), some (.inl (c1)), some (.inr (.inl (u5))), none, some (.inr (.inl (u7))), none, some (.inl (c2)), some (.inl (c3)), some (.inl (u11)), some (.inl (v10))] [.inl ((m_i τ 13 (15) (c1).toNatClampNeg) / (Int32.ofInt 10)), .inl ((m_i τ 13 (15) (u11).toNatClampNeg) / (Int32.ofInt 10))] τ (w, σ') := h
          replace h := ei_c h rfl rfl rfl
          rcases h with ⟨hp20, f, g, h⟩ | ⟨hp20, f, g, h⟩
          · skip
            replace hp20 : ((m_i τ 13 (15) (u11).toNatClampNeg) / (Int32.ofInt 10)).toInt ≠ ((m_i τ 13 (15) (c1).toNatClampNeg) / (Int32.ofInt 10)).toInt := ic_ne.mp hp20
            refine Or.inl ⟨hp20, ?_⟩
            replace hf := Nat.lt_trans g hf
            clear g
            replace h : EV F f 179 z179 149 [some (rf 11 (0)), some (rf 13 (14)), some (rf 13 (15)), some (rf 13 (17)), some (.inl (c1)), some (.inr (.inl (u5))), none, some (.inr (.inl (u7))), none, some (.inl (c2)), some (.inl (c3)), some (.inl (u11)), some (.inl (v10))] [] τ (w, σ') := h
            replace h := ei_p h rfl rfl rfl rfl
            obtain ⟨f, g, h⟩ := h
            replace hf := Nat.lt_trans g hf
            clear g
            replace h : EV F f 179 z179 152 [some (rf 11 (0)), some (rf 13 (14)), some (rf 13 (15)), some (rf 13 (17)), some (.inl (c1)), some (.inr (.inl (u5))), none, some (.inr (.inl (u7))), none, some (.inl (c2)), some (.inl (c3)), some (.inl ((u11) + Int32.ofInt 1)), some (.inl (v10))] [] τ (w, σ') := h
            replace h := ei_p h rfl rfl rfl rfl
            obtain ⟨f, g, h⟩ := h
            replace hf := Nat.lt_trans g hf
            clear g
            replace h : EV F f 179 z179 32 [some (rf 11 (0)), some (rf 13 (14)), some (rf 13 (15)), some (rf 13 (17)), some (.inl (c1)), some (.inr (.inl (u5))), none, some (.inr (.inl (u7))), none, some (.inl (c2)), some (.inl (c3)), some (.inl ((u11) + Int32.ofInt 1)), some (.inl (v10))] [] τ (w, σ') := h
            exact IH f hf (u5) (u7) ((u11) + Int32.ofInt 1) (some (.inl (v10))) τ hsτ h
          · skip
            replace hp20 : ¬ (((m_i τ 13 (15) (u11).toNatClampNeg) / (Int32.ofInt 10)).toInt ≠ ((m_i τ 13 (15) (c1).toNatClampNeg) / (Int32.ofInt 10)).toInt) := (not_congr ic_ne).mp hp20
            refine Or.inr ⟨hp20, ?_⟩
            replace hf := Nat.lt_trans g hf
            clear g
            replace h : EV F f 179 z179 74 [some (rf 11 (0)), some (rf 13 (14)), some (rf 13 (15)), some (rf 13 (17)), some (.inl (c1)), some (.inr (.inl (u5))), none, some (.inr (.inl (u7))), none, some (.inl (c2)), some (.inl (c3)), some (.inl (u11)), some (.inl (v10))] [] τ (w, σ') := h
            replace h := ei_p h rfl rfl rfl rfl
            obtain ⟨f, g, h⟩ := h
            replace hf := Nat.lt_trans g hf
            clear g
            replace h : EV F f 179 z179 76 [some (rf 11 (0)), some (rf 13 (14)), some (rf 13 (15)), some (rf 13 (17)), some (.inl (c1)), some (.inr (.inl (u5))), none, some (.inr (.inl (u7))), none, some (.inl (c2)), some (.inl (c3)), some (.inl (u11)), some (.inl (v10))] [.inr (.inl (u5))] τ (w, σ') := h
            replace h := ei_p h rfl rfl rfl rfl
            obtain ⟨f, g, h⟩ := h
            replace hf := Nat.lt_trans g hf
            clear g
            replace h : EV F f 179 z179 77 [some (rf 11 (0)), some (rf 13 (14)), some (rf 13 (15)), some (rf 13 (17)), some (.inl (c1)), some (.inr (.inl (u5))), none, some (.inr (.inl (u7))), none, some (.inl (c2)), some (.inl (c3)), some (.inl (u11)), some (.inl (v10))] [rf 13 (14), .inr (.inl (u5))] τ (w, σ') := h
            replace h := ei_p h rfl rfl rfl rfl
            obtain ⟨f, g, h⟩ := h
            replace hf := Nat.lt_trans g hf
            clear g
            replace h : EV F f 179 z179 79 [some (rf 11 (0)), some (rf 13 (14)), some (rf 13 (15)), some (rf 13 (17)), some (.inl (c1)), some (.inr (.inl (u5))), none, some (.inr (.inl (u7))), none, some (.inl (c2)), some (.inl (c3)), some (.inl (u11)), some (.inl (v10))] [.inl (u11), rf 13 (14), .inr (.inl (u5))] τ (w, σ') := h
            replace h := ei_iald h rfl (fun _ => rfl)
            obtain ⟨vp21, f, g, h⟩ := h
            replace hf := Nat.lt_trans g hf
            clear g
            replace h : EV F f 179 z179 80 [some (rf 11 (0)), some (rf 13 (14)), some (rf 13 (15)), some (rf 13 (17)), some (.inl (c1)), some (.inr (.inl (u5))), none, some (.inr (.inl (u7))), none, some (.inl (c2)), some (.inl (c3)), some (.inl (u11)), some (.inl (v10))] [.inl (m_i τ 13 (14) (u11).toNatClampNeg), .inr (.inl (u5))] τ (w, σ') := h
            refine ⟨vp_2 vp21, ?_⟩
            replace h := ei_p h rfl rfl rfl rfl
            obtain ⟨f, g, h⟩ := h
            replace hf := Nat.lt_trans g hf
            clear g
            replace h : EV F f 179 z179 81 [some (rf 11 (0)), some (rf 13 (14)), some (rf 13 (15)), some (rf 13 (17)), some (.inl (c1)), some (.inr (.inl (u5))), none, some (.inr (.inl (u7))), none, some (.inl (c2)), some (.inl (c3)), some (.inl (u11)), some (.inl (v10))] [rf 13 (14), .inl (m_i τ 13 (14) (u11).toNatClampNeg), .inr (.inl (u5))] τ (w, σ') := h
            replace h := ei_p h rfl rfl rfl rfl
            obtain ⟨f, g, h⟩ := h
            replace hf := Nat.lt_trans g hf
            clear g
            replace h : EV F f 179 z179 83 [some (rf 11 (0)), some (rf 13 (14)), some (rf 13 (15)), some (rf 13 (17)), some (.inl (c1)), some (.inr (.inl (u5))), none, some (.inr (.inl (u7))), none, some (.inl (c2)), some (.inl (c3)), some (.inl (u11)), some (.inl (v10))] [.inl (c1), rf 13 (14), .inl (m_i τ 13 (14) (u11).toNatClampNeg), .inr (.inl (u5))] τ (w, σ') := h
            replace h := ei_iald h rfl (fun _ => rfl)
            obtain ⟨vp22, f, g, h⟩ := h
            replace hf := Nat.lt_trans g hf
            clear g
            replace h : EV F f 179 z179 84 [some (rf 11 (0)), some (rf 13 (14)), some (rf 13 (15)), some (rf 13 (17)), some (.inl (c1)), some (.inr (.inl (u5))), none, some (.inr (.inl (u7))), none, some (.inl (c2)), some (.inl (c3)), some (.inl (u11)), some (.inl (v10))] [.inl (m_i τ 13 (14) (c1).toNatClampNeg), .inl (m_i τ 13 (14) (u11).toNatClampNeg), .inr (.inl (u5))] τ (w, σ') := h
            refine ⟨vp_2 vp22, ?_⟩
            replace h := ei_c h rfl rfl rfl
            rcases h with ⟨hp23, f, g, h⟩ | ⟨hp23, f, g, h⟩
            · skip
              replace hp23 : (m_i τ 13 (14) (u11).toNatClampNeg).toInt ≠ (m_i τ 13 (14) (c1).toNatClampNeg).toInt := ic_ne.mp hp23
              refine Or.inl ⟨hp23, ?_⟩
              replace hf := Nat.lt_trans g hf
              clear g
              replace h : EV F f 179 z179 96 [some (rf 11 (0)), some (rf 13 (14)), some (rf 13 (15)), some (rf 13 (17)), some (.inl (c1)), some (.inr (.inl (u5))), none, some (.inr (.inl (u7))), none, some (.inl (c2)), some (.inl (c3)), some (.inl (u11)), some (.inl (v10))] [.inr (.inl (u5))] τ (w, σ') := h
              replace h := ei_p h rfl rfl rfl rfl
              obtain ⟨f, g, h⟩ := h
              replace hf := Nat.lt_trans g hf
              clear g
              replace h : EV F f 179 z179 97 [some (rf 11 (0)), some (rf 13 (14)), some (rf 13 (15)), some (rf 13 (17)), some (.inl (c1)), some (.inr (.inl (u5))), none, some (.inr (.inl (u7))), none, some (.inl (c2)), some (.inl (c3)), some (.inl (u11)), some (.inl (v10))] [.inr (.inl (Int64.ofNat 0)), .inr (.inl (u5))] τ (w, σ') := h
              replace h := ei_p h rfl rfl rfl rfl
              obtain ⟨f, g, h⟩ := h
              replace hf := Nat.lt_trans g hf
              clear g
              replace h : EV F f 179 z179 98 [some (rf 11 (0)), some (rf 13 (14)), some (rf 13 (15)), some (rf 13 (17)), some (.inl (c1)), some (.inr (.inl (u5))), none, some (.inr (.inl (u7))), none, some (.inl (c2)), some (.inl (c3)), some (.inl (u11)), some (.inl (v10))] [.inr (.inl ((u5) + (Int64.ofNat 0)))] τ (w, σ') := h
              replace h := ei_p h rfl rfl rfl rfl
              obtain ⟨f, g, h⟩ := h
              replace hf := Nat.lt_trans g hf
              clear g
              replace h : EV F f 179 z179 100 [some (rf 11 (0)), some (rf 13 (14)), some (rf 13 (15)), some (rf 13 (17)), some (.inl (c1)), some (.inr (.inl ((u5) + (Int64.ofNat 0)))), none, some (.inr (.inl (u7))), none, some (.inl (c2)), some (.inl (c3)), some (.inl (u11)), some (.inl (v10))] [] τ (w, σ') := h
              replace h := ei_p h rfl rfl rfl rfl
              obtain ⟨f, g, h⟩ := h
              replace hf := Nat.lt_trans g hf
              clear g
              replace h : EV F f 179 z179 102 [some (rf 11 (0)), some (rf 13 (14)), some (rf 13 (15)), some (rf 13 (17)), some (.inl (c1)), some (.inr (.inl ((u5) + (Int64.ofNat 0)))), none, some (.inr (.inl (u7))), none, some (.inl (c2)), some (.inl (c3)), some (.inl (u11)), some (.inl (v10))] [.inr (.inl (u7))] τ (w, σ') := h
              replace h := ei_p h rfl rfl rfl rfl
              obtain ⟨f, g, h⟩ := h
              replace hf := Nat.lt_trans g hf
              clear g
              replace h : EV F f 179 z179 103 [some (rf 11 (0)), some (rf 13 (14)), some (rf 13 (15)), some (rf 13 (17)), some (.inl (c1)), some (.inr (.inl ((u5) + (Int64.ofNat 0)))), none, some (.inr (.inl (u7))), none, some (.inl (c2)), some (.inl (c3)), some (.inl (u11)), some (.inl (v10))] [.inr (.inl (Int64.ofNat 0)), .inr (.inl (u7))] τ (w, σ') := h
              replace h := ei_p h rfl rfl rfl rfl
              obtain ⟨f, g, h⟩ := h
              replace hf := Nat.lt_trans g hf
              clear g
              replace h : EV F f 179 z179 104 [some (rf 11 (0)), some (rf 13 (14)), some (rf 13 (15)), some (rf 13 (17)), some (.inl (c1)), some (.inr (.inl ((u5) + (Int64.ofNat 0)))), none, some (.inr (.inl (u7))), none, some (.inl (c2)), some (.inl (c3)), some (.inl (u11)), some (.inl (v10))] [.inl (lg_cmp (u7) (Int64.ofNat 0))] τ (w, σ') := h
              replace h := ei_c h rfl rfl rfl
              rcases h with ⟨hp24, f, g, h⟩ | ⟨hp24, f, g, h⟩
              · skip
                replace hp24 : (u7).toInt < (Int64.ofNat 0).toInt := (ab_lc .lt _ _).mp hp24
                refine Or.inl ⟨hp24, ?_⟩
                replace hf := Nat.lt_trans g hf
                clear g
                replace h : EV F f 179 z179 137 [some (rf 11 (0)), some (rf 13 (14)), some (rf 13 (15)), some (rf 13 (17)), some (.inl (c1)), some (.inr (.inl ((u5) + (Int64.ofNat 0)))), none, some (.inr (.inl (u7))), none, some (.inl (c2)), some (.inl (c3)), some (.inl (u11)), some (.inl (v10))] [] τ (w, σ') := h
                replace h := ei_p h rfl rfl rfl rfl
                obtain ⟨f, g, h⟩ := h
                replace hf := Nat.lt_trans g hf
                clear g
                replace h : EV F f 179 z179 138 [some (rf 11 (0)), some (rf 13 (14)), some (rf 13 (15)), some (rf 13 (17)), some (.inl (c1)), some (.inr (.inl ((u5) + (Int64.ofNat 0)))), none, some (.inr (.inl (u7))), none, some (.inl (c2)), some (.inl (c3)), some (.inl (u11)), some (.inl (v10))] [rf 13 (14)] τ (w, σ') := h
                replace h := ei_p h rfl rfl rfl rfl
                obtain ⟨f, g, h⟩ := h
                replace hf := Nat.lt_trans g hf
                clear g
                replace h : EV F f 179 z179 140 [some (rf 11 (0)), some (rf 13 (14)), some (rf 13 (15)), some (rf 13 (17)), some (.inl (c1)), some (.inr (.inl ((u5) + (Int64.ofNat 0)))), none, some (.inr (.inl (u7))), none, some (.inl (c2)), some (.inl (c3)), some (.inl (u11)), some (.inl (v10))] [.inl (u11), rf 13 (14)] τ (w, σ') := h
                replace h := ei_iald h rfl (fun _ => rfl)
                obtain ⟨vp25, f, g, h⟩ := h
                replace hf := Nat.lt_trans g hf
                clear g
                replace h : EV F f 179 z179 141 [some (rf 11 (0)), some (rf 13 (14)), some (rf 13 (15)), some (rf 13 (17)), some (.inl (c1)), some (.inr (.inl ((u5) + (Int64.ofNat 0)))), none, some (.inr (.inl (u7))), none, some (.inl (c2)), some (.inl (c3)), some (.inl (u11)), some (.inl (v10))] [.inl (m_i τ 13 (14) (u11).toNatClampNeg)] τ (w, σ') := h
                refine ⟨vp_2 vp25, ?_⟩
                replace h := ei_p h rfl rfl rfl rfl
                obtain ⟨f, g, h⟩ := h
                replace hf := Nat.lt_trans g hf
                clear g
                replace h : EV F f 179 z179 142 [some (rf 11 (0)), some (rf 13 (14)), some (rf 13 (15)), some (rf 13 (17)), some (.inl (c1)), some (.inr (.inl ((u5) + (Int64.ofNat 0)))), none, some (.inr (.inl (u7))), none, some (.inl (c2)), some (.inl (c3)), some (.inl (u11)), some (.inl (v10))] [.inr (.inl ((m_i τ 13 (14) (u11).toNatClampNeg).toInt64))] τ (w, σ') := h
                replace h := ei_p h rfl rfl rfl rfl
                obtain ⟨f, g, h⟩ := h
                replace hf := Nat.lt_trans g hf
                clear g
                replace h : EV F f 179 z179 147 [some (rf 11 (0)), some (rf 13 (14)), some (rf 13 (15)), some (rf 13 (17)), some (.inl (c1)), some (.inr (.inl ((u5) + (Int64.ofNat 0)))), none, some (.inr (.inl (u7))), none, some (.inl (c2)), some (.inl (c3)), some (.inl (u11)), some (.inl (v10))] [.inr (.inl ((m_i τ 13 (14) (u11).toNatClampNeg).toInt64))] τ (w, σ') := h
                replace h := ei_p h rfl rfl rfl rfl
                obtain ⟨f, g, h⟩ := h
                replace hf := Nat.lt_trans g hf
                clear g
                replace h : EV F f 179 z179 149 [some (rf 11 (0)), some (rf 13 (14)), some (rf 13 (15)), some (rf 13 (17)), some (.inl (c1)), some (.inr (.inl ((u5) + (Int64.ofNat 0)))), none, some (.inr (.inl ((m_i τ 13 (14) (u11).toNatClampNeg).toInt64))), none, some (.inl (c2)), some (.inl (c3)), some (.inl (u11)), some (.inl (v10))] [] τ (w, σ') := h
                obtain ⟨n26, e27⟩ : ∃ s, s = (m_i τ 13 (14) (u11).toNatClampNeg).toInt64 := ⟨_, rfl⟩
                rw [← e27] at h
                refine ⟨n26, e27, ?_⟩
                replace h : EV F f 179 z179 149 [some (rf 11 (0)), some (rf 13 (14)), some (rf 13 (15)), some (rf 13 (17)), some (.inl (c1)), some (.inr (.inl ((u5) + (Int64.ofNat 0)))), none, some (.inr (.inl (n26))), none, some (.inl (c2)), some (.inl (c3)), some (.inl (u11)), some (.inl (v10))] [] τ (w, σ') := h
                replace h := ei_p h rfl rfl rfl rfl
                obtain ⟨f, g, h⟩ := h
                replace hf := Nat.lt_trans g hf
                clear g
                replace h : EV F f 179 z179 152 [some (rf 11 (0)), some (rf 13 (14)), some (rf 13 (15)), some (rf 13 (17)), some (.inl (c1)), some (.inr (.inl ((u5) + (Int64.ofNat 0)))), none, some (.inr (.inl (n26))), none, some (.inl (c2)), some (.inl (c3)), some (.inl ((u11) + Int32.ofInt 1)), some (.inl (v10))] [] τ (w, σ') := h
                replace h := ei_p h rfl rfl rfl rfl
                obtain ⟨f, g, h⟩ := h
                replace hf := Nat.lt_trans g hf
                clear g
                replace h : EV F f 179 z179 32 [some (rf 11 (0)), some (rf 13 (14)), some (rf 13 (15)), some (rf 13 (17)), some (.inl (c1)), some (.inr (.inl ((u5) + (Int64.ofNat 0)))), none, some (.inr (.inl (n26))), none, some (.inl (c2)), some (.inl (c3)), some (.inl ((u11) + Int32.ofInt 1)), some (.inl (v10))] [] τ (w, σ') := h
                exact IH f hf ((u5) + (Int64.ofNat 0)) (n26) ((u11) + Int32.ofInt 1) (some (.inl (v10))) τ hsτ h
              · skip
                replace hp24 : ¬ ((u7).toInt < (Int64.ofNat 0).toInt) := (not_congr (ab_lc .lt _ _)).mp hp24
                refine Or.inr ⟨hp24, ?_⟩
                replace hf := Nat.lt_trans g hf
                clear g
                replace h : EV F f 179 z179 107 [some (rf 11 (0)), some (rf 13 (14)), some (rf 13 (15)), some (rf 13 (17)), some (.inl (c1)), some (.inr (.inl ((u5) + (Int64.ofNat 0)))), none, some (.inr (.inl (u7))), none, some (.inl (c2)), some (.inl (c3)), some (.inl (u11)), some (.inl (v10))] [] τ (w, σ') := h
                replace h := ei_p h rfl rfl rfl rfl
                obtain ⟨f, g, h⟩ := h
                replace hf := Nat.lt_trans g hf
                clear g
                replace h : EV F f 179 z179 109 [some (rf 11 (0)), some (rf 13 (14)), some (rf 13 (15)), some (rf 13 (17)), some (.inl (c1)), some (.inr (.inl ((u5) + (Int64.ofNat 0)))), none, some (.inr (.inl (u7))), none, some (.inl (c2)), some (.inl (c3)), some (.inl (u11)), some (.inl (v10))] [.inl (c3)] τ (w, σ') := h
                replace h := ei_c h rfl rfl rfl
                rcases h with ⟨hp28, f, g, h⟩ | ⟨hp28, f, g, h⟩
                · skip
                  replace hp28 : (c3).toInt ≠ (0 : Int) := ic_ne.mp hp28
                  refine Or.inl ⟨hp28, ?_⟩
                  replace hf := Nat.lt_trans g hf
                  clear g
                  replace h : EV F f 179 z179 126 [some (rf 11 (0)), some (rf 13 (14)), some (rf 13 (15)), some (rf 13 (17)), some (.inl (c1)), some (.inr (.inl ((u5) + (Int64.ofNat 0)))), none, some (.inr (.inl (u7))), none, some (.inl (c2)), some (.inl (c3)), some (.inl (u11)), some (.inl (v10))] [] τ (w, σ') := h
                  replace h := ei_p h rfl rfl rfl rfl
                  obtain ⟨f, g, h⟩ := h
                  replace hf := Nat.lt_trans g hf
                  clear g
                  replace h : EV F f 179 z179 127 [some (rf 11 (0)), some (rf 13 (14)), some (rf 13 (15)), some (rf 13 (17)), some (.inl (c1)), some (.inr (.inl ((u5) + (Int64.ofNat 0)))), none, some (.inr (.inl (u7))), none, some (.inl (c2)), some (.inl (c3)), some (.inl (u11)), some (.inl (v10))] [rf 13 (14)] τ (w, σ') := h
                  replace h := ei_p h rfl rfl rfl rfl
                  obtain ⟨f, g, h⟩ := h
                  replace hf := Nat.lt_trans g hf
                  clear g
                  replace h : EV F f 179 z179 129 [some (rf 11 (0)), some (rf 13 (14)), some (rf 13 (15)), some (rf 13 (17)), some (.inl (c1)), some (.inr (.inl ((u5) + (Int64.ofNat 0)))), none, some (.inr (.inl (u7))), none, some (.inl (c2)), some (.inl (c3)), some (.inl (u11)), some (.inl (v10))] [.inl (u11), rf 13 (14)] τ (w, σ') := h
                  replace h := ei_iald h rfl (fun _ => rfl)
                  obtain ⟨vp29, f, g, h⟩ := h
                  replace hf := Nat.lt_trans g hf
                  clear g
                  replace h : EV F f 179 z179 130 [some (rf 11 (0)), some (rf 13 (14)), some (rf 13 (15)), some (rf 13 (17)), some (.inl (c1)), some (.inr (.inl ((u5) + (Int64.ofNat 0)))), none, some (.inr (.inl (u7))), none, some (.inl (c2)), some (.inl (c3)), some (.inl (u11)), some (.inl (v10))] [.inl (m_i τ 13 (14) (u11).toNatClampNeg)] τ (w, σ') := h
                  refine ⟨vp_2 vp29, ?_⟩
                  replace h := ei_p h rfl rfl rfl rfl
                  obtain ⟨f, g, h⟩ := h
                  replace hf := Nat.lt_trans g hf
                  clear g
                  replace h : EV F f 179 z179 131 [some (rf 11 (0)), some (rf 13 (14)), some (rf 13 (15)), some (rf 13 (17)), some (.inl (c1)), some (.inr (.inl ((u5) + (Int64.ofNat 0)))), none, some (.inr (.inl (u7))), none, some (.inl (c2)), some (.inl (c3)), some (.inl (u11)), some (.inl (v10))] [.inr (.inl ((m_i τ 13 (14) (u11).toNatClampNeg).toInt64))] τ (w, σ') := h
                  replace h := ei_p h rfl rfl rfl rfl
                  obtain ⟨f, g, h⟩ := h
                  replace hf := Nat.lt_trans g hf
                  clear g
                  replace h : EV F f 179 z179 133 [some (rf 11 (0)), some (rf 13 (14)), some (rf 13 (15)), some (rf 13 (17)), some (.inl (c1)), some (.inr (.inl ((u5) + (Int64.ofNat 0)))), none, some (.inr (.inl (u7))), none, some (.inl (c2)), some (.inl (c3)), some (.inl (u11)), some (.inl (v10))] [.inr (.inl (u7)), .inr (.inl ((m_i τ 13 (14) (u11).toNatClampNeg).toInt64))] τ (w, σ') := h
                  replace h := ei_p h rfl rfl rfl rfl
                  obtain ⟨f, g, h⟩ := h
                  replace hf := Nat.lt_trans g hf
                  clear g
                  replace h : EV F f 179 z179 134 [some (rf 11 (0)), some (rf 13 (14)), some (rf 13 (15)), some (rf 13 (17)), some (.inl (c1)), some (.inr (.inl ((u5) + (Int64.ofNat 0)))), none, some (.inr (.inl (u7))), none, some (.inl (c2)), some (.inl (c3)), some (.inl (u11)), some (.inl (v10))] [.inl (lg_cmp ((m_i τ 13 (14) (u11).toNatClampNeg).toInt64) (u7))] τ (w, σ') := h
                  replace h := ei_c h rfl rfl rfl
                  rcases h with ⟨hp30, f, g, h⟩ | ⟨hp30, f, g, h⟩
                  · skip
                    replace hp30 : (u7).toInt ≤ ((m_i τ 13 (14) (u11).toNatClampNeg).toInt64).toInt := (ab_lc .ge _ _).mp hp30
                    refine Or.inl ⟨hp30, ?_⟩
                    replace hf := Nat.lt_trans g hf
                    clear g
                    replace h : EV F f 179 z179 145 [some (rf 11 (0)), some (rf 13 (14)), some (rf 13 (15)), some (rf 13 (17)), some (.inl (c1)), some (.inr (.inl ((u5) + (Int64.ofNat 0)))), none, some (.inr (.inl (u7))), none, some (.inl (c2)), some (.inl (c3)), some (.inl (u11)), some (.inl (v10))] [] τ (w, σ') := h
                    replace h := ei_p h rfl rfl rfl rfl
                    obtain ⟨f, g, h⟩ := h
                    replace hf := Nat.lt_trans g hf
                    clear g
                    replace h : EV F f 179 z179 147 [some (rf 11 (0)), some (rf 13 (14)), some (rf 13 (15)), some (rf 13 (17)), some (.inl (c1)), some (.inr (.inl ((u5) + (Int64.ofNat 0)))), none, some (.inr (.inl (u7))), none, some (.inl (c2)), some (.inl (c3)), some (.inl (u11)), some (.inl (v10))] [.inr (.inl (u7))] τ (w, σ') := h
                    replace h := ei_p h rfl rfl rfl rfl
                    obtain ⟨f, g, h⟩ := h
                    replace hf := Nat.lt_trans g hf
                    clear g
                    replace h : EV F f 179 z179 149 [some (rf 11 (0)), some (rf 13 (14)), some (rf 13 (15)), some (rf 13 (17)), some (.inl (c1)), some (.inr (.inl ((u5) + (Int64.ofNat 0)))), none, some (.inr (.inl (u7))), none, some (.inl (c2)), some (.inl (c3)), some (.inl (u11)), some (.inl (v10))] [] τ (w, σ') := h
                    replace h := ei_p h rfl rfl rfl rfl
                    obtain ⟨f, g, h⟩ := h
                    replace hf := Nat.lt_trans g hf
                    clear g
                    replace h : EV F f 179 z179 152 [some (rf 11 (0)), some (rf 13 (14)), some (rf 13 (15)), some (rf 13 (17)), some (.inl (c1)), some (.inr (.inl ((u5) + (Int64.ofNat 0)))), none, some (.inr (.inl (u7))), none, some (.inl (c2)), some (.inl (c3)), some (.inl ((u11) + Int32.ofInt 1)), some (.inl (v10))] [] τ (w, σ') := h
                    replace h := ei_p h rfl rfl rfl rfl
                    obtain ⟨f, g, h⟩ := h
                    replace hf := Nat.lt_trans g hf
                    clear g
                    replace h : EV F f 179 z179 32 [some (rf 11 (0)), some (rf 13 (14)), some (rf 13 (15)), some (rf 13 (17)), some (.inl (c1)), some (.inr (.inl ((u5) + (Int64.ofNat 0)))), none, some (.inr (.inl (u7))), none, some (.inl (c2)), some (.inl (c3)), some (.inl ((u11) + Int32.ofInt 1)), some (.inl (v10))] [] τ (w, σ') := h
                    exact IH f hf ((u5) + (Int64.ofNat 0)) (u7) ((u11) + Int32.ofInt 1) (some (.inl (v10))) τ hsτ h
                  · skip
                    replace hp30 : ¬ ((u7).toInt ≤ ((m_i τ 13 (14) (u11).toNatClampNeg).toInt64).toInt) := (not_congr (ab_lc .ge _ _)).mp hp30
                    refine Or.inr ⟨hp30, ?_⟩
                    replace hf := Nat.lt_trans g hf
                    clear g
                    replace h : EV F f 179 z179 137 [some (rf 11 (0)), some (rf 13 (14)), some (rf 13 (15)), some (rf 13 (17)), some (.inl (c1)), some (.inr (.inl ((u5) + (Int64.ofNat 0)))), none, some (.inr (.inl (u7))), none, some (.inl (c2)), some (.inl (c3)), some (.inl (u11)), some (.inl (v10))] [] τ (w, σ') := h
                    replace h := ei_p h rfl rfl rfl rfl
                    obtain ⟨f, g, h⟩ := h
                    replace hf := Nat.lt_trans g hf
                    clear g
                    replace h : EV F f 179 z179 138 [some (rf 11 (0)), some (rf 13 (14)), some (rf 13 (15)), some (rf 13 (17)), some (.inl (c1)), some (.inr (.inl ((u5) + (Int64.ofNat 0)))), none, some (.inr (.inl (u7))), none, some (.inl (c2)), some (.inl (c3)), some (.inl (u11)), some (.inl (v10))] [rf 13 (14)] τ (w, σ') := h
                    replace h := ei_p h rfl rfl rfl rfl
                    obtain ⟨f, g, h⟩ := h
                    replace hf := Nat.lt_trans g hf
                    clear g
                    replace h : EV F f 179 z179 140 [some (rf 11 (0)), some (rf 13 (14)), some (rf 13 (15)), some (rf 13 (17)), some (.inl (c1)), some (.inr (.inl ((u5) + (Int64.ofNat 0)))), none, some (.inr (.inl (u7))), none, some (.inl (c2)), some (.inl (c3)), some (.inl (u11)), some (.inl (v10))] [.inl (u11), rf 13 (14)] τ (w, σ') := h
                    replace h := ei_iald h rfl (fun _ => rfl)
                    obtain ⟨vp31, f, g, h⟩ := h
                    replace hf := Nat.lt_trans g hf
                    clear g
                    replace h : EV F f 179 z179 141 [some (rf 11 (0)), some (rf 13 (14)), some (rf 13 (15)), some (rf 13 (17)), some (.inl (c1)), some (.inr (.inl ((u5) + (Int64.ofNat 0)))), none, some (.inr (.inl (u7))), none, some (.inl (c2)), some (.inl (c3)), some (.inl (u11)), some (.inl (v10))] [.inl (m_i τ 13 (14) (u11).toNatClampNeg)] τ (w, σ') := h
                    refine ⟨vp_2 vp31, ?_⟩
                    replace h := ei_p h rfl rfl rfl rfl
                    obtain ⟨f, g, h⟩ := h
                    replace hf := Nat.lt_trans g hf
                    clear g
                    replace h : EV F f 179 z179 142 [some (rf 11 (0)), some (rf 13 (14)), some (rf 13 (15)), some (rf 13 (17)), some (.inl (c1)), some (.inr (.inl ((u5) + (Int64.ofNat 0)))), none, some (.inr (.inl (u7))), none, some (.inl (c2)), some (.inl (c3)), some (.inl (u11)), some (.inl (v10))] [.inr (.inl ((m_i τ 13 (14) (u11).toNatClampNeg).toInt64))] τ (w, σ') := h
                    replace h := ei_p h rfl rfl rfl rfl
                    obtain ⟨f, g, h⟩ := h
                    replace hf := Nat.lt_trans g hf
                    clear g
                    replace h : EV F f 179 z179 147 [some (rf 11 (0)), some (rf 13 (14)), some (rf 13 (15)), some (rf 13 (17)), some (.inl (c1)), some (.inr (.inl ((u5) + (Int64.ofNat 0)))), none, some (.inr (.inl (u7))), none, some (.inl (c2)), some (.inl (c3)), some (.inl (u11)), some (.inl (v10))] [.inr (.inl ((m_i τ 13 (14) (u11).toNatClampNeg).toInt64))] τ (w, σ') := h
                    replace h := ei_p h rfl rfl rfl rfl
                    obtain ⟨f, g, h⟩ := h
                    replace hf := Nat.lt_trans g hf
                    clear g
                    replace h : EV F f 179 z179 149 [some (rf 11 (0)), some (rf 13 (14)), some (rf 13 (15)), some (rf 13 (17)), some (.inl (c1)), some (.inr (.inl ((u5) + (Int64.ofNat 0)))), none, some (.inr (.inl ((m_i τ 13 (14) (u11).toNatClampNeg).toInt64))), none, some (.inl (c2)), some (.inl (c3)), some (.inl (u11)), some (.inl (v10))] [] τ (w, σ') := h
                    obtain ⟨n32, e33⟩ : ∃ s, s = (m_i τ 13 (14) (u11).toNatClampNeg).toInt64 := ⟨_, rfl⟩
                    rw [← e33] at h
                    refine ⟨n32, e33, ?_⟩
                    replace h : EV F f 179 z179 149 [some (rf 11 (0)), some (rf 13 (14)), some (rf 13 (15)), some (rf 13 (17)), some (.inl (c1)), some (.inr (.inl ((u5) + (Int64.ofNat 0)))), none, some (.inr (.inl (n32))), none, some (.inl (c2)), some (.inl (c3)), some (.inl (u11)), some (.inl (v10))] [] τ (w, σ') := h
                    replace h := ei_p h rfl rfl rfl rfl
                    obtain ⟨f, g, h⟩ := h
                    replace hf := Nat.lt_trans g hf
                    clear g
                    replace h : EV F f 179 z179 152 [some (rf 11 (0)), some (rf 13 (14)), some (rf 13 (15)), some (rf 13 (17)), some (.inl (c1)), some (.inr (.inl ((u5) + (Int64.ofNat 0)))), none, some (.inr (.inl (n32))), none, some (.inl (c2)), some (.inl (c3)), some (.inl ((u11) + Int32.ofInt 1)), some (.inl (v10))] [] τ (w, σ') := h
                    replace h := ei_p h rfl rfl rfl rfl
                    obtain ⟨f, g, h⟩ := h
                    replace hf := Nat.lt_trans g hf
                    clear g
                    replace h : EV F f 179 z179 32 [some (rf 11 (0)), some (rf 13 (14)), some (rf 13 (15)), some (rf 13 (17)), some (.inl (c1)), some (.inr (.inl ((u5) + (Int64.ofNat 0)))), none, some (.inr (.inl (n32))), none, some (.inl (c2)), some (.inl (c3)), some (.inl ((u11) + Int32.ofInt 1)), some (.inl (v10))] [] τ (w, σ') := h
                    exact IH f hf ((u5) + (Int64.ofNat 0)) (n32) ((u11) + Int32.ofInt 1) (some (.inl (v10))) τ hsτ h
                · skip
                  replace hp28 : ¬ ((c3).toInt ≠ (0 : Int)) := (not_congr ic_ne).mp hp28
                  refine Or.inr ⟨hp28, ?_⟩
                  replace hf := Nat.lt_trans g hf
                  clear g
                  replace h : EV F f 179 z179 112 [some (rf 11 (0)), some (rf 13 (14)), some (rf 13 (15)), some (rf 13 (17)), some (.inl (c1)), some (.inr (.inl ((u5) + (Int64.ofNat 0)))), none, some (.inr (.inl (u7))), none, some (.inl (c2)), some (.inl (c3)), some (.inl (u11)), some (.inl (v10))] [] τ (w, σ') := h
                  replace h := ei_p h rfl rfl rfl rfl
                  obtain ⟨f, g, h⟩ := h
                  replace hf := Nat.lt_trans g hf
                  clear g
                  replace h : EV F f 179 z179 113 [some (rf 11 (0)), some (rf 13 (14)), some (rf 13 (15)), some (rf 13 (17)), some (.inl (c1)), some (.inr (.inl ((u5) + (Int64.ofNat 0)))), none, some (.inr (.inl (u7))), none, some (.inl (c2)), some (.inl (c3)), some (.inl (u11)), some (.inl (v10))] [rf 13 (14)] τ (w, σ') := h
                  replace h := ei_p h rfl rfl rfl rfl
                  obtain ⟨f, g, h⟩ := h
                  replace hf := Nat.lt_trans g hf
                  clear g
                  replace h : EV F f 179 z179 115 [some (rf 11 (0)), some (rf 13 (14)), some (rf 13 (15)), some (rf 13 (17)), some (.inl (c1)), some (.inr (.inl ((u5) + (Int64.ofNat 0)))), none, some (.inr (.inl (u7))), none, some (.inl (c2)), some (.inl (c3)), some (.inl (u11)), some (.inl (v10))] [.inl (u11), rf 13 (14)] τ (w, σ') := h
                  replace h := ei_iald h rfl (fun _ => rfl)
                  obtain ⟨vp34, f, g, h⟩ := h
                  replace hf := Nat.lt_trans g hf
                  clear g
                  replace h : EV F f 179 z179 116 [some (rf 11 (0)), some (rf 13 (14)), some (rf 13 (15)), some (rf 13 (17)), some (.inl (c1)), some (.inr (.inl ((u5) + (Int64.ofNat 0)))), none, some (.inr (.inl (u7))), none, some (.inl (c2)), some (.inl (c3)), some (.inl (u11)), some (.inl (v10))] [.inl (m_i τ 13 (14) (u11).toNatClampNeg)] τ (w, σ') := h
                  refine ⟨vp_2 vp34, ?_⟩
                  replace h := ei_p h rfl rfl rfl rfl
                  obtain ⟨f, g, h⟩ := h
                  replace hf := Nat.lt_trans g hf
                  clear g
                  replace h : EV F f 179 z179 117 [some (rf 11 (0)), some (rf 13 (14)), some (rf 13 (15)), some (rf 13 (17)), some (.inl (c1)), some (.inr (.inl ((u5) + (Int64.ofNat 0)))), none, some (.inr (.inl (u7))), none, some (.inl (c2)), some (.inl (c3)), some (.inl (u11)), some (.inl (v10))] [.inr (.inl ((m_i τ 13 (14) (u11).toNatClampNeg).toInt64))] τ (w, σ') := h
                  replace h := ei_p h rfl rfl rfl rfl
                  obtain ⟨f, g, h⟩ := h
                  replace hf := Nat.lt_trans g hf
                  clear g
                  replace h : EV F f 179 z179 119 [some (rf 11 (0)), some (rf 13 (14)), some (rf 13 (15)), some (rf 13 (17)), some (.inl (c1)), some (.inr (.inl ((u5) + (Int64.ofNat 0)))), none, some (.inr (.inl (u7))), none, some (.inl (c2)), some (.inl (c3)), some (.inl (u11)), some (.inl (v10))] [.inr (.inl (u7)), .inr (.inl ((m_i τ 13 (14) (u11).toNatClampNeg).toInt64))] τ (w, σ') := h
                  replace h := ei_p h rfl rfl rfl rfl
                  obtain ⟨f, g, h⟩ := h
                  replace hf := Nat.lt_trans g hf
                  clear g
                  replace h : EV F f 179 z179 120 [some (rf 11 (0)), some (rf 13 (14)), some (rf 13 (15)), some (rf 13 (17)), some (.inl (c1)), some (.inr (.inl ((u5) + (Int64.ofNat 0)))), none, some (.inr (.inl (u7))), none, some (.inl (c2)), some (.inl (c3)), some (.inl (u11)), some (.inl (v10))] [.inl (lg_cmp ((m_i τ 13 (14) (u11).toNatClampNeg).toInt64) (u7))] τ (w, σ') := h
                  replace h := ei_c h rfl rfl rfl
                  rcases h with ⟨hp35, f, g, h⟩ | ⟨hp35, f, g, h⟩
                  · skip
                    replace hp35 : ((m_i τ 13 (14) (u11).toNatClampNeg).toInt64).toInt ≤ (u7).toInt := (ab_lc .le _ _).mp hp35
                    refine Or.inl ⟨hp35, ?_⟩
                    replace hf := Nat.lt_trans g hf
                    clear g
                    replace h : EV F f 179 z179 145 [some (rf 11 (0)), some (rf 13 (14)), some (rf 13 (15)), some (rf 13 (17)), some (.inl (c1)), some (.inr (.inl ((u5) + (Int64.ofNat 0)))), none, some (.inr (.inl (u7))), none, some (.inl (c2)), some (.inl (c3)), some (.inl (u11)), some (.inl (v10))] [] τ (w, σ') := h
                    replace h := ei_p h rfl rfl rfl rfl
                    obtain ⟨f, g, h⟩ := h
                    replace hf := Nat.lt_trans g hf
                    clear g
                    replace h : EV F f 179 z179 147 [some (rf 11 (0)), some (rf 13 (14)), some (rf 13 (15)), some (rf 13 (17)), some (.inl (c1)), some (.inr (.inl ((u5) + (Int64.ofNat 0)))), none, some (.inr (.inl (u7))), none, some (.inl (c2)), some (.inl (c3)), some (.inl (u11)), some (.inl (v10))] [.inr (.inl (u7))] τ (w, σ') := h
                    replace h := ei_p h rfl rfl rfl rfl
                    obtain ⟨f, g, h⟩ := h
                    replace hf := Nat.lt_trans g hf
                    clear g
                    replace h : EV F f 179 z179 149 [some (rf 11 (0)), some (rf 13 (14)), some (rf 13 (15)), some (rf 13 (17)), some (.inl (c1)), some (.inr (.inl ((u5) + (Int64.ofNat 0)))), none, some (.inr (.inl (u7))), none, some (.inl (c2)), some (.inl (c3)), some (.inl (u11)), some (.inl (v10))] [] τ (w, σ') := h
                    replace h := ei_p h rfl rfl rfl rfl
                    obtain ⟨f, g, h⟩ := h
                    replace hf := Nat.lt_trans g hf
                    clear g
                    replace h : EV F f 179 z179 152 [some (rf 11 (0)), some (rf 13 (14)), some (rf 13 (15)), some (rf 13 (17)), some (.inl (c1)), some (.inr (.inl ((u5) + (Int64.ofNat 0)))), none, some (.inr (.inl (u7))), none, some (.inl (c2)), some (.inl (c3)), some (.inl ((u11) + Int32.ofInt 1)), some (.inl (v10))] [] τ (w, σ') := h
                    replace h := ei_p h rfl rfl rfl rfl
                    obtain ⟨f, g, h⟩ := h
                    replace hf := Nat.lt_trans g hf
                    clear g
                    replace h : EV F f 179 z179 32 [some (rf 11 (0)), some (rf 13 (14)), some (rf 13 (15)), some (rf 13 (17)), some (.inl (c1)), some (.inr (.inl ((u5) + (Int64.ofNat 0)))), none, some (.inr (.inl (u7))), none, some (.inl (c2)), some (.inl (c3)), some (.inl ((u11) + Int32.ofInt 1)), some (.inl (v10))] [] τ (w, σ') := h
                    exact IH f hf ((u5) + (Int64.ofNat 0)) (u7) ((u11) + Int32.ofInt 1) (some (.inl (v10))) τ hsτ h
                  · skip
                    replace hp35 : ¬ (((m_i τ 13 (14) (u11).toNatClampNeg).toInt64).toInt ≤ (u7).toInt) := (not_congr (ab_lc .le _ _)).mp hp35
                    refine Or.inr ⟨hp35, ?_⟩
                    replace hf := Nat.lt_trans g hf
                    clear g
                    replace h : EV F f 179 z179 123 [some (rf 11 (0)), some (rf 13 (14)), some (rf 13 (15)), some (rf 13 (17)), some (.inl (c1)), some (.inr (.inl ((u5) + (Int64.ofNat 0)))), none, some (.inr (.inl (u7))), none, some (.inl (c2)), some (.inl (c3)), some (.inl (u11)), some (.inl (v10))] [] τ (w, σ') := h
                    replace h := ei_p h rfl rfl rfl rfl
                    obtain ⟨f, g, h⟩ := h
                    replace hf := Nat.lt_trans g hf
                    clear g
                    replace h : EV F f 179 z179 137 [some (rf 11 (0)), some (rf 13 (14)), some (rf 13 (15)), some (rf 13 (17)), some (.inl (c1)), some (.inr (.inl ((u5) + (Int64.ofNat 0)))), none, some (.inr (.inl (u7))), none, some (.inl (c2)), some (.inl (c3)), some (.inl (u11)), some (.inl (v10))] [] τ (w, σ') := h
                    replace h := ei_p h rfl rfl rfl rfl
                    obtain ⟨f, g, h⟩ := h
                    replace hf := Nat.lt_trans g hf
                    clear g
                    replace h : EV F f 179 z179 138 [some (rf 11 (0)), some (rf 13 (14)), some (rf 13 (15)), some (rf 13 (17)), some (.inl (c1)), some (.inr (.inl ((u5) + (Int64.ofNat 0)))), none, some (.inr (.inl (u7))), none, some (.inl (c2)), some (.inl (c3)), some (.inl (u11)), some (.inl (v10))] [rf 13 (14)] τ (w, σ') := h
                    replace h := ei_p h rfl rfl rfl rfl
                    obtain ⟨f, g, h⟩ := h
                    replace hf := Nat.lt_trans g hf
                    clear g
                    replace h : EV F f 179 z179 140 [some (rf 11 (0)), some (rf 13 (14)), some (rf 13 (15)), some (rf 13 (17)), some (.inl (c1)), some (.inr (.inl ((u5) + (Int64.ofNat 0)))), none, some (.inr (.inl (u7))), none, some (.inl (c2)), some (.inl (c3)), some (.inl (u11)), some (.inl (v10))] [.inl (u11), rf 13 (14)] τ (w, σ') := h
                    replace h := ei_iald h rfl (fun _ => rfl)
                    obtain ⟨vp36, f, g, h⟩ := h
                    replace hf := Nat.lt_trans g hf
                    clear g
                    replace h : EV F f 179 z179 141 [some (rf 11 (0)), some (rf 13 (14)), some (rf 13 (15)), some (rf 13 (17)), some (.inl (c1)), some (.inr (.inl ((u5) + (Int64.ofNat 0)))), none, some (.inr (.inl (u7))), none, some (.inl (c2)), some (.inl (c3)), some (.inl (u11)), some (.inl (v10))] [.inl (m_i τ 13 (14) (u11).toNatClampNeg)] τ (w, σ') := h
                    refine ⟨vp_2 vp36, ?_⟩
                    replace h := ei_p h rfl rfl rfl rfl
                    obtain ⟨f, g, h⟩ := h
                    replace hf := Nat.lt_trans g hf
                    clear g
                    replace h : EV F f 179 z179 142 [some (rf 11 (0)), some (rf 13 (14)), some (rf 13 (15)), some (rf 13 (17)), some (.inl (c1)), some (.inr (.inl ((u5) + (Int64.ofNat 0)))), none, some (.inr (.inl (u7))), none, some (.inl (c2)), some (.inl (c3)), some (.inl (u11)), some (.inl (v10))] [.inr (.inl ((m_i τ 13 (14) (u11).toNatClampNeg).toInt64))] τ (w, σ') := h
                    replace h := ei_p h rfl rfl rfl rfl
                    obtain ⟨f, g, h⟩ := h
                    replace hf := Nat.lt_trans g hf
                    clear g
                    replace h : EV F f 179 z179 147 [some (rf 11 (0)), some (rf 13 (14)), some (rf 13 (15)), some (rf 13 (17)), some (.inl (c1)), some (.inr (.inl ((u5) + (Int64.ofNat 0)))), none, some (.inr (.inl (u7))), none, some (.inl (c2)), some (.inl (c3)), some (.inl (u11)), some (.inl (v10))] [.inr (.inl ((m_i τ 13 (14) (u11).toNatClampNeg).toInt64))] τ (w, σ') := h
                    replace h := ei_p h rfl rfl rfl rfl
                    obtain ⟨f, g, h⟩ := h
                    replace hf := Nat.lt_trans g hf
                    clear g
                    replace h : EV F f 179 z179 149 [some (rf 11 (0)), some (rf 13 (14)), some (rf 13 (15)), some (rf 13 (17)), some (.inl (c1)), some (.inr (.inl ((u5) + (Int64.ofNat 0)))), none, some (.inr (.inl ((m_i τ 13 (14) (u11).toNatClampNeg).toInt64))), none, some (.inl (c2)), some (.inl (c3)), some (.inl (u11)), some (.inl (v10))] [] τ (w, σ') := h
                    obtain ⟨n37, e38⟩ : ∃ s, s = (m_i τ 13 (14) (u11).toNatClampNeg).toInt64 := ⟨_, rfl⟩
                    rw [← e38] at h
                    refine ⟨n37, e38, ?_⟩
                    replace h : EV F f 179 z179 149 [some (rf 11 (0)), some (rf 13 (14)), some (rf 13 (15)), some (rf 13 (17)), some (.inl (c1)), some (.inr (.inl ((u5) + (Int64.ofNat 0)))), none, some (.inr (.inl (n37))), none, some (.inl (c2)), some (.inl (c3)), some (.inl (u11)), some (.inl (v10))] [] τ (w, σ') := h
                    replace h := ei_p h rfl rfl rfl rfl
                    obtain ⟨f, g, h⟩ := h
                    replace hf := Nat.lt_trans g hf
                    clear g
                    replace h : EV F f 179 z179 152 [some (rf 11 (0)), some (rf 13 (14)), some (rf 13 (15)), some (rf 13 (17)), some (.inl (c1)), some (.inr (.inl ((u5) + (Int64.ofNat 0)))), none, some (.inr (.inl (n37))), none, some (.inl (c2)), some (.inl (c3)), some (.inl ((u11) + Int32.ofInt 1)), some (.inl (v10))] [] τ (w, σ') := h
                    replace h := ei_p h rfl rfl rfl rfl
                    obtain ⟨f, g, h⟩ := h
                    replace hf := Nat.lt_trans g hf
                    clear g
                    replace h : EV F f 179 z179 32 [some (rf 11 (0)), some (rf 13 (14)), some (rf 13 (15)), some (rf 13 (17)), some (.inl (c1)), some (.inr (.inl ((u5) + (Int64.ofNat 0)))), none, some (.inr (.inl (n37))), none, some (.inl (c2)), some (.inl (c3)), some (.inl ((u11) + Int32.ofInt 1)), some (.inl (v10))] [] τ (w, σ') := h
                    exact IH f hf ((u5) + (Int64.ofNat 0)) (n37) ((u11) + Int32.ofInt 1) (some (.inl (v10))) τ hsτ h
            · skip
              replace hp23 : ¬ ((m_i τ 13 (14) (u11).toNatClampNeg).toInt ≠ (m_i τ 13 (14) (c1).toNatClampNeg).toInt) := (not_congr ic_ne).mp hp23
              refine Or.inr ⟨hp23, ?_⟩
              replace hf := Nat.lt_trans g hf
              clear g
              replace h : EV F f 179 z179 87 [some (rf 11 (0)), some (rf 13 (14)), some (rf 13 (15)), some (rf 13 (17)), some (.inl (c1)), some (.inr (.inl (u5))), none, some (.inr (.inl (u7))), none, some (.inl (c2)), some (.inl (c3)), some (.inl (u11)), some (.inl (v10))] [.inr (.inl (u5))] τ (w, σ') := h
              replace h := ei_p h rfl rfl rfl rfl
              obtain ⟨f, g, h⟩ := h
              replace hf := Nat.lt_trans g hf
              clear g
              replace h : EV F f 179 z179 89 [some (rf 11 (0)), some (rf 13 (14)), some (rf 13 (15)), some (rf 13 (17)), some (.inl (c1)), some (.inr (.inl (u5))), none, some (.inr (.inl (u7))), none, some (.inl (c2)), some (.inl (c3)), some (.inl (u11)), some (.inl (v10))] [.inl (v10), .inr (.inl (u5))] τ (w, σ') := h
              replace h := ei_p h rfl rfl rfl rfl
              obtain ⟨f, g, h⟩ := h
              replace hf := Nat.lt_trans g hf
              clear g
              replace h : EV F f 179 z179 91 [some (rf 11 (0)), some (rf 13 (14)), some (rf 13 (15)), some (rf 13 (17)), some (.inl (c1)), some (.inr (.inl (u5))), none, some (.inr (.inl (u7))), none, some (.inl (c2)), some (.inl (c3)), some (.inl (u11)), some (.inl (v10))] [.inl (Int32.ofInt 10), .inl (v10), .inr (.inl (u5))] τ (w, σ') := h
              replace h := ei_idiv h rfl
              obtain ⟨hd39, f, g, h⟩ := h
              replace hf := Nat.lt_trans g hf
              clear g
              replace h : EV F f 179 z179 92 [some (rf 11 (0)), some (rf 13 (14)), some (rf 13 (15)), some (rf 13 (17)), some (.inl (c1)), some (.inr (.inl (u5))), none, some (.inr (.inl (u7))), none, some (.inl (c2)), some (.inl (c3)), some (.inl (u11)), some (.inl (v10))] [.inl ((v10) / (Int32.ofInt 10)), .inr (.inl (u5))] τ (w, σ') := h
              replace h := ei_p h rfl rfl rfl rfl
              obtain ⟨f, g, h⟩ := h
              replace hf := Nat.lt_trans g hf
              clear g
              replace h : EV F f 179 z179 93 [some (rf 11 (0)), some (rf 13 (14)), some (rf 13 (15)), some (rf 13 (17)), some (.inl (c1)), some (.inr (.inl (u5))), none, some (.inr (.inl (u7))), none, some (.inl (c2)), some (.inl (c3)), some (.inl (u11)), some (.inl (v10))] [.inr (.inl (((v10) / (Int32.ofInt 10)).toInt64)), .inr (.inl (u5))] τ (w, σ') := h
              replace h := ei_p h rfl rfl rfl rfl
              obtain ⟨f, g, h⟩ := h
              replace hf := Nat.lt_trans g hf
              clear g
              replace h : EV F f 179 z179 97 [some (rf 11 (0)), some (rf 13 (14)), some (rf 13 (15)), some (rf 13 (17)), some (.inl (c1)), some (.inr (.inl (u5))), none, some (.inr (.inl (u7))), none, some (.inl (c2)), some (.inl (c3)), some (.inl (u11)), some (.inl (v10))] [.inr (.inl (((v10) / (Int32.ofInt 10)).toInt64)), .inr (.inl (u5))] τ (w, σ') := h
              replace h := ei_p h rfl rfl rfl rfl
              obtain ⟨f, g, h⟩ := h
              replace hf := Nat.lt_trans g hf
              clear g
              replace h : EV F f 179 z179 98 [some (rf 11 (0)), some (rf 13 (14)), some (rf 13 (15)), some (rf 13 (17)), some (.inl (c1)), some (.inr (.inl (u5))), none, some (.inr (.inl (u7))), none, some (.inl (c2)), some (.inl (c3)), some (.inl (u11)), some (.inl (v10))] [.inr (.inl ((u5) + (((v10) / (Int32.ofInt 10)).toInt64)))] τ (w, σ') := h
              replace h := ei_p h rfl rfl rfl rfl
              obtain ⟨f, g, h⟩ := h
              replace hf := Nat.lt_trans g hf
              clear g
              replace h : EV F f 179 z179 100 [some (rf 11 (0)), some (rf 13 (14)), some (rf 13 (15)), some (rf 13 (17)), some (.inl (c1)), some (.inr (.inl ((u5) + (((v10) / (Int32.ofInt 10)).toInt64)))), none, some (.inr (.inl (u7))), none, some (.inl (c2)), some (.inl (c3)), some (.inl (u11)), some (.inl (v10))] [] τ (w, σ') := h
              obtain ⟨n40, e41⟩ : ∃ s, s = (u5) + (((v10) / (Int32.ofInt 10)).toInt64) := ⟨_, rfl⟩
              rw [← e41] at h
              refine ⟨n40, e41, ?_⟩
              replace h : EV F f 179 z179 100 [some (rf 11 (0)), some (rf 13 (14)), some (rf 13 (15)), some (rf 13 (17)), some (.inl (c1)), some (.inr (.inl (n40))), none, some (.inr (.inl (u7))), none, some (.inl (c2)), some (.inl (c3)), some (.inl (u11)), some (.inl (v10))] [] τ (w, σ') := h
              replace h := ei_p h rfl rfl rfl rfl
              obtain ⟨f, g, h⟩ := h
              replace hf := Nat.lt_trans g hf
              clear g
              replace h : EV F f 179 z179 102 [some (rf 11 (0)), some (rf 13 (14)), some (rf 13 (15)), some (rf 13 (17)), some (.inl (c1)), some (.inr (.inl (n40))), none, some (.inr (.inl (u7))), none, some (.inl (c2)), some (.inl (c3)), some (.inl (u11)), some (.inl (v10))] [.inr (.inl (u7))] τ (w, σ') := h
              replace h := ei_p h rfl rfl rfl rfl
              obtain ⟨f, g, h⟩ := h
              replace hf := Nat.lt_trans g hf
              clear g
              replace h : EV F f 179 z179 103 [some (rf 11 (0)), some (rf 13 (14)), some (rf 13 (15)), some (rf 13 (17)), some (.inl (c1)), some (.inr (.inl (n40))), none, some (.inr (.inl (u7))), none, some (.inl (c2)), some (.inl (c3)), some (.inl (u11)), some (.inl (v10))] [.inr (.inl (Int64.ofNat 0)), .inr (.inl (u7))] τ (w, σ') := h
              replace h := ei_p h rfl rfl rfl rfl
              obtain ⟨f, g, h⟩ := h
              replace hf := Nat.lt_trans g hf
              clear g
              replace h : EV F f 179 z179 104 [some (rf 11 (0)), some (rf 13 (14)), some (rf 13 (15)), some (rf 13 (17)), some (.inl (c1)), some (.inr (.inl (n40))), none, some (.inr (.inl (u7))), none, some (.inl (c2)), some (.inl (c3)), some (.inl (u11)), some (.inl (v10))] [.inl (lg_cmp (u7) (Int64.ofNat 0))] τ (w, σ') := h
              replace h := ei_c h rfl rfl rfl
              rcases h with ⟨hp42, f, g, h⟩ | ⟨hp42, f, g, h⟩
              · skip
                replace hp42 : (u7).toInt < (Int64.ofNat 0).toInt := (ab_lc .lt _ _).mp hp42
                refine Or.inl ⟨hp42, ?_⟩
                replace hf := Nat.lt_trans g hf
                clear g
                replace h : EV F f 179 z179 137 [some (rf 11 (0)), some (rf 13 (14)), some (rf 13 (15)), some (rf 13 (17)), some (.inl (c1)), some (.inr (.inl (n40))), none, some (.inr (.inl (u7))), none, some (.inl (c2)), some (.inl (c3)), some (.inl (u11)), some (.inl (v10))] [] τ (w, σ') := h
                replace h := ei_p h rfl rfl rfl rfl
                obtain ⟨f, g, h⟩ := h
                replace hf := Nat.lt_trans g hf
                clear g
                replace h : EV F f 179 z179 138 [some (rf 11 (0)), some (rf 13 (14)), some (rf 13 (15)), some (rf 13 (17)), some (.inl (c1)), some (.inr (.inl (n40))), none, some (.inr (.inl (u7))), none, some (.inl (c2)), some (.inl (c3)), some (.inl (u11)), some (.inl (v10))] [rf 13 (14)] τ (w, σ') := h
                replace h := ei_p h rfl rfl rfl rfl
                obtain ⟨f, g, h⟩ := h
                replace hf := Nat.lt_trans g hf
                clear g
                replace h : EV F f 179 z179 140 [some (rf 11 (0)), some (rf 13 (14)), some (rf 13 (15)), some (rf 13 (17)), some (.inl (c1)), some (.inr (.inl (n40))), none, some (.inr (.inl (u7))), none, some (.inl (c2)), some (.inl (c3)), some (.inl (u11)), some (.inl (v10))] [.inl (u11), rf 13 (14)] τ (w, σ') := h
                replace h := ei_iald h rfl (fun _ => rfl)
                obtain ⟨vp43, f, g, h⟩ := h
                replace hf := Nat.lt_trans g hf
                clear g
                replace h : EV F f 179 z179 141 [some (rf 11 (0)), some (rf 13 (14)), some (rf 13 (15)), some (rf 13 (17)), some (.inl (c1)), some (.inr (.inl (n40))), none, some (.inr (.inl (u7))), none, some (.inl (c2)), some (.inl (c3)), some (.inl (u11)), some (.inl (v10))] [.inl (m_i τ 13 (14) (u11).toNatClampNeg)] τ (w, σ') := h
                refine ⟨vp_2 vp43, ?_⟩
                replace h := ei_p h rfl rfl rfl rfl
                obtain ⟨f, g, h⟩ := h
                replace hf := Nat.lt_trans g hf
                clear g
                replace h : EV F f 179 z179 142 [some (rf 11 (0)), some (rf 13 (14)), some (rf 13 (15)), some (rf 13 (17)), some (.inl (c1)), some (.inr (.inl (n40))), none, some (.inr (.inl (u7))), none, some (.inl (c2)), some (.inl (c3)), some (.inl (u11)), some (.inl (v10))] [.inr (.inl ((m_i τ 13 (14) (u11).toNatClampNeg).toInt64))] τ (w, σ') := h
                replace h := ei_p h rfl rfl rfl rfl
                obtain ⟨f, g, h⟩ := h
                replace hf := Nat.lt_trans g hf
                clear g
                replace h : EV F f 179 z179 147 [some (rf 11 (0)), some (rf 13 (14)), some (rf 13 (15)), some (rf 13 (17)), some (.inl (c1)), some (.inr (.inl (n40))), none, some (.inr (.inl (u7))), none, some (.inl (c2)), some (.inl (c3)), some (.inl (u11)), some (.inl (v10))] [.inr (.inl ((m_i τ 13 (14) (u11).toNatClampNeg).toInt64))] τ (w, σ') := h
                replace h := ei_p h rfl rfl rfl rfl
                obtain ⟨f, g, h⟩ := h
                replace hf := Nat.lt_trans g hf
                clear g
                replace h : EV F f 179 z179 149 [some (rf 11 (0)), some (rf 13 (14)), some (rf 13 (15)), some (rf 13 (17)), some (.inl (c1)), some (.inr (.inl (n40))), none, some (.inr (.inl ((m_i τ 13 (14) (u11).toNatClampNeg).toInt64))), none, some (.inl (c2)), some (.inl (c3)), some (.inl (u11)), some (.inl (v10))] [] τ (w, σ') := h
                obtain ⟨n44, e45⟩ : ∃ s, s = (m_i τ 13 (14) (u11).toNatClampNeg).toInt64 := ⟨_, rfl⟩
                rw [← e45] at h
                refine ⟨n44, e45, ?_⟩
                replace h : EV F f 179 z179 149 [some (rf 11 (0)), some (rf 13 (14)), some (rf 13 (15)), some (rf 13 (17)), some (.inl (c1)), some (.inr (.inl (n40))), none, some (.inr (.inl (n44))), none, some (.inl (c2)), some (.inl (c3)), some (.inl (u11)), some (.inl (v10))] [] τ (w, σ') := h
                replace h := ei_p h rfl rfl rfl rfl
                obtain ⟨f, g, h⟩ := h
                replace hf := Nat.lt_trans g hf
                clear g
                replace h : EV F f 179 z179 152 [some (rf 11 (0)), some (rf 13 (14)), some (rf 13 (15)), some (rf 13 (17)), some (.inl (c1)), some (.inr (.inl (n40))), none, some (.inr (.inl (n44))), none, some (.inl (c2)), some (.inl (c3)), some (.inl ((u11) + Int32.ofInt 1)), some (.inl (v10))] [] τ (w, σ') := h
                replace h := ei_p h rfl rfl rfl rfl
                obtain ⟨f, g, h⟩ := h
                replace hf := Nat.lt_trans g hf
                clear g
                replace h : EV F f 179 z179 32 [some (rf 11 (0)), some (rf 13 (14)), some (rf 13 (15)), some (rf 13 (17)), some (.inl (c1)), some (.inr (.inl (n40))), none, some (.inr (.inl (n44))), none, some (.inl (c2)), some (.inl (c3)), some (.inl ((u11) + Int32.ofInt 1)), some (.inl (v10))] [] τ (w, σ') := h
                exact IH f hf (n40) (n44) ((u11) + Int32.ofInt 1) (some (.inl (v10))) τ hsτ h
              · skip
                replace hp42 : ¬ ((u7).toInt < (Int64.ofNat 0).toInt) := (not_congr (ab_lc .lt _ _)).mp hp42
                refine Or.inr ⟨hp42, ?_⟩
                replace hf := Nat.lt_trans g hf
                clear g
                replace h : EV F f 179 z179 107 [some (rf 11 (0)), some (rf 13 (14)), some (rf 13 (15)), some (rf 13 (17)), some (.inl (c1)), some (.inr (.inl (n40))), none, some (.inr (.inl (u7))), none, some (.inl (c2)), some (.inl (c3)), some (.inl (u11)), some (.inl (v10))] [] τ (w, σ') := h
                replace h := ei_p h rfl rfl rfl rfl
                obtain ⟨f, g, h⟩ := h
                replace hf := Nat.lt_trans g hf
                clear g
                replace h : EV F f 179 z179 109 [some (rf 11 (0)), some (rf 13 (14)), some (rf 13 (15)), some (rf 13 (17)), some (.inl (c1)), some (.inr (.inl (n40))), none, some (.inr (.inl (u7))), none, some (.inl (c2)), some (.inl (c3)), some (.inl (u11)), some (.inl (v10))] [.inl (c3)] τ (w, σ') := h
                replace h := ei_c h rfl rfl rfl
                rcases h with ⟨hp46, f, g, h⟩ | ⟨hp46, f, g, h⟩
                · skip
                  replace hp46 : (c3).toInt ≠ (0 : Int) := ic_ne.mp hp46
                  refine Or.inl ⟨hp46, ?_⟩
                  replace hf := Nat.lt_trans g hf
                  clear g
                  replace h : EV F f 179 z179 126 [some (rf 11 (0)), some (rf 13 (14)), some (rf 13 (15)), some (rf 13 (17)), some (.inl (c1)), some (.inr (.inl (n40))), none, some (.inr (.inl (u7))), none, some (.inl (c2)), some (.inl (c3)), some (.inl (u11)), some (.inl (v10))] [] τ (w, σ') := h
                  replace h := ei_p h rfl rfl rfl rfl
                  obtain ⟨f, g, h⟩ := h
                  replace hf := Nat.lt_trans g hf
                  clear g
                  replace h : EV F f 179 z179 127 [some (rf 11 (0)), some (rf 13 (14)), some (rf 13 (15)), some (rf 13 (17)), some (.inl (c1)), some (.inr (.inl (n40))), none, some (.inr (.inl (u7))), none, some (.inl (c2)), some (.inl (c3)), some (.inl (u11)), some (.inl (v10))] [rf 13 (14)] τ (w, σ') := h
                  replace h := ei_p h rfl rfl rfl rfl
                  obtain ⟨f, g, h⟩ := h
                  replace hf := Nat.lt_trans g hf
                  clear g
                  replace h : EV F f 179 z179 129 [some (rf 11 (0)), some (rf 13 (14)), some (rf 13 (15)), some (rf 13 (17)), some (.inl (c1)), some (.inr (.inl (n40))), none, some (.inr (.inl (u7))), none, some (.inl (c2)), some (.inl (c3)), some (.inl (u11)), some (.inl (v10))] [.inl (u11), rf 13 (14)] τ (w, σ') := h
                  replace h := ei_iald h rfl (fun _ => rfl)
                  obtain ⟨vp47, f, g, h⟩ := h
                  replace hf := Nat.lt_trans g hf
                  clear g
                  replace h : EV F f 179 z179 130 [some (rf 11 (0)), some (rf 13 (14)), some (rf 13 (15)), some (rf 13 (17)), some (.inl (c1)), some (.inr (.inl (n40))), none, some (.inr (.inl (u7))), none, some (.inl (c2)), some (.inl (c3)), some (.inl (u11)), some (.inl (v10))] [.inl (m_i τ 13 (14) (u11).toNatClampNeg)] τ (w, σ') := h
                  refine ⟨vp_2 vp47, ?_⟩
                  replace h := ei_p h rfl rfl rfl rfl
                  obtain ⟨f, g, h⟩ := h
                  replace hf := Nat.lt_trans g hf
                  clear g
                  replace h : EV F f 179 z179 131 [some (rf 11 (0)), some (rf 13 (14)), some (rf 13 (15)), some (rf 13 (17)), some (.inl (c1)), some (.inr (.inl (n40))), none, some (.inr (.inl (u7))), none, some (.inl (c2)), some (.inl (c3)), some (.inl (u11)), some (.inl (v10))] [.inr (.inl ((m_i τ 13 (14) (u11).toNatClampNeg).toInt64))] τ (w, σ') := h
                  replace h := ei_p h rfl rfl rfl rfl
                  obtain ⟨f, g, h⟩ := h
                  replace hf := Nat.lt_trans g hf
                  clear g
                  replace h : EV F f 179 z179 133 [some (rf 11 (0)), some (rf 13 (14)), some (rf 13 (15)), some (rf 13 (17)), some (.inl (c1)), some (.inr (.inl (n40))), none, some (.inr (.inl (u7))), none, some (.inl (c2)), some (.inl (c3)), some (.inl (u11)), some (.inl (v10))] [.inr (.inl (u7)), .inr (.inl ((m_i τ 13 (14) (u11).toNatClampNeg).toInt64))] τ (w, σ') := h
                  replace h := ei_p h rfl rfl rfl rfl
                  obtain ⟨f, g, h⟩ := h
                  replace hf := Nat.lt_trans g hf
                  clear g
                  replace h : EV F f 179 z179 134 [some (rf 11 (0)), some (rf 13 (14)), some (rf 13 (15)), some (rf 13 (17)), some (.inl (c1)), some (.inr (.inl (n40))), none, some (.inr (.inl (u7))), none, some (.inl (c2)), some (.inl (c3)), some (.inl (u11)), some (.inl (v10))] [.inl (lg_cmp ((m_i τ 13 (14) (u11).toNatClampNeg).toInt64) (u7))] τ (w, σ') := h
                  replace h := ei_c h rfl rfl rfl
                  rcases h with ⟨hp48, f, g, h⟩ | ⟨hp48, f, g, h⟩
                  · skip
                    replace hp48 : (u7).toInt ≤ ((m_i τ 13 (14) (u11).toNatClampNeg).toInt64).toInt := (ab_lc .ge _ _).mp hp48
                    refine Or.inl ⟨hp48, ?_⟩
                    replace hf := Nat.lt_trans g hf
                    clear g
                    replace h : EV F f 179 z179 145 [some (rf 11 (0)), some (rf 13 (14)), some (rf 13 (15)), some (rf 13 (17)), some (.inl (c1)), some (.inr (.inl (n40))), none, some (.inr (.inl (u7))), none, some (.inl (c2)), some (.inl (c3)), some (.inl (u11)), some (.inl (v10))] [] τ (w, σ') := h
                    replace h := ei_p h rfl rfl rfl rfl
                    obtain ⟨f, g, h⟩ := h
                    replace hf := Nat.lt_trans g hf
                    clear g
                    replace h : EV F f 179 z179 147 [some (rf 11 (0)), some (rf 13 (14)), some (rf 13 (15)), some (rf 13 (17)), some (.inl (c1)), some (.inr (.inl (n40))), none, some (.inr (.inl (u7))), none, some (.inl (c2)), some (.inl (c3)), some (.inl (u11)), some (.inl (v10))] [.inr (.inl (u7))] τ (w, σ') := h
                    replace h := ei_p h rfl rfl rfl rfl
                    obtain ⟨f, g, h⟩ := h
                    replace hf := Nat.lt_trans g hf
                    clear g
                    replace h : EV F f 179 z179 149 [some (rf 11 (0)), some (rf 13 (14)), some (rf 13 (15)), some (rf 13 (17)), some (.inl (c1)), some (.inr (.inl (n40))), none, some (.inr (.inl (u7))), none, some (.inl (c2)), some (.inl (c3)), some (.inl (u11)), some (.inl (v10))] [] τ (w, σ') := h
                    replace h := ei_p h rfl rfl rfl rfl
                    obtain ⟨f, g, h⟩ := h
                    replace hf := Nat.lt_trans g hf
                    clear g
                    replace h : EV F f 179 z179 152 [some (rf 11 (0)), some (rf 13 (14)), some (rf 13 (15)), some (rf 13 (17)), some (.inl (c1)), some (.inr (.inl (n40))), none, some (.inr (.inl (u7))), none, some (.inl (c2)), some (.inl (c3)), some (.inl ((u11) + Int32.ofInt 1)), some (.inl (v10))] [] τ (w, σ') := h
                    replace h := ei_p h rfl rfl rfl rfl
                    obtain ⟨f, g, h⟩ := h
                    replace hf := Nat.lt_trans g hf
                    clear g
                    replace h : EV F f 179 z179 32 [some (rf 11 (0)), some (rf 13 (14)), some (rf 13 (15)), some (rf 13 (17)), some (.inl (c1)), some (.inr (.inl (n40))), none, some (.inr (.inl (u7))), none, some (.inl (c2)), some (.inl (c3)), some (.inl ((u11) + Int32.ofInt 1)), some (.inl (v10))] [] τ (w, σ') := h
                    exact IH f hf (n40) (u7) ((u11) + Int32.ofInt 1) (some (.inl (v10))) τ hsτ h
                  · skip
                    replace hp48 : ¬ ((u7).toInt ≤ ((m_i τ 13 (14) (u11).toNatClampNeg).toInt64).toInt) := (not_congr (ab_lc .ge _ _)).mp hp48
                    refine Or.inr ⟨hp48, ?_⟩
                    replace hf := Nat.lt_trans g hf
                    clear g
                    replace h : EV F f 179 z179 137 [some (rf 11 (0)), some (rf 13 (14)), some (rf 13 (15)), some (rf 13 (17)), some (.inl (c1)), some (.inr (.inl (n40))), none, some (.inr (.inl (u7))), none, some (.inl (c2)), some (.inl (c3)), some (.inl (u11)), some (.inl (v10))] [] τ (w, σ') := h
                    replace h := ei_p h rfl rfl rfl rfl
                    obtain ⟨f, g, h⟩ := h
                    replace hf := Nat.lt_trans g hf
                    clear g
                    replace h : EV F f 179 z179 138 [some (rf 11 (0)), some (rf 13 (14)), some (rf 13 (15)), some (rf 13 (17)), some (.inl (c1)), some (.inr (.inl (n40))), none, some (.inr (.inl (u7))), none, some (.inl (c2)), some (.inl (c3)), some (.inl (u11)), some (.inl (v10))] [rf 13 (14)] τ (w, σ') := h
                    replace h := ei_p h rfl rfl rfl rfl
                    obtain ⟨f, g, h⟩ := h
                    replace hf := Nat.lt_trans g hf
                    clear g
                    replace h : EV F f 179 z179 140 [some (rf 11 (0)), some (rf 13 (14)), some (rf 13 (15)), some (rf 13 (17)), some (.inl (c1)), some (.inr (.inl (n40))), none, some (.inr (.inl (u7))), none, some (.inl (c2)), some (.inl (c3)), some (.inl (u11)), some (.inl (v10))] [.inl (u11), rf 13 (14)] τ (w, σ') := h
                    replace h := ei_iald h rfl (fun _ => rfl)
                    obtain ⟨vp49, f, g, h⟩ := h
                    replace hf := Nat.lt_trans g hf
                    clear g
                    replace h : EV F f 179 z179 141 [some (rf 11 (0)), some (rf 13 (14)), some (rf 13 (15)), some (rf 13 (17)), some (.inl (c1)), some (.inr (.inl (n40))), none, some (.inr (.inl (u7))), none, some (.inl (c2)), some (.inl (c3)), some (.inl (u11)), some (.inl (v10))] [.inl (m_i τ 13 (14) (u11).toNatClampNeg)] τ (w, σ') := h
                    refine ⟨vp_2 vp49, ?_⟩
                    replace h := ei_p h rfl rfl rfl rfl
                    obtain ⟨f, g, h⟩ := h
                    replace hf := Nat.lt_trans g hf
                    clear g
                    replace h : EV F f 179 z179 142 [some (rf 11 (0)), some (rf 13 (14)), some (rf 13 (15)), some (rf 13 (17)), some (.inl (c1)), some (.inr (.inl (n40))), none, some (.inr (.inl (u7))), none, some (.inl (c2)), some (.inl (c3)), some (.inl (u11)), some (.inl (v10))] [.inr (.inl ((m_i τ 13 (14) (u11).toNatClampNeg).toInt64))] τ (w, σ') := h
                    replace h := ei_p h rfl rfl rfl rfl
                    obtain ⟨f, g, h⟩ := h
                    replace hf := Nat.lt_trans g hf
                    clear g
                    replace h : EV F f 179 z179 147 [some (rf 11 (0)), some (rf 13 (14)), some (rf 13 (15)), some (rf 13 (17)), some (.inl (c1)), some (.inr (.inl (n40))), none, some (.inr (.inl (u7))), none, some (.inl (c2)), some (.inl (c3)), some (.inl (u11)), some (.inl (v10))] [.inr (.inl ((m_i τ 13 (14) (u11).toNatClampNeg).toInt64))] τ (w, σ') := h
                    replace h := ei_p h rfl rfl rfl rfl
                    obtain ⟨f, g, h⟩ := h
                    replace hf := Nat.lt_trans g hf
                    clear g
                    replace h : EV F f 179 z179 149 [some (rf 11 (0)), some (rf 13 (14)), some (rf 13 (15)), some (rf 13 (17)), some (.inl (c1)), some (.inr (.inl (n40))), none, some (.inr (.inl ((m_i τ 13 (14) (u11).toNatClampNeg).toInt64))), none, some (.inl (c2)), some (.inl (c3)), some (.inl (u11)), some (.inl (v10))] [] τ (w, σ') := h
                    obtain ⟨n50, e51⟩ : ∃ s, s = (m_i τ 13 (14) (u11).toNatClampNeg).toInt64 := ⟨_, rfl⟩
                    rw [← e51] at h
                    refine ⟨n50, e51, ?_⟩
                    replace h : EV F f 179 z179 149 [some (rf 11 (0)), some (rf 13 (14)), some (rf 13 (15)), some (rf 13 (17)), some (.inl (c1)), some (.inr (.inl (n40))), none, some (.inr (.inl (n50))), none, some (.inl (c2)), some (.inl (c3)), some (.inl (u11)), some (.inl (v10))] [] τ (w, σ') := h
                    replace h := ei_p h rfl rfl rfl rfl
                    obtain ⟨f, g, h⟩ := h
                    replace hf := Nat.lt_trans g hf
                    clear g
                    replace h : EV F f 179 z179 152 [some (rf 11 (0)), some (rf 13 (14)), some (rf 13 (15)), some (rf 13 (17)), some (.inl (c1)), some (.inr (.inl (n40))), none, some (.inr (.inl (n50))), none, some (.inl (c2)), some (.inl (c3)), some (.inl ((u11) + Int32.ofInt 1)), some (.inl (v10))] [] τ (w, σ') := h
                    replace h := ei_p h rfl rfl rfl rfl
                    obtain ⟨f, g, h⟩ := h
                    replace hf := Nat.lt_trans g hf
                    clear g
                    replace h : EV F f 179 z179 32 [some (rf 11 (0)), some (rf 13 (14)), some (rf 13 (15)), some (rf 13 (17)), some (.inl (c1)), some (.inr (.inl (n40))), none, some (.inr (.inl (n50))), none, some (.inl (c2)), some (.inl (c3)), some (.inl ((u11) + Int32.ofInt 1)), some (.inl (v10))] [] τ (w, σ') := h
                    exact IH f hf (n40) (n50) ((u11) + Int32.ofInt 1) (some (.inl (v10))) τ hsτ h
                · skip
                  replace hp46 : ¬ ((c3).toInt ≠ (0 : Int)) := (not_congr ic_ne).mp hp46
                  refine Or.inr ⟨hp46, ?_⟩
                  replace hf := Nat.lt_trans g hf
                  clear g
                  replace h : EV F f 179 z179 112 [some (rf 11 (0)), some (rf 13 (14)), some (rf 13 (15)), some (rf 13 (17)), some (.inl (c1)), some (.inr (.inl (n40))), none, some (.inr (.inl (u7))), none, some (.inl (c2)), some (.inl (c3)), some (.inl (u11)), some (.inl (v10))] [] τ (w, σ') := h
                  replace h := ei_p h rfl rfl rfl rfl
                  obtain ⟨f, g, h⟩ := h
                  replace hf := Nat.lt_trans g hf
                  clear g
                  replace h : EV F f 179 z179 113 [some (rf 11 (0)), some (rf 13 (14)), some (rf 13 (15)), some (rf 13 (17)), some (.inl (c1)), some (.inr (.inl (n40))), none, some (.inr (.inl (u7))), none, some (.inl (c2)), some (.inl (c3)), some (.inl (u11)), some (.inl (v10))] [rf 13 (14)] τ (w, σ') := h
                  replace h := ei_p h rfl rfl rfl rfl
                  obtain ⟨f, g, h⟩ := h
                  replace hf := Nat.lt_trans g hf
                  clear g
                  replace h : EV F f 179 z179 115 [some (rf 11 (0)), some (rf 13 (14)), some (rf 13 (15)), some (rf 13 (17)), some (.inl (c1)), some (.inr (.inl (n40))), none, some (.inr (.inl (u7))), none, some (.inl (c2)), some (.inl (c3)), some (.inl (u11)), some (.inl (v10))] [.inl (u11), rf 13 (14)] τ (w, σ') := h
                  replace h := ei_iald h rfl (fun _ => rfl)
                  obtain ⟨vp52, f, g, h⟩ := h
                  replace hf := Nat.lt_trans g hf
                  clear g
                  replace h : EV F f 179 z179 116 [some (rf 11 (0)), some (rf 13 (14)), some (rf 13 (15)), some (rf 13 (17)), some (.inl (c1)), some (.inr (.inl (n40))), none, some (.inr (.inl (u7))), none, some (.inl (c2)), some (.inl (c3)), some (.inl (u11)), some (.inl (v10))] [.inl (m_i τ 13 (14) (u11).toNatClampNeg)] τ (w, σ') := h
                  refine ⟨vp_2 vp52, ?_⟩
                  replace h := ei_p h rfl rfl rfl rfl
                  obtain ⟨f, g, h⟩ := h
                  replace hf := Nat.lt_trans g hf
                  clear g
                  replace h : EV F f 179 z179 117 [some (rf 11 (0)), some (rf 13 (14)), some (rf 13 (15)), some (rf 13 (17)), some (.inl (c1)), some (.inr (.inl (n40))), none, some (.inr (.inl (u7))), none, some (.inl (c2)), some (.inl (c3)), some (.inl (u11)), some (.inl (v10))] [.inr (.inl ((m_i τ 13 (14) (u11).toNatClampNeg).toInt64))] τ (w, σ') := h
                  replace h := ei_p h rfl rfl rfl rfl
                  obtain ⟨f, g, h⟩ := h
                  replace hf := Nat.lt_trans g hf
                  clear g
                  replace h : EV F f 179 z179 119 [some (rf 11 (0)), some (rf 13 (14)), some (rf 13 (15)), some (rf 13 (17)), some (.inl (c1)), some (.inr (.inl (n40))), none, some (.inr (.inl (u7))), none, some (.inl (c2)), some (.inl (c3)), some (.inl (u11)), some (.inl (v10))] [.inr (.inl (u7)), .inr (.inl ((m_i τ 13 (14) (u11).toNatClampNeg).toInt64))] τ (w, σ') := h
                  replace h := ei_p h rfl rfl rfl rfl
                  obtain ⟨f, g, h⟩ := h
                  replace hf := Nat.lt_trans g hf
                  clear g
                  replace h : EV F f 179 z179 120 [some (rf 11 (0)), some (rf 13 (14)), some (rf 13 (15)), some (rf 13 (17)), some (.inl (c1)), some (.inr (.inl (n40))), none, some (.inr (.inl (u7))), none, some (.inl (c2)), some (.inl (c3)), some (.inl (u11)), some (.inl (v10))] [.inl (lg_cmp ((m_i τ 13 (14) (u11).toNatClampNeg).toInt64) (u7))] τ (w, σ') := h
                  replace h := ei_c h rfl rfl rfl
                  rcases h with ⟨hp53, f, g, h⟩ | ⟨hp53, f, g, h⟩
                  · skip
                    replace hp53 : ((m_i τ 13 (14) (u11).toNatClampNeg).toInt64).toInt ≤ (u7).toInt := (ab_lc .le _ _).mp hp53
                    refine Or.inl ⟨hp53, ?_⟩
                    replace hf := Nat.lt_trans g hf
                    clear g
                    replace h : EV F f 179 z179 145 [some (rf 11 (0)), some (rf 13 (14)), some (rf 13 (15)), some (rf 13 (17)), some (.inl (c1)), some (.inr (.inl (n40))), none, some (.inr (.inl (u7))), none, some (.inl (c2)), some (.inl (c3)), some (.inl (u11)), some (.inl (v10))] [] τ (w, σ') := h
                    replace h := ei_p h rfl rfl rfl rfl
                    obtain ⟨f, g, h⟩ := h
                    replace hf := Nat.lt_trans g hf
                    clear g
                    replace h : EV F f 179 z179 147 [some (rf 11 (0)), some (rf 13 (14)), some (rf 13 (15)), some (rf 13 (17)), some (.inl (c1)), some (.inr (.inl (n40))), none, some (.inr (.inl (u7))), none, some (.inl (c2)), some (.inl (c3)), some (.inl (u11)), some (.inl (v10))] [.inr (.inl (u7))] τ (w, σ') := h
                    replace h := ei_p h rfl rfl rfl rfl
                    obtain ⟨f, g, h⟩ := h
                    replace hf := Nat.lt_trans g hf
                    clear g
                    replace h : EV F f 179 z179 149 [some (rf 11 (0)), some (rf 13 (14)), some (rf 13 (15)), some (rf 13 (17)), some (.inl (c1)), some (.inr (.inl (n40))), none, some (.inr (.inl (u7))), none, some (.inl (c2)), some (.inl (c3)), some (.inl (u11)), some (.inl (v10))] [] τ (w, σ') := h
                    replace h := ei_p h rfl rfl rfl rfl
                    obtain ⟨f, g, h⟩ := h
                    replace hf := Nat.lt_trans g hf
                    clear g
                    replace h : EV F f 179 z179 152 [some (rf 11 (0)), some (rf 13 (14)), some (rf 13 (15)), some (rf 13 (17)), some (.inl (c1)), some (.inr (.inl (n40))), none, some (.inr (.inl (u7))), none, some (.inl (c2)), some (.inl (c3)), some (.inl ((u11) + Int32.ofInt 1)), some (.inl (v10))] [] τ (w, σ') := h
                    replace h := ei_p h rfl rfl rfl rfl
                    obtain ⟨f, g, h⟩ := h
                    replace hf := Nat.lt_trans g hf
                    clear g
                    replace h : EV F f 179 z179 32 [some (rf 11 (0)), some (rf 13 (14)), some (rf 13 (15)), some (rf 13 (17)), some (.inl (c1)), some (.inr (.inl (n40))), none, some (.inr (.inl (u7))), none, some (.inl (c2)), some (.inl (c3)), some (.inl ((u11) + Int32.ofInt 1)), some (.inl (v10))] [] τ (w, σ') := h
                    exact IH f hf (n40) (u7) ((u11) + Int32.ofInt 1) (some (.inl (v10))) τ hsτ h
                  · skip
                    replace hp53 : ¬ (((m_i τ 13 (14) (u11).toNatClampNeg).toInt64).toInt ≤ (u7).toInt) := (not_congr (ab_lc .le _ _)).mp hp53
                    refine Or.inr ⟨hp53, ?_⟩
                    replace hf := Nat.lt_trans g hf
                    clear g
                    replace h : EV F f 179 z179 123 [some (rf 11 (0)), some (rf 13 (14)), some (rf 13 (15)), some (rf 13 (17)), some (.inl (c1)), some (.inr (.inl (n40))), none, some (.inr (.inl (u7))), none, some (.inl (c2)), some (.inl (c3)), some (.inl (u11)), some (.inl (v10))] [] τ (w, σ') := h
                    replace h := ei_p h rfl rfl rfl rfl
                    obtain ⟨f, g, h⟩ := h
                    replace hf := Nat.lt_trans g hf
                    clear g
                    replace h : EV F f 179 z179 137 [some (rf 11 (0)), some (rf 13 (14)), some (rf 13 (15)), some (rf 13 (17)), some (.inl (c1)), some (.inr (.inl (n40))), none, some (.inr (.inl (u7))), none, some (.inl (c2)), some (.inl (c3)), some (.inl (u11)), some (.inl (v10))] [] τ (w, σ') := h
                    replace h := ei_p h rfl rfl rfl rfl
                    obtain ⟨f, g, h⟩ := h
                    replace hf := Nat.lt_trans g hf
                    clear g
                    replace h : EV F f 179 z179 138 [some (rf 11 (0)), some (rf 13 (14)), some (rf 13 (15)), some (rf 13 (17)), some (.inl (c1)), some (.inr (.inl (n40))), none, some (.inr (.inl (u7))), none, some (.inl (c2)), some (.inl (c3)), some (.inl (u11)), some (.inl (v10))] [rf 13 (14)] τ (w, σ') := h
                    replace h := ei_p h rfl rfl rfl rfl
                    obtain ⟨f, g, h⟩ := h
                    replace hf := Nat.lt_trans g hf
                    clear g
                    replace h : EV F f 179 z179 140 [some (rf 11 (0)), some (rf 13 (14)), some (rf 13 (15)), some (rf 13 (17)), some (.inl (c1)), some (.inr (.inl (n40))), none, some (.inr (.inl (u7))), none, some (.inl (c2)), some (.inl (c3)), some (.inl (u11)), some (.inl (v10))] [.inl (u11), rf 13 (14)] τ (w, σ') := h
                    replace h := ei_iald h rfl (fun _ => rfl)
                    obtain ⟨vp54, f, g, h⟩ := h
                    replace hf := Nat.lt_trans g hf
                    clear g
                    replace h : EV F f 179 z179 141 [some (rf 11 (0)), some (rf 13 (14)), some (rf 13 (15)), some (rf 13 (17)), some (.inl (c1)), some (.inr (.inl (n40))), none, some (.inr (.inl (u7))), none, some (.inl (c2)), some (.inl (c3)), some (.inl (u11)), some (.inl (v10))] [.inl (m_i τ 13 (14) (u11).toNatClampNeg)] τ (w, σ') := h
                    refine ⟨vp_2 vp54, ?_⟩
                    replace h := ei_p h rfl rfl rfl rfl
                    obtain ⟨f, g, h⟩ := h
                    replace hf := Nat.lt_trans g hf
                    clear g
                    replace h : EV F f 179 z179 142 [some (rf 11 (0)), some (rf 13 (14)), some (rf 13 (15)), some (rf 13 (17)), some (.inl (c1)), some (.inr (.inl (n40))), none, some (.inr (.inl (u7))), none, some (.inl (c2)), some (.inl (c3)), some (.inl (u11)), some (.inl (v10))] [.inr (.inl ((m_i τ 13 (14) (u11).toNatClampNeg).toInt64))] τ (w, σ') := h
                    replace h := ei_p h rfl rfl rfl rfl
                    obtain ⟨f, g, h⟩ := h
                    replace hf := Nat.lt_trans g hf
                    clear g
                    replace h : EV F f 179 z179 147 [some (rf 11 (0)), some (rf 13 (14)), some (rf 13 (15)), some (rf 13 (17)), some (.inl (c1)), some (.inr (.inl (n40))), none, some (.inr (.inl (u7))), none, some (.inl (c2)), some (.inl (c3)), some (.inl (u11)), some (.inl (v10))] [.inr (.inl ((m_i τ 13 (14) (u11).toNatClampNeg).toInt64))] τ (w, σ') := h
                    replace h := ei_p h rfl rfl rfl rfl
                    obtain ⟨f, g, h⟩ := h
                    replace hf := Nat.lt_trans g hf
                    clear g
                    replace h : EV F f 179 z179 149 [some (rf 11 (0)), some (rf 13 (14)), some (rf 13 (15)), some (rf 13 (17)), some (.inl (c1)), some (.inr (.inl (n40))), none, some (.inr (.inl ((m_i τ 13 (14) (u11).toNatClampNeg).toInt64))), none, some (.inl (c2)), some (.inl (c3)), some (.inl (u11)), some (.inl (v10))] [] τ (w, σ') := h
                    obtain ⟨n55, e56⟩ : ∃ s, s = (m_i τ 13 (14) (u11).toNatClampNeg).toInt64 := ⟨_, rfl⟩
                    rw [← e56] at h
                    refine ⟨n55, e56, ?_⟩
                    replace h : EV F f 179 z179 149 [some (rf 11 (0)), some (rf 13 (14)), some (rf 13 (15)), some (rf 13 (17)), some (.inl (c1)), some (.inr (.inl (n40))), none, some (.inr (.inl (n55))), none, some (.inl (c2)), some (.inl (c3)), some (.inl (u11)), some (.inl (v10))] [] τ (w, σ') := h
                    replace h := ei_p h rfl rfl rfl rfl
                    obtain ⟨f, g, h⟩ := h
                    replace hf := Nat.lt_trans g hf
                    clear g
                    replace h : EV F f 179 z179 152 [some (rf 11 (0)), some (rf 13 (14)), some (rf 13 (15)), some (rf 13 (17)), some (.inl (c1)), some (.inr (.inl (n40))), none, some (.inr (.inl (n55))), none, some (.inl (c2)), some (.inl (c3)), some (.inl ((u11) + Int32.ofInt 1)), some (.inl (v10))] [] τ (w, σ') := h
                    replace h := ei_p h rfl rfl rfl rfl
                    obtain ⟨f, g, h⟩ := h
                    replace hf := Nat.lt_trans g hf
                    clear g
                    replace h : EV F f 179 z179 32 [some (rf 11 (0)), some (rf 13 (14)), some (rf 13 (15)), some (rf 13 (17)), some (.inl (c1)), some (.inr (.inl (n40))), none, some (.inr (.inl (n55))), none, some (.inl (c2)), some (.inl (c3)), some (.inl ((u11) + Int32.ofInt 1)), some (.inl (v10))] [] τ (w, σ') := h
                    exact IH f hf (n40) (n55) ((u11) + Int32.ofInt 1) (some (.inl (v10))) τ hsτ h
      · skip
        have er12 := ro2_run rfl r12
        rw [er12] at e r12
        have p13 := x131 hsτ.1 r12
        cases e
        exact Or.inr ⟨b, p13, rfl, rfl⟩
def P179 (σ : mS) (x5 : Int32) (w : mX) (σ' : mS) : Prop := (0 ≤ (x5).toInt ∧ (x5).toInt < (σ.2.1 13 (15) : Int)) ∧ ∃ n4, n4 = ((m_i σ 13 (15) (x5).toNatClampNeg) / (Int32.ofInt 10)) - ((m_i σ 13 (15) (x5).toNatClampNeg) / (Int32.ofInt 10)) / (Int32.ofInt 10) * (Int32.ofInt 10) ∧ (0 ≤ (x5).toInt ∧ (x5).toInt < (σ.2.1 13 (15) : Int)) ∧ ∃ n8, n8 = (m_i σ 13 (15) (x5).toNatClampNeg) / (Int32.ofInt 100) ∧ ∃ n, Q179_32 (x5) (n4) (n8) n (Int64.ofNat 0) (Int64.ofInt (-1)) (Int32.ofInt 0) σ w σ'
set_option maxRecDepth 100000 in
theorem x179 {σ σ' : mS} {x5 : Int32} {w : mX} (hs : HL σ) (h : ev_run sm_all 179 [rf 11 (0), rf 13 (14), rf 13 (15), rf 13 (17), .inl (x5)] σ (w) σ') : P179 σ x5 w σ' := by
  unfold P179
  obtain ⟨F, f, h⟩ := ei_go h z179_at
  replace h : EV F f 179 z179 0 [some (rf 11 (0)), some (rf 13 (14)), some (rf 13 (15)), some (rf 13 (17)), some (.inl (x5)), none, none, none, none, none, none, none, none] [] σ (w, σ') := h
  replace h := ei_p h rfl rfl rfl rfl
  obtain ⟨f, g, h⟩ := h
  clear g
  replace h : EV F f 179 z179 1 [some (rf 11 (0)), some (rf 13 (14)), some (rf 13 (15)), some (rf 13 (17)), some (.inl (x5)), none, none, none, none, none, none, none, none] [.inr (.inl (Int64.ofNat 0))] σ (w, σ') := h
  replace h := ei_p h rfl rfl rfl rfl
  obtain ⟨f, g, h⟩ := h
  clear g
  replace h : EV F f 179 z179 3 [some (rf 11 (0)), some (rf 13 (14)), some (rf 13 (15)), some (rf 13 (17)), some (.inl (x5)), some (.inr (.inl (Int64.ofNat 0))), none, none, none, none, none, none, none] [] σ (w, σ') := h
  replace h := ei_p h rfl rfl rfl rfl
  obtain ⟨f, g, h⟩ := h
  clear g
  replace h : EV F f 179 z179 6 [some (rf 11 (0)), some (rf 13 (14)), some (rf 13 (15)), some (rf 13 (17)), some (.inl (x5)), some (.inr (.inl (Int64.ofNat 0))), none, none, none, none, none, none, none] [.inr (.inl (Int64.ofInt (-1)))] σ (w, σ') := h
  replace h := ei_p h rfl rfl rfl rfl
  obtain ⟨f, g, h⟩ := h
  clear g
  replace h : EV F f 179 z179 8 [some (rf 11 (0)), some (rf 13 (14)), some (rf 13 (15)), some (rf 13 (17)), some (.inl (x5)), some (.inr (.inl (Int64.ofNat 0))), none, some (.inr (.inl (Int64.ofInt (-1)))), none, none, none, none, none] [] σ (w, σ') := h
  replace h := ei_p h rfl rfl rfl rfl
  obtain ⟨f, g, h⟩ := h
  clear g
  replace h : EV F f 179 z179 9 [some (rf 11 (0)), some (rf 13 (14)), some (rf 13 (15)), some (rf 13 (17)), some (.inl (x5)), some (.inr (.inl (Int64.ofNat 0))), none, some (.inr (.inl (Int64.ofInt (-1)))), none, none, none, none, none] [rf 13 (15)] σ (w, σ') := h
  replace h := ei_p h rfl rfl rfl rfl
  obtain ⟨f, g, h⟩ := h
  clear g
  replace h : EV F f 179 z179 11 [some (rf 11 (0)), some (rf 13 (14)), some (rf 13 (15)), some (rf 13 (17)), some (.inl (x5)), some (.inr (.inl (Int64.ofNat 0))), none, some (.inr (.inl (Int64.ofInt (-1)))), none, none, none, none, none] [.inl (x5), rf 13 (15)] σ (w, σ') := h
  replace h := ei_iald h rfl (fun _ => rfl)
  obtain ⟨vp1, f, g, h⟩ := h
  clear g
  replace h : EV F f 179 z179 12 [some (rf 11 (0)), some (rf 13 (14)), some (rf 13 (15)), some (rf 13 (17)), some (.inl (x5)), some (.inr (.inl (Int64.ofNat 0))), none, some (.inr (.inl (Int64.ofInt (-1)))), none, none, none, none, none] [.inl (m_i σ 13 (15) (x5).toNatClampNeg)] σ (w, σ') := h
  refine ⟨vp_2 vp1, ?_⟩
  replace h := ei_p h rfl rfl rfl rfl
  obtain ⟨f, g, h⟩ := h
  clear g
  replace h : EV F f 179 z179 14 [some (rf 11 (0)), some (rf 13 (14)), some (rf 13 (15)), some (rf 13 (17)), some (.inl (x5)), some (.inr (.inl (Int64.ofNat 0))), none, some (.inr (.inl (Int64.ofInt (-1)))), none, none, none, none, none] [.inl (Int32.ofInt 10), .inl (m_i σ 13 (15) (x5).toNatClampNeg)] σ (w, σ') := h
  replace h := ei_idiv h rfl
  obtain ⟨hd2, f, g, h⟩ := h
  clear g
  replace h : EV F f 179 z179 15 [some (rf 11 (0)), some (rf 13 (14)), some (rf 13 (15)), some (rf 13 (17)), some (.inl (x5)), some (.inr (.inl (Int64.ofNat 0))), none, some (.inr (.inl (Int64.ofInt (-1)))), none, none, none, none, none] [.inl ((m_i σ 13 (15) (x5).toNatClampNeg) / (Int32.ofInt 10))] σ (w, σ') := h
  replace h := ei_p h rfl rfl rfl rfl
  obtain ⟨f, g, h⟩ := h
  clear g
  replace h : EV F f 179 z179 17 [some (rf 11 (0)), some (rf 13 (14)), some (rf 13 (15)), some (rf 13 (17)), some (.inl (x5)), some (.inr (.inl (Int64.ofNat 0))), none, some (.inr (.inl (Int64.ofInt (-1)))), none, none, none, none, none] [.inl (Int32.ofInt 10), .inl ((m_i σ 13 (15) (x5).toNatClampNeg) / (Int32.ofInt 10))] σ (w, σ') := h
  replace h := ei_irem h rfl
  obtain ⟨hd3, f, g, h⟩ := h
  clear g
  replace h : EV F f 179 z179 18 [some (rf 11 (0)), some (rf 13 (14)), some (rf 13 (15)), some (rf 13 (17)), some (.inl (x5)), some (.inr (.inl (Int64.ofNat 0))), none, some (.inr (.inl (Int64.ofInt (-1)))), none, none, none, none, none] [.inl (((m_i σ 13 (15) (x5).toNatClampNeg) / (Int32.ofInt 10)) - ((m_i σ 13 (15) (x5).toNatClampNeg) / (Int32.ofInt 10)) / (Int32.ofInt 10) * (Int32.ofInt 10))] σ (w, σ') := h
  replace h := ei_p h rfl rfl rfl rfl
  obtain ⟨f, g, h⟩ := h
  clear g
  replace h : EV F f 179 z179 20 [some (rf 11 (0)), some (rf 13 (14)), some (rf 13 (15)), some (rf 13 (17)), some (.inl (x5)), some (.inr (.inl (Int64.ofNat 0))), none, some (.inr (.inl (Int64.ofInt (-1)))), none, some (.inl (((m_i σ 13 (15) (x5).toNatClampNeg) / (Int32.ofInt 10)) - ((m_i σ 13 (15) (x5).toNatClampNeg) / (Int32.ofInt 10)) / (Int32.ofInt 10) * (Int32.ofInt 10))), none, none, none] [] σ (w, σ') := h
  obtain ⟨n4, e5⟩ : ∃ s, s = ((m_i σ 13 (15) (x5).toNatClampNeg) / (Int32.ofInt 10)) - ((m_i σ 13 (15) (x5).toNatClampNeg) / (Int32.ofInt 10)) / (Int32.ofInt 10) * (Int32.ofInt 10) := ⟨_, rfl⟩
  rw [← e5] at h
  refine ⟨n4, e5, ?_⟩
  replace h : EV F f 179 z179 20 [some (rf 11 (0)), some (rf 13 (14)), some (rf 13 (15)), some (rf 13 (17)), some (.inl (x5)), some (.inr (.inl (Int64.ofNat 0))), none, some (.inr (.inl (Int64.ofInt (-1)))), none, some (.inl (n4)), none, none, none] [] σ (w, σ') := h
  replace h := ei_p h rfl rfl rfl rfl
  obtain ⟨f, g, h⟩ := h
  clear g
  replace h : EV F f 179 z179 21 [some (rf 11 (0)), some (rf 13 (14)), some (rf 13 (15)), some (rf 13 (17)), some (.inl (x5)), some (.inr (.inl (Int64.ofNat 0))), none, some (.inr (.inl (Int64.ofInt (-1)))), none, some (.inl (n4)), none, none, none] [rf 13 (15)] σ (w, σ') := h
  replace h := ei_p h rfl rfl rfl rfl
  obtain ⟨f, g, h⟩ := h
  clear g
  replace h : EV F f 179 z179 23 [some (rf 11 (0)), some (rf 13 (14)), some (rf 13 (15)), some (rf 13 (17)), some (.inl (x5)), some (.inr (.inl (Int64.ofNat 0))), none, some (.inr (.inl (Int64.ofInt (-1)))), none, some (.inl (n4)), none, none, none] [.inl (x5), rf 13 (15)] σ (w, σ') := h
  replace h := ei_iald h rfl (fun _ => rfl)
  obtain ⟨vp6, f, g, h⟩ := h
  clear g
  replace h : EV F f 179 z179 24 [some (rf 11 (0)), some (rf 13 (14)), some (rf 13 (15)), some (rf 13 (17)), some (.inl (x5)), some (.inr (.inl (Int64.ofNat 0))), none, some (.inr (.inl (Int64.ofInt (-1)))), none, some (.inl (n4)), none, none, none] [.inl (m_i σ 13 (15) (x5).toNatClampNeg)] σ (w, σ') := h
  refine ⟨vp_2 vp6, ?_⟩
  replace h := ei_p h rfl rfl rfl rfl
  obtain ⟨f, g, h⟩ := h
  clear g
  replace h : EV F f 179 z179 26 [some (rf 11 (0)), some (rf 13 (14)), some (rf 13 (15)), some (rf 13 (17)), some (.inl (x5)), some (.inr (.inl (Int64.ofNat 0))), none, some (.inr (.inl (Int64.ofInt (-1)))), none, some (.inl (n4)), none, none, none] [.inl (Int32.ofInt 100), .inl (m_i σ 13 (15) (x5).toNatClampNeg)] σ (w, σ') := h
  replace h := ei_idiv h rfl
  obtain ⟨hd7, f, g, h⟩ := h
  clear g
  replace h : EV F f 179 z179 27 [some (rf 11 (0)), some (rf 13 (14)), some (rf 13 (15)), some (rf 13 (17)), some (.inl (x5)), some (.inr (.inl (Int64.ofNat 0))), none, some (.inr (.inl (Int64.ofInt (-1)))), none, some (.inl (n4)), none, none, none] [.inl ((m_i σ 13 (15) (x5).toNatClampNeg) / (Int32.ofInt 100))] σ (w, σ') := h
  replace h := ei_p h rfl rfl rfl rfl
  obtain ⟨f, g, h⟩ := h
  clear g
  replace h : EV F f 179 z179 29 [some (rf 11 (0)), some (rf 13 (14)), some (rf 13 (15)), some (rf 13 (17)), some (.inl (x5)), some (.inr (.inl (Int64.ofNat 0))), none, some (.inr (.inl (Int64.ofInt (-1)))), none, some (.inl (n4)), some (.inl ((m_i σ 13 (15) (x5).toNatClampNeg) / (Int32.ofInt 100))), none, none] [] σ (w, σ') := h
  obtain ⟨n8, e9⟩ : ∃ s, s = (m_i σ 13 (15) (x5).toNatClampNeg) / (Int32.ofInt 100) := ⟨_, rfl⟩
  rw [← e9] at h
  refine ⟨n8, e9, ?_⟩
  replace h : EV F f 179 z179 29 [some (rf 11 (0)), some (rf 13 (14)), some (rf 13 (15)), some (rf 13 (17)), some (.inl (x5)), some (.inr (.inl (Int64.ofNat 0))), none, some (.inr (.inl (Int64.ofInt (-1)))), none, some (.inl (n4)), some (.inl (n8)), none, none] [] σ (w, σ') := h
  replace h := ei_p h rfl rfl rfl rfl
  obtain ⟨f, g, h⟩ := h
  clear g
  replace h : EV F f 179 z179 30 [some (rf 11 (0)), some (rf 13 (14)), some (rf 13 (15)), some (rf 13 (17)), some (.inl (x5)), some (.inr (.inl (Int64.ofNat 0))), none, some (.inr (.inl (Int64.ofInt (-1)))), none, some (.inl (n4)), some (.inl (n8)), none, none] [.inl (Int32.ofInt 0)] σ (w, σ') := h
  replace h := ei_p h rfl rfl rfl rfl
  obtain ⟨f, g, h⟩ := h
  clear g
  replace h : EV F f 179 z179 32 [some (rf 11 (0)), some (rf 13 (14)), some (rf 13 (15)), some (rf 13 (17)), some (.inl (x5)), some (.inr (.inl (Int64.ofNat 0))), none, some (.inr (.inl (Int64.ofInt (-1)))), none, some (.inl (n4)), some (.inl (n8)), some (.inl (Int32.ofInt 0)), none] [] σ (w, σ') := h
  exact ⟨f + 1, q179_32 (f + 1) f (Nat.lt_succ_self f) (Int64.ofNat 0) (Int64.ofInt (-1)) (Int32.ofInt 0) _ σ hs h⟩
def z180 : mAl := ((yL_areOrders, cL_areOrders, 7, (some .boolean), { frames := 9, cells := 270, slots := 2430, locals := 247 }, []), rw_L_areOrders, false)
theorem z180_at : m_alF[180]? = some z180 := rfl
def J180_175 (τ : mS) (w : mX) (σ' : mS) : Prop := w = .inl (some (.inl (Int32.ofInt 0))) ∧ σ' = τ
set_option maxRecDepth 100000 in
theorem j180_175 {F f : Nat} {σ' τ : mS} {y0 : Option mV} {y1 : Option mV} {y2 : Option mV} {y3 : Option mV} {y4 : Option mV} {y5 : Option mV} {y6 : Option mV} {w : mX} (hsτ : HL τ) (h : EV F f 180 z180 175 [y0, y1, y2, y3, y4, y5, y6] [] τ (w, σ')) : J180_175 τ w σ' := by
  unfold J180_175
  replace h := ei_p h rfl rfl rfl rfl
  obtain ⟨f, g, h⟩ := h
  clear g
  replace h : EV F f 180 z180 176 [y0, y1, y2, y3, y4, y5, y6] [.inl (Int32.ofInt 0)] τ (w, σ') := h
  have e := ei_iret h rfl
  cases e
  exact ⟨rfl, rfl⟩
def J180_136 (u3 : Int32) (τ : mS) (w : mX) (σ' : mS) : Prop := (((u3).toInt = (0 : Int) ∧ J180_175 τ w σ') ∨ (¬ ((u3).toInt = (0 : Int)) ∧ (0 ≤ (3 : Int) ∧ (3 : Int) < (τ.2.1 13 (17) : Int)) ∧ (((200 : Int) < (m_i τ 13 (17) (Int32.ofInt 3).toNatClampNeg).toInt ∧ J180_175 τ w σ') ∨ (¬ ((200 : Int) < (m_i τ 13 (17) (Int32.ofInt 3).toNatClampNeg).toInt) ∧ (0 ≤ (3 : Int) ∧ (3 : Int) < (τ.2.1 13 (17) : Int)) ∧ ∃ v5 σ6, gF τ σ6 ∧ HL σ6 ∧ P172 τ (Int32.ofInt 18) (m_i τ 13 (17) (Int32.ofInt 3).toNatClampNeg) (Int32.ofInt 0) (Int32.ofInt 0) (Int32.ofInt 0) (Int32.ofInt 0) (Int32.ofInt 0) (Int32.ofInt 0) (.inl (some (.inr (.inl v5)))) σ6 ∧ (((v5).toInt ≠ (Int64.ofInt (-3000000000)).toInt ∧ J180_175 σ6 w σ') ∨ (¬ ((v5).toInt ≠ (Int64.ofInt (-3000000000)).toInt) ∧ w = .inl (some (.inl (Int32.ofInt 1))) ∧ σ' = σ6))))))
set_option maxRecDepth 100000 in
theorem j180_136 {F f : Nat} {σ' τ : mS} {u3 : Int32} {y1 : Option mV} {y4 : Option mV} {y5 : Option mV} {y6 : Option mV} {w : mX} (hsτ : HL τ) (h : EV F f 180 z180 136 [some (rf 11 (0)), y1, some (rf 13 (17)), some (.inl (u3)), y4, y5, y6] [] τ (w, σ')) : J180_136 u3 τ w σ' := by
  unfold J180_136
  replace h := ei_p h rfl rfl rfl rfl
  obtain ⟨f, g, h⟩ := h
  clear g
  replace h : EV F f 180 z180 137 [some (rf 11 (0)), y1, some (rf 13 (17)), some (.inl (u3)), y4, y5, y6] [.inl (u3)] τ (w, σ') := h
  replace h := ei_c h rfl rfl rfl
  rcases h with ⟨hp1, f, g, h⟩ | ⟨hp1, f, g, h⟩
  · skip
    replace hp1 : (u3).toInt = (0 : Int) := ic_eq.mp hp1
    refine Or.inl ⟨hp1, ?_⟩
    clear g
    replace h : EV F f 180 z180 175 [some (rf 11 (0)), y1, some (rf 13 (17)), some (.inl (u3)), y4, y5, y6] [] τ (w, σ') := h
    exact j180_175 hsτ h
  · skip
    replace hp1 : ¬ ((u3).toInt = (0 : Int)) := (not_congr ic_eq).mp hp1
    refine Or.inr ⟨hp1, ?_⟩
    clear g
    replace h : EV F f 180 z180 140 [some (rf 11 (0)), y1, some (rf 13 (17)), some (.inl (u3)), y4, y5, y6] [] τ (w, σ') := h
    replace h := ei_p h rfl rfl rfl rfl
    obtain ⟨f, g, h⟩ := h
    clear g
    replace h : EV F f 180 z180 141 [some (rf 11 (0)), y1, some (rf 13 (17)), some (.inl (u3)), y4, y5, y6] [rf 13 (17)] τ (w, σ') := h
    replace h := ei_p h rfl rfl rfl rfl
    obtain ⟨f, g, h⟩ := h
    clear g
    replace h : EV F f 180 z180 142 [some (rf 11 (0)), y1, some (rf 13 (17)), some (.inl (u3)), y4, y5, y6] [.inl (Int32.ofInt 3), rf 13 (17)] τ (w, σ') := h
    replace h := ei_iald h rfl (fun _ => rfl)
    obtain ⟨vp2, f, g, h⟩ := h
    clear g
    replace h : EV F f 180 z180 143 [some (rf 11 (0)), y1, some (rf 13 (17)), some (.inl (u3)), y4, y5, y6] [.inl (m_i τ 13 (17) (Int32.ofInt 3).toNatClampNeg)] τ (w, σ') := h
    refine ⟨vp_2 vp2, ?_⟩
    replace h := ei_p h rfl rfl rfl rfl
    obtain ⟨f, g, h⟩ := h
    clear g
    replace h : EV F f 180 z180 146 [some (rf 11 (0)), y1, some (rf 13 (17)), some (.inl (u3)), y4, y5, y6] [.inl (Int32.ofInt 200), .inl (m_i τ 13 (17) (Int32.ofInt 3).toNatClampNeg)] τ (w, σ') := h
    replace h := ei_c h rfl rfl rfl
    rcases h with ⟨hp3, f, g, h⟩ | ⟨hp3, f, g, h⟩
    · skip
      replace hp3 : (200 : Int) < (m_i τ 13 (17) (Int32.ofInt 3).toNatClampNeg).toInt := ic_gt.mp hp3
      refine Or.inl ⟨hp3, ?_⟩
      clear g
      replace h : EV F f 180 z180 175 [some (rf 11 (0)), y1, some (rf 13 (17)), some (.inl (u3)), y4, y5, y6] [] τ (w, σ') := h
      exact j180_175 hsτ h
    · skip
      replace hp3 : ¬ ((200 : Int) < (m_i τ 13 (17) (Int32.ofInt 3).toNatClampNeg).toInt) := (not_congr ic_gt).mp hp3
      refine Or.inr ⟨hp3, ?_⟩
      clear g
      replace h : EV F f 180 z180 149 [some (rf 11 (0)), y1, some (rf 13 (17)), some (.inl (u3)), y4, y5, y6] [] τ (w, σ') := h
      replace h := ei_p h rfl rfl rfl rfl
      obtain ⟨f, g, h⟩ := h
      clear g
      replace h : EV F f 180 z180 150 [some (rf 11 (0)), y1, some (rf 13 (17)), some (.inl (u3)), y4, y5, y6] [rf 11 (0)] τ (w, σ') := h
      replace h := ei_p h rfl rfl rfl rfl
      obtain ⟨f, g, h⟩ := h
      clear g
      replace h : EV F f 180 z180 152 [some (rf 11 (0)), y1, some (rf 13 (17)), some (.inl (u3)), y4, y5, y6] [.inl (Int32.ofInt 18), rf 11 (0)] τ (w, σ') := h
      replace h := ei_p h rfl rfl rfl rfl
      obtain ⟨f, g, h⟩ := h
      clear g
      replace h : EV F f 180 z180 153 [some (rf 11 (0)), y1, some (rf 13 (17)), some (.inl (u3)), y4, y5, y6] [rf 13 (17), .inl (Int32.ofInt 18), rf 11 (0)] τ (w, σ') := h
      replace h := ei_p h rfl rfl rfl rfl
      obtain ⟨f, g, h⟩ := h
      clear g
      replace h : EV F f 180 z180 154 [some (rf 11 (0)), y1, some (rf 13 (17)), some (.inl (u3)), y4, y5, y6] [.inl (Int32.ofInt 3), rf 13 (17), .inl (Int32.ofInt 18), rf 11 (0)] τ (w, σ') := h
      replace h := ei_iald h rfl (fun _ => rfl)
      obtain ⟨vp4, f, g, h⟩ := h
      clear g
      replace h : EV F f 180 z180 155 [some (rf 11 (0)), y1, some (rf 13 (17)), some (.inl (u3)), y4, y5, y6] [.inl (m_i τ 13 (17) (Int32.ofInt 3).toNatClampNeg), .inl (Int32.ofInt 18), rf 11 (0)] τ (w, σ') := h
      refine ⟨vp_2 vp4, ?_⟩
      replace h := ei_p h rfl rfl rfl rfl
      obtain ⟨f, g, h⟩ := h
      clear g
      replace h : EV F f 180 z180 156 [some (rf 11 (0)), y1, some (rf 13 (17)), some (.inl (u3)), y4, y5, y6] [.inl (Int32.ofInt 0), .inl (m_i τ 13 (17) (Int32.ofInt 3).toNatClampNeg), .inl (Int32.ofInt 18), rf 11 (0)] τ (w, σ') := h
      replace h := ei_p h rfl rfl rfl rfl
      obtain ⟨f, g, h⟩ := h
      clear g
      replace h : EV F f 180 z180 157 [some (rf 11 (0)), y1, some (rf 13 (17)), some (.inl (u3)), y4, y5, y6] [.inl (Int32.ofInt 0), .inl (Int32.ofInt 0), .inl (m_i τ 13 (17) (Int32.ofInt 3).toNatClampNeg), .inl (Int32.ofInt 18), rf 11 (0)] τ (w, σ') := h
      replace h := ei_p h rfl rfl rfl rfl
      obtain ⟨f, g, h⟩ := h
      clear g
      replace h : EV F f 180 z180 158 [some (rf 11 (0)), y1, some (rf 13 (17)), some (.inl (u3)), y4, y5, y6] [.inl (Int32.ofInt 0), .inl (Int32.ofInt 0), .inl (Int32.ofInt 0), .inl (m_i τ 13 (17) (Int32.ofInt 3).toNatClampNeg), .inl (Int32.ofInt 18), rf 11 (0)] τ (w, σ') := h
      replace h := ei_p h rfl rfl rfl rfl
      obtain ⟨f, g, h⟩ := h
      clear g
      replace h : EV F f 180 z180 159 [some (rf 11 (0)), y1, some (rf 13 (17)), some (.inl (u3)), y4, y5, y6] [.inl (Int32.ofInt 0), .inl (Int32.ofInt 0), .inl (Int32.ofInt 0), .inl (Int32.ofInt 0), .inl (m_i τ 13 (17) (Int32.ofInt 3).toNatClampNeg), .inl (Int32.ofInt 18), rf 11 (0)] τ (w, σ') := h
      replace h := ei_p h rfl rfl rfl rfl
      obtain ⟨f, g, h⟩ := h
      clear g
      replace h : EV F f 180 z180 160 [some (rf 11 (0)), y1, some (rf 13 (17)), some (.inl (u3)), y4, y5, y6] [.inl (Int32.ofInt 0), .inl (Int32.ofInt 0), .inl (Int32.ofInt 0), .inl (Int32.ofInt 0), .inl (Int32.ofInt 0), .inl (m_i τ 13 (17) (Int32.ofInt 3).toNatClampNeg), .inl (Int32.ofInt 18), rf 11 (0)] τ (w, σ') := h
      replace h := ei_p h rfl rfl rfl rfl
      obtain ⟨f, g, h⟩ := h
      clear g
      replace h : EV F f 180 z180 161 [some (rf 11 (0)), y1, some (rf 13 (17)), some (.inl (u3)), y4, y5, y6] [.inl (Int32.ofInt 0), .inl (Int32.ofInt 0), .inl (Int32.ofInt 0), .inl (Int32.ofInt 0), .inl (Int32.ofInt 0), .inl (Int32.ofInt 0), .inl (m_i τ 13 (17) (Int32.ofInt 3).toNatClampNeg), .inl (Int32.ofInt 18), rf 11 (0)] τ (w, σ') := h
      replace h := bx_L (ei_s (as := [.inl (Int32.ofInt 0), .inl (Int32.ofInt 0), .inl (Int32.ofInt 0), .inl (Int32.ofInt 0), .inl (Int32.ofInt 0), .inl (Int32.ofInt 0), .inl (m_i τ 13 (17) (Int32.ofInt 3).toNatClampNeg), .inl (Int32.ofInt 18), rf 11 (0)]) h rfl (Nat.le_of_ble_eq_true rfl) rfl rfl) z172_at rfl
      rcases h with ⟨v5, σ6, r7, f, g, h⟩ | ⟨b, σ6, r7, e⟩
      rotate_left
      · exact (nt172 (x172 hsτ r7)).elim
      clear g
      have p8 := x172 hsτ r7
      have hsσ6 : HL σ6 := hl172 p8
      refine ⟨v5, σ6, gF_r r7 rfl hsτ, hsσ6, p8, ?_⟩
      replace h : EV F f 180 z180 164 [some (rf 11 (0)), y1, some (rf 13 (17)), some (.inl (u3)), y4, y5, y6] [.inr (.inl (v5))] σ6 (w, σ') := h
      replace h := ei_p h rfl rfl rfl rfl
      obtain ⟨f, g, h⟩ := h
      clear g
      replace h : EV F f 180 z180 167 [some (rf 11 (0)), y1, some (rf 13 (17)), some (.inl (u3)), y4, y5, y6] [.inr (.inl (Int64.ofInt (-3000000000))), .inr (.inl (v5))] σ6 (w, σ') := h
      replace h := ei_p h rfl rfl rfl rfl
      obtain ⟨f, g, h⟩ := h
      clear g
      replace h : EV F f 180 z180 168 [some (rf 11 (0)), y1, some (rf 13 (17)), some (.inl (u3)), y4, y5, y6] [.inl (lg_cmp (v5) (Int64.ofInt (-3000000000)))] σ6 (w, σ') := h
      replace h := ei_c h rfl rfl rfl
      rcases h with ⟨hp9, f, g, h⟩ | ⟨hp9, f, g, h⟩
      · skip
        replace hp9 : (v5).toInt ≠ (Int64.ofInt (-3000000000)).toInt := (ab_lc .ne _ _).mp hp9
        refine Or.inl ⟨hp9, ?_⟩
        clear g
        replace h : EV F f 180 z180 175 [some (rf 11 (0)), y1, some (rf 13 (17)), some (.inl (u3)), y4, y5, y6] [] σ6 (w, σ') := h
        exact j180_175 hsσ6 h
      · skip
        replace hp9 : ¬ ((v5).toInt ≠ (Int64.ofInt (-3000000000)).toInt) := (not_congr (ab_lc .ne _ _)).mp hp9
        refine Or.inr ⟨hp9, ?_⟩
        clear g
        replace h : EV F f 180 z180 171 [some (rf 11 (0)), y1, some (rf 13 (17)), some (.inl (u3)), y4, y5, y6] [] σ6 (w, σ') := h
        replace h := ei_p h rfl rfl rfl rfl
        obtain ⟨f, g, h⟩ := h
        clear g
        replace h : EV F f 180 z180 172 [some (rf 11 (0)), y1, some (rf 13 (17)), some (.inl (u3)), y4, y5, y6] [.inl (Int32.ofInt 1)] σ6 (w, σ') := h
        replace h := ei_p h rfl rfl rfl rfl
        obtain ⟨f, g, h⟩ := h
        clear g
        replace h : EV F f 180 z180 176 [some (rf 11 (0)), y1, some (rf 13 (17)), some (.inl (u3)), y4, y5, y6] [.inl (Int32.ofInt 1)] σ6 (w, σ') := h
        have e := ei_iret h rfl
        cases e
        exact ⟨rfl, rfl⟩
abbrev B180_31 (ih : Int32 → Int32 → mS → mX → mS → Prop) (u3 : Int32) (u4 : Int32) (τ : mS) (w : mX) (σ' : mS) : Prop := (0 ≤ (0 : Int) ∧ (0 : Int) < (τ.2.1 13 (17) : Int)) ∧ (((m_i τ 13 (17) (Int32.ofInt 0).toNatClampNeg).toInt ≤ (u4).toInt ∧ J180_136 (u3) τ w σ') ∨ (¬ ((m_i τ 13 (17) (Int32.ofInt 0).toNatClampNeg).toInt ≤ (u4).toInt) ∧ (((u3).toInt = (0 : Int) ∧ J180_136 (u3) τ w σ') ∨ (¬ ((u3).toInt = (0 : Int)) ∧ ((∃ v4, P131 τ (u4) (.inl (some (.inl v4))) τ ∧ (0 ≤ (u4).toInt ∧ (u4).toInt < (τ.2.1 13 (15) : Int)) ∧ ((∃ v10, P149 τ ((m_i τ 13 (15) (u4).toNatClampNeg) - (m_i τ 13 (15) (u4).toNatClampNeg) / (Int32.ofInt 10) * (Int32.ofInt 10)) (.inl (some (.inl v10))) τ ∧ ((((v10) - (v10) / (Int32.ofInt 10) * (Int32.ofInt 10)).toInt ≤ (1 : Int) ∧ (((3 : Int) ≤ ((v4) - (v4) / (Int32.ofInt 10) * (Int32.ofInt 10)).toInt ∧ ih (Int32.ofInt 0) ((u4) + Int32.ofInt 1) τ w σ') ∨ (¬ ((3 : Int) ≤ ((v4) - (v4) / (Int32.ofInt 10) * (Int32.ofInt 10)).toInt) ∧ ((((v4) - (v4) / (Int32.ofInt 10) * (Int32.ofInt 10)).toInt ≠ (0 : Int) ∧ ((((v4) / (Int32.ofInt 10)).toInt ≠ (0 : Int) ∧ ((ih (Int32.ofInt 1) ((u4) + Int32.ofInt 1) τ w σ'))) ∨ (¬ (((v4) / (Int32.ofInt 10)).toInt ≠ (0 : Int)) ∧ (ih (Int32.ofInt 0) ((u4) + Int32.ofInt 1) τ w σ')))) ∨ (¬ (((v4) - (v4) / (Int32.ofInt 10) * (Int32.ofInt 10)).toInt ≠ (0 : Int)) ∧ ((((v4) / (Int32.ofInt 10)).toInt ≠ (0 : Int) ∧ (ih (Int32.ofInt 0) ((u4) + Int32.ofInt 1) τ w σ')) ∨ (¬ (((v4) / (Int32.ofInt 10)).toInt ≠ (0 : Int)) ∧ ((ih (Int32.ofInt 1) ((u4) + Int32.ofInt 1) τ w σ'))))))))) ∨ (¬ (((v10) - (v10) / (Int32.ofInt 10) * (Int32.ofInt 10)).toInt ≤ (1 : Int)) ∧ (((3 : Int) ≤ ((v4) - (v4) / (Int32.ofInt 10) * (Int32.ofInt 10)).toInt ∧ ih (Int32.ofInt 0) ((u4) + Int32.ofInt 1) τ w σ') ∨ (¬ ((3 : Int) ≤ ((v4) - (v4) / (Int32.ofInt 10) * (Int32.ofInt 10)).toInt) ∧ ((((v4) - (v4) / (Int32.ofInt 10) * (Int32.ofInt 10)).toInt ≠ (0 : Int) ∧ ((((v4) / (Int32.ofInt 10)).toInt ≠ (0 : Int) ∧ (((((v4).toInt ≠ (0 : Int) ∧ ih (Int32.ofInt 0) ((u4) + Int32.ofInt 1) τ w σ') ∨ (¬ ((v4).toInt ≠ (0 : Int)) ∧ ih (Int32.ofInt 1) ((u4) + Int32.ofInt 1) τ w σ'))))) ∨ (¬ (((v4) / (Int32.ofInt 10)).toInt ≠ (0 : Int)) ∧ (ih (Int32.ofInt 0) ((u4) + Int32.ofInt 1) τ w σ')))) ∨ (¬ (((v4) - (v4) / (Int32.ofInt 10) * (Int32.ofInt 10)).toInt ≠ (0 : Int)) ∧ ((((v4) / (Int32.ofInt 10)).toInt ≠ (0 : Int) ∧ (ih (Int32.ofInt 0) ((u4) + Int32.ofInt 1) τ w σ')) ∨ (¬ (((v4) / (Int32.ofInt 10)).toInt ≠ (0 : Int)) ∧ (((((v4).toInt ≠ (0 : Int) ∧ ih (Int32.ofInt 0) ((u4) + Int32.ofInt 1) τ w σ') ∨ (¬ ((v4).toInt ≠ (0 : Int)) ∧ ih (Int32.ofInt 1) ((u4) + Int32.ofInt 1) τ w σ'))))))))))))) ∨ (∃ b, P149 τ ((m_i τ 13 (15) (u4).toNatClampNeg) - (m_i τ 13 (15) (u4).toNatClampNeg) / (Int32.ofInt 10) * (Int32.ofInt 10)) (.inr b) τ ∧ w = .inr b ∧ σ' = τ))) ∨ (∃ b, P131 τ (u4) (.inr b) τ ∧ w = .inr b ∧ σ' = τ))))))
def Q180_31 : Nat → Int32 → Int32 → mS → mX → mS → Prop
  | 0 => fun _ _ _ _ _ => False
  | n + 1 => B180_31  (Q180_31  n)
set_option maxRecDepth 100000 in
theorem q180_31 {F : Nat} {σ' : mS} {w : mX} : ∀ N f, f < N → ∀ (u3 : Int32) (u4 : Int32) (y5 : Option mV) (y6 : Option mV) (τ : mS), HL τ → EV F f 180 z180 31 [some (rf 11 (0)), some (rf 13 (15)), some (rf 13 (17)), some (.inl (u3)), some (.inl (u4)), y5, y6] [] τ (w, σ') → Q180_31  N u3 u4 τ w σ' := by
  intro N
  induction N with
  | zero => intro f hf; omega
  | succ N IH =>
    intro f hf0 u3 u4 y5 y6 τ hsτ h
    have hf : f < N + 1 := hf0
    clear hf0
    show B180_31  (Q180_31  N) u3 u4 τ w σ'
    replace h := ei_p h rfl rfl rfl rfl
    obtain ⟨f, g, h⟩ := h
    replace hf := Nat.lt_of_lt_of_le g (Nat.le_of_lt_succ hf)
    clear g
    replace h : EV F f 180 z180 33 [some (rf 11 (0)), some (rf 13 (15)), some (rf 13 (17)), some (.inl (u3)), some (.inl (u4)), y5, y6] [.inl (u4)] τ (w, σ') := h
    replace h := ei_p h rfl rfl rfl rfl
    obtain ⟨f, g, h⟩ := h
    replace hf := Nat.lt_trans g hf
    clear g
    replace h : EV F f 180 z180 34 [some (rf 11 (0)), some (rf 13 (15)), some (rf 13 (17)), some (.inl (u3)), some (.inl (u4)), y5, y6] [rf 13 (17), .inl (u4)] τ (w, σ') := h
    replace h := ei_p h rfl rfl rfl rfl
    obtain ⟨f, g, h⟩ := h
    replace hf := Nat.lt_trans g hf
    clear g
    replace h : EV F f 180 z180 35 [some (rf 11 (0)), some (rf 13 (15)), some (rf 13 (17)), some (.inl (u3)), some (.inl (u4)), y5, y6] [.inl (Int32.ofInt 0), rf 13 (17), .inl (u4)] τ (w, σ') := h
    replace h := ei_iald h rfl (fun _ => rfl)
    obtain ⟨vp1, f, g, h⟩ := h
    replace hf := Nat.lt_trans g hf
    clear g
    replace h : EV F f 180 z180 36 [some (rf 11 (0)), some (rf 13 (15)), some (rf 13 (17)), some (.inl (u3)), some (.inl (u4)), y5, y6] [.inl (m_i τ 13 (17) (Int32.ofInt 0).toNatClampNeg), .inl (u4)] τ (w, σ') := h
    refine ⟨vp_2 vp1, ?_⟩
    replace h := ei_c h rfl rfl rfl
    rcases h with ⟨hp2, f, g, h⟩ | ⟨hp2, f, g, h⟩
    · skip
      replace hp2 : (m_i τ 13 (17) (Int32.ofInt 0).toNatClampNeg).toInt ≤ (u4).toInt := ic_ge.mp hp2
      refine Or.inl ⟨hp2, ?_⟩
      replace hf := Nat.lt_trans g hf
      clear g
      replace h : EV F f 180 z180 136 [some (rf 11 (0)), some (rf 13 (15)), some (rf 13 (17)), some (.inl (u3)), some (.inl (u4)), y5, y6] [] τ (w, σ') := h
      exact j180_136 hsτ h
    · skip
      replace hp2 : ¬ ((m_i τ 13 (17) (Int32.ofInt 0).toNatClampNeg).toInt ≤ (u4).toInt) := (not_congr ic_ge).mp hp2
      refine Or.inr ⟨hp2, ?_⟩
      replace hf := Nat.lt_trans g hf
      clear g
      replace h : EV F f 180 z180 39 [some (rf 11 (0)), some (rf 13 (15)), some (rf 13 (17)), some (.inl (u3)), some (.inl (u4)), y5, y6] [] τ (w, σ') := h
      replace h := ei_p h rfl rfl rfl rfl
      obtain ⟨f, g, h⟩ := h
      replace hf := Nat.lt_trans g hf
      clear g
      replace h : EV F f 180 z180 40 [some (rf 11 (0)), some (rf 13 (15)), some (rf 13 (17)), some (.inl (u3)), some (.inl (u4)), y5, y6] [.inl (u3)] τ (w, σ') := h
      replace h := ei_c h rfl rfl rfl
      rcases h with ⟨hp3, f, g, h⟩ | ⟨hp3, f, g, h⟩
      · skip
        replace hp3 : (u3).toInt = (0 : Int) := ic_eq.mp hp3
        refine Or.inl ⟨hp3, ?_⟩
        replace hf := Nat.lt_trans g hf
        clear g
        replace h : EV F f 180 z180 136 [some (rf 11 (0)), some (rf 13 (15)), some (rf 13 (17)), some (.inl (u3)), some (.inl (u4)), y5, y6] [] τ (w, σ') := h
        exact j180_136 hsτ h
      · skip
        replace hp3 : ¬ ((u3).toInt = (0 : Int)) := (not_congr ic_eq).mp hp3
        refine Or.inr ⟨hp3, ?_⟩
        replace hf := Nat.lt_trans g hf
        clear g
        replace h : EV F f 180 z180 43 [some (rf 11 (0)), some (rf 13 (15)), some (rf 13 (17)), some (.inl (u3)), some (.inl (u4)), y5, y6] [] τ (w, σ') := h
        replace h := ei_p h rfl rfl rfl rfl
        obtain ⟨f, g, h⟩ := h
        replace hf := Nat.lt_trans g hf
        clear g
        replace h : EV F f 180 z180 44 [some (rf 11 (0)), some (rf 13 (15)), some (rf 13 (17)), some (.inl (u3)), some (.inl (u4)), y5, y6] [rf 11 (0)] τ (w, σ') := h
        replace h := ei_p h rfl rfl rfl rfl
        obtain ⟨f, g, h⟩ := h
        replace hf := Nat.lt_trans g hf
        clear g
        replace h : EV F f 180 z180 46 [some (rf 11 (0)), some (rf 13 (15)), some (rf 13 (17)), some (.inl (u3)), some (.inl (u4)), y5, y6] [.inl (u4), rf 11 (0)] τ (w, σ') := h
        replace h := bx_I (ei_v (as := [.inl (u4)]) h rfl rfl rfl) z131_at (Or.inl rfl)
        rcases h with ⟨v4, σ5, r6, f, g, h⟩ | ⟨b, σ5, r6, e⟩
        · skip
          have er6 := ro2_run rfl r6
          rw [er6] at h r6
          replace hf := Nat.lt_trans g hf
          clear g
          have p7 := x131 hsτ.1 r6
          refine Or.inl ⟨v4, p7, ?_⟩
          replace h : EV F f 180 z180 49 [some (rf 11 (0)), some (rf 13 (15)), some (rf 13 (17)), some (.inl (u3)), some (.inl (u4)), y5, y6] [.inl (v4)] τ (w, σ') := h
          replace h := ei_p h rfl rfl rfl rfl
          obtain ⟨f, g, h⟩ := h
          replace hf := Nat.lt_trans g hf
          clear g
          replace h : EV F f 180 z180 51 [some (rf 11 (0)), some (rf 13 (15)), some (rf 13 (17)), some (.inl (u3)), some (.inl (u4)), some (.inl (v4)), y6] [] τ (w, σ') := h
          replace h := ei_p h rfl rfl rfl rfl
          obtain ⟨f, g, h⟩ := h
          replace hf := Nat.lt_trans g hf
          clear g
          replace h : EV F f 180 z180 52 [some (rf 11 (0)), some (rf 13 (15)), some (rf 13 (17)), some (.inl (u3)), some (.inl (u4)), some (.inl (v4)), y6] [rf 11 (0)] τ (w, σ') := h
          replace h := ei_p h rfl rfl rfl rfl
          obtain ⟨f, g, h⟩ := h
          replace hf := Nat.lt_trans g hf
          clear g
          replace h : EV F f 180 z180 53 [some (rf 11 (0)), some (rf 13 (15)), some (rf 13 (17)), some (.inl (u3)), some (.inl (u4)), some (.inl (v4)), y6] [rf 13 (15), rf 11 (0)] τ (w, σ') := h
          replace h := ei_p h rfl rfl rfl rfl
          obtain ⟨f, g, h⟩ := h
          replace hf := Nat.lt_trans g hf
          clear g
          replace h : EV F f 180 z180 55 [some (rf 11 (0)), some (rf 13 (15)), some (rf 13 (17)), some (.inl (u3)), some (.inl (u4)), some (.inl (v4)), y6] [.inl (u4), rf 13 (15), rf 11 (0)] τ (w, σ') := h
          replace h := ei_iald h rfl (fun _ => rfl)
          obtain ⟨vp8, f, g, h⟩ := h
          replace hf := Nat.lt_trans g hf
          clear g
          replace h : EV F f 180 z180 56 [some (rf 11 (0)), some (rf 13 (15)), some (rf 13 (17)), some (.inl (u3)), some (.inl (u4)), some (.inl (v4)), y6] [.inl (m_i τ 13 (15) (u4).toNatClampNeg), rf 11 (0)] τ (w, σ') := h
          refine ⟨vp_2 vp8, ?_⟩
          replace h := ei_p h rfl rfl rfl rfl
          obtain ⟨f, g, h⟩ := h
          replace hf := Nat.lt_trans g hf
          clear g
          replace h : EV F f 180 z180 58 [some (rf 11 (0)), some (rf 13 (15)), some (rf 13 (17)), some (.inl (u3)), some (.inl (u4)), some (.inl (v4)), y6] [.inl (Int32.ofInt 10), .inl (m_i τ 13 (15) (u4).toNatClampNeg), rf 11 (0)] τ (w, σ') := h
          replace h := ei_irem h rfl
          obtain ⟨hd9, f, g, h⟩ := h
          replace hf := Nat.lt_trans g hf
          clear g
          replace h : EV F f 180 z180 59 [some (rf 11 (0)), some (rf 13 (15)), some (rf 13 (17)), some (.inl (u3)), some (.inl (u4)), some (.inl (v4)), y6] [.inl ((m_i τ 13 (15) (u4).toNatClampNeg) - (m_i τ 13 (15) (u4).toNatClampNeg) / (Int32.ofInt 10) * (Int32.ofInt 10)), rf 11 (0)] τ (w, σ') := h
          replace h := bx_I (ei_v (as := [.inl ((m_i τ 13 (15) (u4).toNatClampNeg) - (m_i τ 13 (15) (u4).toNatClampNeg) / (Int32.ofInt 10) * (Int32.ofInt 10))]) h rfl rfl rfl) z149_at (Or.inl rfl)
          rcases h with ⟨v10, σ11, r12, f, g, h⟩ | ⟨b, σ11, r12, e⟩
          · skip
            have er12 := ro2_run rfl r12
            rw [er12] at h r12
            replace hf := Nat.lt_trans g hf
            clear g
            have p13 := x149 hsτ.1 r12
            refine Or.inl ⟨v10, p13, ?_⟩
            replace h : EV F f 180 z180 62 [some (rf 11 (0)), some (rf 13 (15)), some (rf 13 (17)), some (.inl (u3)), some (.inl (u4)), some (.inl (v4)), y6] [.inl (v10)] τ (w, σ') := h
            replace h := ei_p h rfl rfl rfl rfl
            obtain ⟨f, g, h⟩ := h
            replace hf := Nat.lt_trans g hf
            clear g
            replace h : EV F f 180 z180 64 [some (rf 11 (0)), some (rf 13 (15)), some (rf 13 (17)), some (.inl (u3)), some (.inl (u4)), some (.inl (v4)), y6] [.inl (Int32.ofInt 10), .inl (v10)] τ (w, σ') := h
            replace h := ei_irem h rfl
            obtain ⟨hd14, f, g, h⟩ := h
            replace hf := Nat.lt_trans g hf
            clear g
            replace h : EV F f 180 z180 65 [some (rf 11 (0)), some (rf 13 (15)), some (rf 13 (17)), some (.inl (u3)), some (.inl (u4)), some (.inl (v4)), y6] [.inl ((v10) - (v10) / (Int32.ofInt 10) * (Int32.ofInt 10))] τ (w, σ') := h
            replace h := ei_p h rfl rfl rfl rfl
            obtain ⟨f, g, h⟩ := h
            replace hf := Nat.lt_trans g hf
            clear g
            replace h : EV F f 180 z180 66 [some (rf 11 (0)), some (rf 13 (15)), some (rf 13 (17)), some (.inl (u3)), some (.inl (u4)), some (.inl (v4)), y6] [.inl (Int32.ofInt 1), .inl ((v10) - (v10) / (Int32.ofInt 10) * (Int32.ofInt 10))] τ (w, σ') := h
            replace h := ei_c h rfl rfl rfl
            rcases h with ⟨hp15, f, g, h⟩ | ⟨hp15, f, g, h⟩
            · skip
              replace hp15 : ((v10) - (v10) / (Int32.ofInt 10) * (Int32.ofInt 10)).toInt ≤ (1 : Int) := ic_le.mp hp15
              refine Or.inl ⟨hp15, ?_⟩
              replace hf := Nat.lt_trans g hf
              clear g
              replace h : EV F f 180 z180 73 [some (rf 11 (0)), some (rf 13 (15)), some (rf 13 (17)), some (.inl (u3)), some (.inl (u4)), some (.inl (v4)), y6] [] τ (w, σ') := h
              replace h := ei_p h rfl rfl rfl rfl
              obtain ⟨f, g, h⟩ := h
              replace hf := Nat.lt_trans g hf
              clear g
              replace h : EV F f 180 z180 74 [some (rf 11 (0)), some (rf 13 (15)), some (rf 13 (17)), some (.inl (u3)), some (.inl (u4)), some (.inl (v4)), y6] [.inl (Int32.ofInt 0)] τ (w, σ') := h
              replace h := ei_p h rfl rfl rfl rfl
              obtain ⟨f, g, h⟩ := h
              replace hf := Nat.lt_trans g hf
              clear g
              replace h : EV F f 180 z180 76 [some (rf 11 (0)), some (rf 13 (15)), some (rf 13 (17)), some (.inl (u3)), some (.inl (u4)), some (.inl (v4)), some (.inl (Int32.ofInt 0))] [] τ (w, σ') := h
              replace h := ei_p h rfl rfl rfl rfl
              obtain ⟨f, g, h⟩ := h
              replace hf := Nat.lt_trans g hf
              clear g
              replace h : EV F f 180 z180 78 [some (rf 11 (0)), some (rf 13 (15)), some (rf 13 (17)), some (.inl (u3)), some (.inl (u4)), some (.inl (v4)), some (.inl (Int32.ofInt 0))] [.inl (v4)] τ (w, σ') := h
              replace h := ei_p h rfl rfl rfl rfl
              obtain ⟨f, g, h⟩ := h
              replace hf := Nat.lt_trans g hf
              clear g
              replace h : EV F f 180 z180 80 [some (rf 11 (0)), some (rf 13 (15)), some (rf 13 (17)), some (.inl (u3)), some (.inl (u4)), some (.inl (v4)), some (.inl (Int32.ofInt 0))] [.inl (Int32.ofInt 10), .inl (v4)] τ (w, σ') := h
              replace h := ei_irem h rfl
              obtain ⟨hd16, f, g, h⟩ := h
              replace hf := Nat.lt_trans g hf
              clear g
              replace h : EV F f 180 z180 81 [some (rf 11 (0)), some (rf 13 (15)), some (rf 13 (17)), some (.inl (u3)), some (.inl (u4)), some (.inl (v4)), some (.inl (Int32.ofInt 0))] [.inl ((v4) - (v4) / (Int32.ofInt 10) * (Int32.ofInt 10))] τ (w, σ') := h
              replace h := ei_p h rfl rfl rfl rfl
              obtain ⟨f, g, h⟩ := h
              replace hf := Nat.lt_trans g hf
              clear g
              replace h : EV F f 180 z180 82 [some (rf 11 (0)), some (rf 13 (15)), some (rf 13 (17)), some (.inl (u3)), some (.inl (u4)), some (.inl (v4)), some (.inl (Int32.ofInt 0))] [.inl (Int32.ofInt 3), .inl ((v4) - (v4) / (Int32.ofInt 10) * (Int32.ofInt 10))] τ (w, σ') := h
              replace h := ei_c h rfl rfl rfl
              rcases h with ⟨hp17, f, g, h⟩ | ⟨hp17, f, g, h⟩
              · skip
                replace hp17 : (3 : Int) ≤ ((v4) - (v4) / (Int32.ofInt 10) * (Int32.ofInt 10)).toInt := ic_ge.mp hp17
                refine Or.inl ⟨hp17, ?_⟩
                replace hf := Nat.lt_trans g hf
                clear g
                replace h : EV F f 180 z180 128 [some (rf 11 (0)), some (rf 13 (15)), some (rf 13 (17)), some (.inl (u3)), some (.inl (u4)), some (.inl (v4)), some (.inl (Int32.ofInt 0))] [] τ (w, σ') := h
                replace h := ei_p h rfl rfl rfl rfl
                obtain ⟨f, g, h⟩ := h
                replace hf := Nat.lt_trans g hf
                clear g
                replace h : EV F f 180 z180 129 [some (rf 11 (0)), some (rf 13 (15)), some (rf 13 (17)), some (.inl (u3)), some (.inl (u4)), some (.inl (v4)), some (.inl (Int32.ofInt 0))] [.inl (Int32.ofInt 0)] τ (w, σ') := h
                replace h := ei_p h rfl rfl rfl rfl
                obtain ⟨f, g, h⟩ := h
                replace hf := Nat.lt_trans g hf
                clear g
                replace h : EV F f 180 z180 130 [some (rf 11 (0)), some (rf 13 (15)), some (rf 13 (17)), some (.inl (Int32.ofInt 0)), some (.inl (u4)), some (.inl (v4)), some (.inl (Int32.ofInt 0))] [] τ (w, σ') := h
                replace h := ei_p h rfl rfl rfl rfl
                obtain ⟨f, g, h⟩ := h
                replace hf := Nat.lt_trans g hf
                clear g
                replace h : EV F f 180 z180 133 [some (rf 11 (0)), some (rf 13 (15)), some (rf 13 (17)), some (.inl (Int32.ofInt 0)), some (.inl ((u4) + Int32.ofInt 1)), some (.inl (v4)), some (.inl (Int32.ofInt 0))] [] τ (w, σ') := h
                replace h := ei_p h rfl rfl rfl rfl
                obtain ⟨f, g, h⟩ := h
                replace hf := Nat.lt_trans g hf
                clear g
                replace h : EV F f 180 z180 31 [some (rf 11 (0)), some (rf 13 (15)), some (rf 13 (17)), some (.inl (Int32.ofInt 0)), some (.inl ((u4) + Int32.ofInt 1)), some (.inl (v4)), some (.inl (Int32.ofInt 0))] [] τ (w, σ') := h
                exact IH f hf (Int32.ofInt 0) ((u4) + Int32.ofInt 1) (some (.inl (v4))) (some (.inl (Int32.ofInt 0))) τ hsτ h
              · skip
                replace hp17 : ¬ ((3 : Int) ≤ ((v4) - (v4) / (Int32.ofInt 10) * (Int32.ofInt 10)).toInt) := (not_congr ic_ge).mp hp17
                refine Or.inr ⟨hp17, ?_⟩
                replace hf := Nat.lt_trans g hf
                clear g
                replace h : EV F f 180 z180 85 [some (rf 11 (0)), some (rf 13 (15)), some (rf 13 (17)), some (.inl (u3)), some (.inl (u4)), some (.inl (v4)), some (.inl (Int32.ofInt 0))] [] τ (w, σ') := h
                replace h := ei_p h rfl rfl rfl rfl
                obtain ⟨f, g, h⟩ := h
                replace hf := Nat.lt_trans g hf
                clear g
                replace h : EV F f 180 z180 87 [some (rf 11 (0)), some (rf 13 (15)), some (rf 13 (17)), some (.inl (u3)), some (.inl (u4)), some (.inl (v4)), some (.inl (Int32.ofInt 0))] [.inl (v4)] τ (w, σ') := h
                replace h := ei_p h rfl rfl rfl rfl
                obtain ⟨f, g, h⟩ := h
                replace hf := Nat.lt_trans g hf
                clear g
                replace h : EV F f 180 z180 89 [some (rf 11 (0)), some (rf 13 (15)), some (rf 13 (17)), some (.inl (u3)), some (.inl (u4)), some (.inl (v4)), some (.inl (Int32.ofInt 0))] [.inl (Int32.ofInt 10), .inl (v4)] τ (w, σ') := h
                replace h := ei_irem h rfl
                obtain ⟨hd18, f, g, h⟩ := h
                replace hf := Nat.lt_trans g hf
                clear g
                replace h : EV F f 180 z180 90 [some (rf 11 (0)), some (rf 13 (15)), some (rf 13 (17)), some (.inl (u3)), some (.inl (u4)), some (.inl (v4)), some (.inl (Int32.ofInt 0))] [.inl ((v4) - (v4) / (Int32.ofInt 10) * (Int32.ofInt 10))] τ (w, σ') := h
                replace h := ei_c h rfl rfl rfl
                rcases h with ⟨hp19, f, g, h⟩ | ⟨hp19, f, g, h⟩
                · skip
                  replace hp19 : ((v4) - (v4) / (Int32.ofInt 10) * (Int32.ofInt 10)).toInt ≠ (0 : Int) := ic_ne.mp hp19
                  refine Or.inl ⟨hp19, ?_⟩
                  replace hf := Nat.lt_trans g hf
                  clear g
                  replace h : EV F f 180 z180 97 [some (rf 11 (0)), some (rf 13 (15)), some (rf 13 (17)), some (.inl (u3)), some (.inl (u4)), some (.inl (v4)), some (.inl (Int32.ofInt 0))] [] τ (w, σ') := h
                  replace h := ei_p h rfl rfl rfl rfl
                  obtain ⟨f, g, h⟩ := h
                  replace hf := Nat.lt_trans g hf
                  clear g
                  replace h : EV F f 180 z180 98 [some (rf 11 (0)), some (rf 13 (15)), some (rf 13 (17)), some (.inl (u3)), some (.inl (u4)), some (.inl (v4)), some (.inl (Int32.ofInt 0))] [.inl (Int32.ofInt 0)] τ (w, σ') := h
                  replace h := ei_p h rfl rfl rfl rfl
                  obtain ⟨f, g, h⟩ := h
                  replace hf := Nat.lt_trans g hf
                  clear g
                  replace h : EV F f 180 z180 100 [some (rf 11 (0)), some (rf 13 (15)), some (rf 13 (17)), some (.inl (u3)), some (.inl (u4)), some (.inl (v4)), some (.inl (Int32.ofInt 0))] [.inl (v4), .inl (Int32.ofInt 0)] τ (w, σ') := h
                  replace h := ei_p h rfl rfl rfl rfl
                  obtain ⟨f, g, h⟩ := h
                  replace hf := Nat.lt_trans g hf
                  clear g
                  replace h : EV F f 180 z180 102 [some (rf 11 (0)), some (rf 13 (15)), some (rf 13 (17)), some (.inl (u3)), some (.inl (u4)), some (.inl (v4)), some (.inl (Int32.ofInt 0))] [.inl (Int32.ofInt 10), .inl (v4), .inl (Int32.ofInt 0)] τ (w, σ') := h
                  replace h := ei_idiv h rfl
                  obtain ⟨hd20, f, g, h⟩ := h
                  replace hf := Nat.lt_trans g hf
                  clear g
                  replace h : EV F f 180 z180 103 [some (rf 11 (0)), some (rf 13 (15)), some (rf 13 (17)), some (.inl (u3)), some (.inl (u4)), some (.inl (v4)), some (.inl (Int32.ofInt 0))] [.inl ((v4) / (Int32.ofInt 10)), .inl (Int32.ofInt 0)] τ (w, σ') := h
                  replace h := ei_c h rfl rfl rfl
                  rcases h with ⟨hp21, f, g, h⟩ | ⟨hp21, f, g, h⟩
                  · skip
                    replace hp21 : ((v4) / (Int32.ofInt 10)).toInt ≠ (0 : Int) := ic_ne.mp hp21
                    refine Or.inl ⟨hp21, ?_⟩
                    replace hf := Nat.lt_trans g hf
                    clear g
                    replace h : EV F f 180 z180 110 [some (rf 11 (0)), some (rf 13 (15)), some (rf 13 (17)), some (.inl (u3)), some (.inl (u4)), some (.inl (v4)), some (.inl (Int32.ofInt 0))] [.inl (Int32.ofInt 0)] τ (w, σ') := h
                    replace h := ei_p h rfl rfl rfl rfl
                    obtain ⟨f, g, h⟩ := h
                    replace hf := Nat.lt_trans g hf
                    clear g
                    replace h : EV F f 180 z180 111 [some (rf 11 (0)), some (rf 13 (15)), some (rf 13 (17)), some (.inl (u3)), some (.inl (u4)), some (.inl (v4)), some (.inl (Int32.ofInt 0))] [.inl (Int32.ofInt 0), .inl (Int32.ofInt 0)] τ (w, σ') := h
                    replace h := ei_c h rfl rfl rfl
                    rcases h with ⟨hp22, f, g, h⟩ | ⟨hp22, f, g, h⟩
                    · exact absurd (ic_ne.mp hp22) (by decide)
                    · skip
                      replace hf := Nat.lt_trans g hf
                      clear g
                      replace h : EV F f 180 z180 114 [some (rf 11 (0)), some (rf 13 (15)), some (rf 13 (17)), some (.inl (u3)), some (.inl (u4)), some (.inl (v4)), some (.inl (Int32.ofInt 0))] [] τ (w, σ') := h
                      replace h := ei_p h rfl rfl rfl rfl
                      obtain ⟨f, g, h⟩ := h
                      replace hf := Nat.lt_trans g hf
                      clear g
                      replace h : EV F f 180 z180 116 [some (rf 11 (0)), some (rf 13 (15)), some (rf 13 (17)), some (.inl (u3)), some (.inl (u4)), some (.inl (v4)), some (.inl (Int32.ofInt 0))] [.inl (Int32.ofInt 0)] τ (w, σ') := h
                      replace h := ei_c h rfl rfl rfl
                      rcases h with ⟨hp23, f, g, h⟩ | ⟨hp23, f, g, h⟩
                      · skip
                        replace hf := Nat.lt_trans g hf
                        clear g
                        replace h : EV F f 180 z180 124 [some (rf 11 (0)), some (rf 13 (15)), some (rf 13 (17)), some (.inl (u3)), some (.inl (u4)), some (.inl (v4)), some (.inl (Int32.ofInt 0))] [] τ (w, σ') := h
                        replace h := ei_p h rfl rfl rfl rfl
                        obtain ⟨f, g, h⟩ := h
                        replace hf := Nat.lt_trans g hf
                        clear g
                        replace h : EV F f 180 z180 125 [some (rf 11 (0)), some (rf 13 (15)), some (rf 13 (17)), some (.inl (u3)), some (.inl (u4)), some (.inl (v4)), some (.inl (Int32.ofInt 0))] [.inl (Int32.ofInt 1)] τ (w, σ') := h
                        replace h := ei_p h rfl rfl rfl rfl
                        obtain ⟨f, g, h⟩ := h
                        replace hf := Nat.lt_trans g hf
                        clear g
                        replace h : EV F f 180 z180 129 [some (rf 11 (0)), some (rf 13 (15)), some (rf 13 (17)), some (.inl (u3)), some (.inl (u4)), some (.inl (v4)), some (.inl (Int32.ofInt 0))] [.inl (Int32.ofInt 1)] τ (w, σ') := h
                        replace h := ei_p h rfl rfl rfl rfl
                        obtain ⟨f, g, h⟩ := h
                        replace hf := Nat.lt_trans g hf
                        clear g
                        replace h : EV F f 180 z180 130 [some (rf 11 (0)), some (rf 13 (15)), some (rf 13 (17)), some (.inl (Int32.ofInt 1)), some (.inl (u4)), some (.inl (v4)), some (.inl (Int32.ofInt 0))] [] τ (w, σ') := h
                        replace h := ei_p h rfl rfl rfl rfl
                        obtain ⟨f, g, h⟩ := h
                        replace hf := Nat.lt_trans g hf
                        clear g
                        replace h : EV F f 180 z180 133 [some (rf 11 (0)), some (rf 13 (15)), some (rf 13 (17)), some (.inl (Int32.ofInt 1)), some (.inl ((u4) + Int32.ofInt 1)), some (.inl (v4)), some (.inl (Int32.ofInt 0))] [] τ (w, σ') := h
                        replace h := ei_p h rfl rfl rfl rfl
                        obtain ⟨f, g, h⟩ := h
                        replace hf := Nat.lt_trans g hf
                        clear g
                        replace h : EV F f 180 z180 31 [some (rf 11 (0)), some (rf 13 (15)), some (rf 13 (17)), some (.inl (Int32.ofInt 1)), some (.inl ((u4) + Int32.ofInt 1)), some (.inl (v4)), some (.inl (Int32.ofInt 0))] [] τ (w, σ') := h
                        exact IH f hf (Int32.ofInt 1) ((u4) + Int32.ofInt 1) (some (.inl (v4))) (some (.inl (Int32.ofInt 0))) τ hsτ h
                      · exact absurd (ic_eq.mpr (by decide)) hp23
                  · skip
                    replace hp21 : ¬ (((v4) / (Int32.ofInt 10)).toInt ≠ (0 : Int)) := (not_congr ic_ne).mp hp21
                    refine Or.inr ⟨hp21, ?_⟩
                    replace hf := Nat.lt_trans g hf
                    clear g
                    replace h : EV F f 180 z180 106 [some (rf 11 (0)), some (rf 13 (15)), some (rf 13 (17)), some (.inl (u3)), some (.inl (u4)), some (.inl (v4)), some (.inl (Int32.ofInt 0))] [.inl (Int32.ofInt 0)] τ (w, σ') := h
                    replace h := ei_p h rfl rfl rfl rfl
                    obtain ⟨f, g, h⟩ := h
                    replace hf := Nat.lt_trans g hf
                    clear g
                    replace h : EV F f 180 z180 107 [some (rf 11 (0)), some (rf 13 (15)), some (rf 13 (17)), some (.inl (u3)), some (.inl (u4)), some (.inl (v4)), some (.inl (Int32.ofInt 0))] [.inl (Int32.ofInt 1), .inl (Int32.ofInt 0)] τ (w, σ') := h
                    replace h := ei_p h rfl rfl rfl rfl
                    obtain ⟨f, g, h⟩ := h
                    replace hf := Nat.lt_trans g hf
                    clear g
                    replace h : EV F f 180 z180 111 [some (rf 11 (0)), some (rf 13 (15)), some (rf 13 (17)), some (.inl (u3)), some (.inl (u4)), some (.inl (v4)), some (.inl (Int32.ofInt 0))] [.inl (Int32.ofInt 1), .inl (Int32.ofInt 0)] τ (w, σ') := h
                    replace h := ei_c h rfl rfl rfl
                    rcases h with ⟨hp24, f, g, h⟩ | ⟨hp24, f, g, h⟩
                    · skip
                      replace hf := Nat.lt_trans g hf
                      clear g
                      replace h : EV F f 180 z180 128 [some (rf 11 (0)), some (rf 13 (15)), some (rf 13 (17)), some (.inl (u3)), some (.inl (u4)), some (.inl (v4)), some (.inl (Int32.ofInt 0))] [] τ (w, σ') := h
                      replace h := ei_p h rfl rfl rfl rfl
                      obtain ⟨f, g, h⟩ := h
                      replace hf := Nat.lt_trans g hf
                      clear g
                      replace h : EV F f 180 z180 129 [some (rf 11 (0)), some (rf 13 (15)), some (rf 13 (17)), some (.inl (u3)), some (.inl (u4)), some (.inl (v4)), some (.inl (Int32.ofInt 0))] [.inl (Int32.ofInt 0)] τ (w, σ') := h
                      replace h := ei_p h rfl rfl rfl rfl
                      obtain ⟨f, g, h⟩ := h
                      replace hf := Nat.lt_trans g hf
                      clear g
                      replace h : EV F f 180 z180 130 [some (rf 11 (0)), some (rf 13 (15)), some (rf 13 (17)), some (.inl (Int32.ofInt 0)), some (.inl (u4)), some (.inl (v4)), some (.inl (Int32.ofInt 0))] [] τ (w, σ') := h
                      replace h := ei_p h rfl rfl rfl rfl
                      obtain ⟨f, g, h⟩ := h
                      replace hf := Nat.lt_trans g hf
                      clear g
                      replace h : EV F f 180 z180 133 [some (rf 11 (0)), some (rf 13 (15)), some (rf 13 (17)), some (.inl (Int32.ofInt 0)), some (.inl ((u4) + Int32.ofInt 1)), some (.inl (v4)), some (.inl (Int32.ofInt 0))] [] τ (w, σ') := h
                      replace h := ei_p h rfl rfl rfl rfl
                      obtain ⟨f, g, h⟩ := h
                      replace hf := Nat.lt_trans g hf
                      clear g
                      replace h : EV F f 180 z180 31 [some (rf 11 (0)), some (rf 13 (15)), some (rf 13 (17)), some (.inl (Int32.ofInt 0)), some (.inl ((u4) + Int32.ofInt 1)), some (.inl (v4)), some (.inl (Int32.ofInt 0))] [] τ (w, σ') := h
                      exact IH f hf (Int32.ofInt 0) ((u4) + Int32.ofInt 1) (some (.inl (v4))) (some (.inl (Int32.ofInt 0))) τ hsτ h
                    · exact absurd (ic_ne.mpr (by decide)) hp24
                · skip
                  replace hp19 : ¬ (((v4) - (v4) / (Int32.ofInt 10) * (Int32.ofInt 10)).toInt ≠ (0 : Int)) := (not_congr ic_ne).mp hp19
                  refine Or.inr ⟨hp19, ?_⟩
                  replace hf := Nat.lt_trans g hf
                  clear g
                  replace h : EV F f 180 z180 93 [some (rf 11 (0)), some (rf 13 (15)), some (rf 13 (17)), some (.inl (u3)), some (.inl (u4)), some (.inl (v4)), some (.inl (Int32.ofInt 0))] [] τ (w, σ') := h
                  replace h := ei_p h rfl rfl rfl rfl
                  obtain ⟨f, g, h⟩ := h
                  replace hf := Nat.lt_trans g hf
                  clear g
                  replace h : EV F f 180 z180 94 [some (rf 11 (0)), some (rf 13 (15)), some (rf 13 (17)), some (.inl (u3)), some (.inl (u4)), some (.inl (v4)), some (.inl (Int32.ofInt 0))] [.inl (Int32.ofInt 1)] τ (w, σ') := h
                  replace h := ei_p h rfl rfl rfl rfl
                  obtain ⟨f, g, h⟩ := h
                  replace hf := Nat.lt_trans g hf
                  clear g
                  replace h : EV F f 180 z180 98 [some (rf 11 (0)), some (rf 13 (15)), some (rf 13 (17)), some (.inl (u3)), some (.inl (u4)), some (.inl (v4)), some (.inl (Int32.ofInt 0))] [.inl (Int32.ofInt 1)] τ (w, σ') := h
                  replace h := ei_p h rfl rfl rfl rfl
                  obtain ⟨f, g, h⟩ := h
                  replace hf := Nat.lt_trans g hf
                  clear g
                  replace h : EV F f 180 z180 100 [some (rf 11 (0)), some (rf 13 (15)), some (rf 13 (17)), some (.inl (u3)), some (.inl (u4)), some (.inl (v4)), some (.inl (Int32.ofInt 0))] [.inl (v4), .inl (Int32.ofInt 1)] τ (w, σ') := h
                  replace h := ei_p h rfl rfl rfl rfl
                  obtain ⟨f, g, h⟩ := h
                  replace hf := Nat.lt_trans g hf
                  clear g
                  replace h : EV F f 180 z180 102 [some (rf 11 (0)), some (rf 13 (15)), some (rf 13 (17)), some (.inl (u3)), some (.inl (u4)), some (.inl (v4)), some (.inl (Int32.ofInt 0))] [.inl (Int32.ofInt 10), .inl (v4), .inl (Int32.ofInt 1)] τ (w, σ') := h
                  replace h := ei_idiv h rfl
                  obtain ⟨hd25, f, g, h⟩ := h
                  replace hf := Nat.lt_trans g hf
                  clear g
                  replace h : EV F f 180 z180 103 [some (rf 11 (0)), some (rf 13 (15)), some (rf 13 (17)), some (.inl (u3)), some (.inl (u4)), some (.inl (v4)), some (.inl (Int32.ofInt 0))] [.inl ((v4) / (Int32.ofInt 10)), .inl (Int32.ofInt 1)] τ (w, σ') := h
                  replace h := ei_c h rfl rfl rfl
                  rcases h with ⟨hp26, f, g, h⟩ | ⟨hp26, f, g, h⟩
                  · skip
                    replace hp26 : ((v4) / (Int32.ofInt 10)).toInt ≠ (0 : Int) := ic_ne.mp hp26
                    refine Or.inl ⟨hp26, ?_⟩
                    replace hf := Nat.lt_trans g hf
                    clear g
                    replace h : EV F f 180 z180 110 [some (rf 11 (0)), some (rf 13 (15)), some (rf 13 (17)), some (.inl (u3)), some (.inl (u4)), some (.inl (v4)), some (.inl (Int32.ofInt 0))] [.inl (Int32.ofInt 1)] τ (w, σ') := h
                    replace h := ei_p h rfl rfl rfl rfl
                    obtain ⟨f, g, h⟩ := h
                    replace hf := Nat.lt_trans g hf
                    clear g
                    replace h : EV F f 180 z180 111 [some (rf 11 (0)), some (rf 13 (15)), some (rf 13 (17)), some (.inl (u3)), some (.inl (u4)), some (.inl (v4)), some (.inl (Int32.ofInt 0))] [.inl (Int32.ofInt 0), .inl (Int32.ofInt 1)] τ (w, σ') := h
                    replace h := ei_c h rfl rfl rfl
                    rcases h with ⟨hp27, f, g, h⟩ | ⟨hp27, f, g, h⟩
                    · skip
                      replace hf := Nat.lt_trans g hf
                      clear g
                      replace h : EV F f 180 z180 128 [some (rf 11 (0)), some (rf 13 (15)), some (rf 13 (17)), some (.inl (u3)), some (.inl (u4)), some (.inl (v4)), some (.inl (Int32.ofInt 0))] [] τ (w, σ') := h
                      replace h := ei_p h rfl rfl rfl rfl
                      obtain ⟨f, g, h⟩ := h
                      replace hf := Nat.lt_trans g hf
                      clear g
                      replace h : EV F f 180 z180 129 [some (rf 11 (0)), some (rf 13 (15)), some (rf 13 (17)), some (.inl (u3)), some (.inl (u4)), some (.inl (v4)), some (.inl (Int32.ofInt 0))] [.inl (Int32.ofInt 0)] τ (w, σ') := h
                      replace h := ei_p h rfl rfl rfl rfl
                      obtain ⟨f, g, h⟩ := h
                      replace hf := Nat.lt_trans g hf
                      clear g
                      replace h : EV F f 180 z180 130 [some (rf 11 (0)), some (rf 13 (15)), some (rf 13 (17)), some (.inl (Int32.ofInt 0)), some (.inl (u4)), some (.inl (v4)), some (.inl (Int32.ofInt 0))] [] τ (w, σ') := h
                      replace h := ei_p h rfl rfl rfl rfl
                      obtain ⟨f, g, h⟩ := h
                      replace hf := Nat.lt_trans g hf
                      clear g
                      replace h : EV F f 180 z180 133 [some (rf 11 (0)), some (rf 13 (15)), some (rf 13 (17)), some (.inl (Int32.ofInt 0)), some (.inl ((u4) + Int32.ofInt 1)), some (.inl (v4)), some (.inl (Int32.ofInt 0))] [] τ (w, σ') := h
                      replace h := ei_p h rfl rfl rfl rfl
                      obtain ⟨f, g, h⟩ := h
                      replace hf := Nat.lt_trans g hf
                      clear g
                      replace h : EV F f 180 z180 31 [some (rf 11 (0)), some (rf 13 (15)), some (rf 13 (17)), some (.inl (Int32.ofInt 0)), some (.inl ((u4) + Int32.ofInt 1)), some (.inl (v4)), some (.inl (Int32.ofInt 0))] [] τ (w, σ') := h
                      exact IH f hf (Int32.ofInt 0) ((u4) + Int32.ofInt 1) (some (.inl (v4))) (some (.inl (Int32.ofInt 0))) τ hsτ h
                    · exact absurd (ic_ne.mpr (by decide)) hp27
                  · skip
                    replace hp26 : ¬ (((v4) / (Int32.ofInt 10)).toInt ≠ (0 : Int)) := (not_congr ic_ne).mp hp26
                    refine Or.inr ⟨hp26, ?_⟩
                    replace hf := Nat.lt_trans g hf
                    clear g
                    replace h : EV F f 180 z180 106 [some (rf 11 (0)), some (rf 13 (15)), some (rf 13 (17)), some (.inl (u3)), some (.inl (u4)), some (.inl (v4)), some (.inl (Int32.ofInt 0))] [.inl (Int32.ofInt 1)] τ (w, σ') := h
                    replace h := ei_p h rfl rfl rfl rfl
                    obtain ⟨f, g, h⟩ := h
                    replace hf := Nat.lt_trans g hf
                    clear g
                    replace h : EV F f 180 z180 107 [some (rf 11 (0)), some (rf 13 (15)), some (rf 13 (17)), some (.inl (u3)), some (.inl (u4)), some (.inl (v4)), some (.inl (Int32.ofInt 0))] [.inl (Int32.ofInt 1), .inl (Int32.ofInt 1)] τ (w, σ') := h
                    replace h := ei_p h rfl rfl rfl rfl
                    obtain ⟨f, g, h⟩ := h
                    replace hf := Nat.lt_trans g hf
                    clear g
                    replace h : EV F f 180 z180 111 [some (rf 11 (0)), some (rf 13 (15)), some (rf 13 (17)), some (.inl (u3)), some (.inl (u4)), some (.inl (v4)), some (.inl (Int32.ofInt 0))] [.inl (Int32.ofInt 1), .inl (Int32.ofInt 1)] τ (w, σ') := h
                    replace h := ei_c h rfl rfl rfl
                    rcases h with ⟨hp28, f, g, h⟩ | ⟨hp28, f, g, h⟩
                    · exact absurd (ic_ne.mp hp28) (by decide)
                    · skip
                      replace hf := Nat.lt_trans g hf
                      clear g
                      replace h : EV F f 180 z180 114 [some (rf 11 (0)), some (rf 13 (15)), some (rf 13 (17)), some (.inl (u3)), some (.inl (u4)), some (.inl (v4)), some (.inl (Int32.ofInt 0))] [] τ (w, σ') := h
                      replace h := ei_p h rfl rfl rfl rfl
                      obtain ⟨f, g, h⟩ := h
                      replace hf := Nat.lt_trans g hf
                      clear g
                      replace h : EV F f 180 z180 116 [some (rf 11 (0)), some (rf 13 (15)), some (rf 13 (17)), some (.inl (u3)), some (.inl (u4)), some (.inl (v4)), some (.inl (Int32.ofInt 0))] [.inl (Int32.ofInt 0)] τ (w, σ') := h
                      replace h := ei_c h rfl rfl rfl
                      rcases h with ⟨hp29, f, g, h⟩ | ⟨hp29, f, g, h⟩
                      · skip
                        replace hf := Nat.lt_trans g hf
                        clear g
                        replace h : EV F f 180 z180 124 [some (rf 11 (0)), some (rf 13 (15)), some (rf 13 (17)), some (.inl (u3)), some (.inl (u4)), some (.inl (v4)), some (.inl (Int32.ofInt 0))] [] τ (w, σ') := h
                        replace h := ei_p h rfl rfl rfl rfl
                        obtain ⟨f, g, h⟩ := h
                        replace hf := Nat.lt_trans g hf
                        clear g
                        replace h : EV F f 180 z180 125 [some (rf 11 (0)), some (rf 13 (15)), some (rf 13 (17)), some (.inl (u3)), some (.inl (u4)), some (.inl (v4)), some (.inl (Int32.ofInt 0))] [.inl (Int32.ofInt 1)] τ (w, σ') := h
                        replace h := ei_p h rfl rfl rfl rfl
                        obtain ⟨f, g, h⟩ := h
                        replace hf := Nat.lt_trans g hf
                        clear g
                        replace h : EV F f 180 z180 129 [some (rf 11 (0)), some (rf 13 (15)), some (rf 13 (17)), some (.inl (u3)), some (.inl (u4)), some (.inl (v4)), some (.inl (Int32.ofInt 0))] [.inl (Int32.ofInt 1)] τ (w, σ') := h
                        replace h := ei_p h rfl rfl rfl rfl
                        obtain ⟨f, g, h⟩ := h
                        replace hf := Nat.lt_trans g hf
                        clear g
                        replace h : EV F f 180 z180 130 [some (rf 11 (0)), some (rf 13 (15)), some (rf 13 (17)), some (.inl (Int32.ofInt 1)), some (.inl (u4)), some (.inl (v4)), some (.inl (Int32.ofInt 0))] [] τ (w, σ') := h
                        replace h := ei_p h rfl rfl rfl rfl
                        obtain ⟨f, g, h⟩ := h
                        replace hf := Nat.lt_trans g hf
                        clear g
                        replace h : EV F f 180 z180 133 [some (rf 11 (0)), some (rf 13 (15)), some (rf 13 (17)), some (.inl (Int32.ofInt 1)), some (.inl ((u4) + Int32.ofInt 1)), some (.inl (v4)), some (.inl (Int32.ofInt 0))] [] τ (w, σ') := h
                        replace h := ei_p h rfl rfl rfl rfl
                        obtain ⟨f, g, h⟩ := h
                        replace hf := Nat.lt_trans g hf
                        clear g
                        replace h : EV F f 180 z180 31 [some (rf 11 (0)), some (rf 13 (15)), some (rf 13 (17)), some (.inl (Int32.ofInt 1)), some (.inl ((u4) + Int32.ofInt 1)), some (.inl (v4)), some (.inl (Int32.ofInt 0))] [] τ (w, σ') := h
                        exact IH f hf (Int32.ofInt 1) ((u4) + Int32.ofInt 1) (some (.inl (v4))) (some (.inl (Int32.ofInt 0))) τ hsτ h
                      · exact absurd (ic_eq.mpr (by decide)) hp29
            · skip
              replace hp15 : ¬ (((v10) - (v10) / (Int32.ofInt 10) * (Int32.ofInt 10)).toInt ≤ (1 : Int)) := (not_congr ic_le).mp hp15
              refine Or.inr ⟨hp15, ?_⟩
              replace hf := Nat.lt_trans g hf
              clear g
              replace h : EV F f 180 z180 69 [some (rf 11 (0)), some (rf 13 (15)), some (rf 13 (17)), some (.inl (u3)), some (.inl (u4)), some (.inl (v4)), y6] [] τ (w, σ') := h
              replace h := ei_p h rfl rfl rfl rfl
              obtain ⟨f, g, h⟩ := h
              replace hf := Nat.lt_trans g hf
              clear g
              replace h : EV F f 180 z180 70 [some (rf 11 (0)), some (rf 13 (15)), some (rf 13 (17)), some (.inl (u3)), some (.inl (u4)), some (.inl (v4)), y6] [.inl (Int32.ofInt 1)] τ (w, σ') := h
              replace h := ei_p h rfl rfl rfl rfl
              obtain ⟨f, g, h⟩ := h
              replace hf := Nat.lt_trans g hf
              clear g
              replace h : EV F f 180 z180 74 [some (rf 11 (0)), some (rf 13 (15)), some (rf 13 (17)), some (.inl (u3)), some (.inl (u4)), some (.inl (v4)), y6] [.inl (Int32.ofInt 1)] τ (w, σ') := h
              replace h := ei_p h rfl rfl rfl rfl
              obtain ⟨f, g, h⟩ := h
              replace hf := Nat.lt_trans g hf
              clear g
              replace h : EV F f 180 z180 76 [some (rf 11 (0)), some (rf 13 (15)), some (rf 13 (17)), some (.inl (u3)), some (.inl (u4)), some (.inl (v4)), some (.inl (Int32.ofInt 1))] [] τ (w, σ') := h
              replace h := ei_p h rfl rfl rfl rfl
              obtain ⟨f, g, h⟩ := h
              replace hf := Nat.lt_trans g hf
              clear g
              replace h : EV F f 180 z180 78 [some (rf 11 (0)), some (rf 13 (15)), some (rf 13 (17)), some (.inl (u3)), some (.inl (u4)), some (.inl (v4)), some (.inl (Int32.ofInt 1))] [.inl (v4)] τ (w, σ') := h
              replace h := ei_p h rfl rfl rfl rfl
              obtain ⟨f, g, h⟩ := h
              replace hf := Nat.lt_trans g hf
              clear g
              replace h : EV F f 180 z180 80 [some (rf 11 (0)), some (rf 13 (15)), some (rf 13 (17)), some (.inl (u3)), some (.inl (u4)), some (.inl (v4)), some (.inl (Int32.ofInt 1))] [.inl (Int32.ofInt 10), .inl (v4)] τ (w, σ') := h
              replace h := ei_irem h rfl
              obtain ⟨hd30, f, g, h⟩ := h
              replace hf := Nat.lt_trans g hf
              clear g
              replace h : EV F f 180 z180 81 [some (rf 11 (0)), some (rf 13 (15)), some (rf 13 (17)), some (.inl (u3)), some (.inl (u4)), some (.inl (v4)), some (.inl (Int32.ofInt 1))] [.inl ((v4) - (v4) / (Int32.ofInt 10) * (Int32.ofInt 10))] τ (w, σ') := h
              replace h := ei_p h rfl rfl rfl rfl
              obtain ⟨f, g, h⟩ := h
              replace hf := Nat.lt_trans g hf
              clear g
              replace h : EV F f 180 z180 82 [some (rf 11 (0)), some (rf 13 (15)), some (rf 13 (17)), some (.inl (u3)), some (.inl (u4)), some (.inl (v4)), some (.inl (Int32.ofInt 1))] [.inl (Int32.ofInt 3), .inl ((v4) - (v4) / (Int32.ofInt 10) * (Int32.ofInt 10))] τ (w, σ') := h
              replace h := ei_c h rfl rfl rfl
              rcases h with ⟨hp31, f, g, h⟩ | ⟨hp31, f, g, h⟩
              · skip
                replace hp31 : (3 : Int) ≤ ((v4) - (v4) / (Int32.ofInt 10) * (Int32.ofInt 10)).toInt := ic_ge.mp hp31
                refine Or.inl ⟨hp31, ?_⟩
                replace hf := Nat.lt_trans g hf
                clear g
                replace h : EV F f 180 z180 128 [some (rf 11 (0)), some (rf 13 (15)), some (rf 13 (17)), some (.inl (u3)), some (.inl (u4)), some (.inl (v4)), some (.inl (Int32.ofInt 1))] [] τ (w, σ') := h
                replace h := ei_p h rfl rfl rfl rfl
                obtain ⟨f, g, h⟩ := h
                replace hf := Nat.lt_trans g hf
                clear g
                replace h : EV F f 180 z180 129 [some (rf 11 (0)), some (rf 13 (15)), some (rf 13 (17)), some (.inl (u3)), some (.inl (u4)), some (.inl (v4)), some (.inl (Int32.ofInt 1))] [.inl (Int32.ofInt 0)] τ (w, σ') := h
                replace h := ei_p h rfl rfl rfl rfl
                obtain ⟨f, g, h⟩ := h
                replace hf := Nat.lt_trans g hf
                clear g
                replace h : EV F f 180 z180 130 [some (rf 11 (0)), some (rf 13 (15)), some (rf 13 (17)), some (.inl (Int32.ofInt 0)), some (.inl (u4)), some (.inl (v4)), some (.inl (Int32.ofInt 1))] [] τ (w, σ') := h
                replace h := ei_p h rfl rfl rfl rfl
                obtain ⟨f, g, h⟩ := h
                replace hf := Nat.lt_trans g hf
                clear g
                replace h : EV F f 180 z180 133 [some (rf 11 (0)), some (rf 13 (15)), some (rf 13 (17)), some (.inl (Int32.ofInt 0)), some (.inl ((u4) + Int32.ofInt 1)), some (.inl (v4)), some (.inl (Int32.ofInt 1))] [] τ (w, σ') := h
                replace h := ei_p h rfl rfl rfl rfl
                obtain ⟨f, g, h⟩ := h
                replace hf := Nat.lt_trans g hf
                clear g
                replace h : EV F f 180 z180 31 [some (rf 11 (0)), some (rf 13 (15)), some (rf 13 (17)), some (.inl (Int32.ofInt 0)), some (.inl ((u4) + Int32.ofInt 1)), some (.inl (v4)), some (.inl (Int32.ofInt 1))] [] τ (w, σ') := h
                exact IH f hf (Int32.ofInt 0) ((u4) + Int32.ofInt 1) (some (.inl (v4))) (some (.inl (Int32.ofInt 1))) τ hsτ h
              · skip
                replace hp31 : ¬ ((3 : Int) ≤ ((v4) - (v4) / (Int32.ofInt 10) * (Int32.ofInt 10)).toInt) := (not_congr ic_ge).mp hp31
                refine Or.inr ⟨hp31, ?_⟩
                replace hf := Nat.lt_trans g hf
                clear g
                replace h : EV F f 180 z180 85 [some (rf 11 (0)), some (rf 13 (15)), some (rf 13 (17)), some (.inl (u3)), some (.inl (u4)), some (.inl (v4)), some (.inl (Int32.ofInt 1))] [] τ (w, σ') := h
                replace h := ei_p h rfl rfl rfl rfl
                obtain ⟨f, g, h⟩ := h
                replace hf := Nat.lt_trans g hf
                clear g
                replace h : EV F f 180 z180 87 [some (rf 11 (0)), some (rf 13 (15)), some (rf 13 (17)), some (.inl (u3)), some (.inl (u4)), some (.inl (v4)), some (.inl (Int32.ofInt 1))] [.inl (v4)] τ (w, σ') := h
                replace h := ei_p h rfl rfl rfl rfl
                obtain ⟨f, g, h⟩ := h
                replace hf := Nat.lt_trans g hf
                clear g
                replace h : EV F f 180 z180 89 [some (rf 11 (0)), some (rf 13 (15)), some (rf 13 (17)), some (.inl (u3)), some (.inl (u4)), some (.inl (v4)), some (.inl (Int32.ofInt 1))] [.inl (Int32.ofInt 10), .inl (v4)] τ (w, σ') := h
                replace h := ei_irem h rfl
                obtain ⟨hd32, f, g, h⟩ := h
                replace hf := Nat.lt_trans g hf
                clear g
                replace h : EV F f 180 z180 90 [some (rf 11 (0)), some (rf 13 (15)), some (rf 13 (17)), some (.inl (u3)), some (.inl (u4)), some (.inl (v4)), some (.inl (Int32.ofInt 1))] [.inl ((v4) - (v4) / (Int32.ofInt 10) * (Int32.ofInt 10))] τ (w, σ') := h
                replace h := ei_c h rfl rfl rfl
                rcases h with ⟨hp33, f, g, h⟩ | ⟨hp33, f, g, h⟩
                · skip
                  replace hp33 : ((v4) - (v4) / (Int32.ofInt 10) * (Int32.ofInt 10)).toInt ≠ (0 : Int) := ic_ne.mp hp33
                  refine Or.inl ⟨hp33, ?_⟩
                  replace hf := Nat.lt_trans g hf
                  clear g
                  replace h : EV F f 180 z180 97 [some (rf 11 (0)), some (rf 13 (15)), some (rf 13 (17)), some (.inl (u3)), some (.inl (u4)), some (.inl (v4)), some (.inl (Int32.ofInt 1))] [] τ (w, σ') := h
                  replace h := ei_p h rfl rfl rfl rfl
                  obtain ⟨f, g, h⟩ := h
                  replace hf := Nat.lt_trans g hf
                  clear g
                  replace h : EV F f 180 z180 98 [some (rf 11 (0)), some (rf 13 (15)), some (rf 13 (17)), some (.inl (u3)), some (.inl (u4)), some (.inl (v4)), some (.inl (Int32.ofInt 1))] [.inl (Int32.ofInt 0)] τ (w, σ') := h
                  replace h := ei_p h rfl rfl rfl rfl
                  obtain ⟨f, g, h⟩ := h
                  replace hf := Nat.lt_trans g hf
                  clear g
                  replace h : EV F f 180 z180 100 [some (rf 11 (0)), some (rf 13 (15)), some (rf 13 (17)), some (.inl (u3)), some (.inl (u4)), some (.inl (v4)), some (.inl (Int32.ofInt 1))] [.inl (v4), .inl (Int32.ofInt 0)] τ (w, σ') := h
                  replace h := ei_p h rfl rfl rfl rfl
                  obtain ⟨f, g, h⟩ := h
                  replace hf := Nat.lt_trans g hf
                  clear g
                  replace h : EV F f 180 z180 102 [some (rf 11 (0)), some (rf 13 (15)), some (rf 13 (17)), some (.inl (u3)), some (.inl (u4)), some (.inl (v4)), some (.inl (Int32.ofInt 1))] [.inl (Int32.ofInt 10), .inl (v4), .inl (Int32.ofInt 0)] τ (w, σ') := h
                  replace h := ei_idiv h rfl
                  obtain ⟨hd34, f, g, h⟩ := h
                  replace hf := Nat.lt_trans g hf
                  clear g
                  replace h : EV F f 180 z180 103 [some (rf 11 (0)), some (rf 13 (15)), some (rf 13 (17)), some (.inl (u3)), some (.inl (u4)), some (.inl (v4)), some (.inl (Int32.ofInt 1))] [.inl ((v4) / (Int32.ofInt 10)), .inl (Int32.ofInt 0)] τ (w, σ') := h
                  replace h := ei_c h rfl rfl rfl
                  rcases h with ⟨hp35, f, g, h⟩ | ⟨hp35, f, g, h⟩
                  · skip
                    replace hp35 : ((v4) / (Int32.ofInt 10)).toInt ≠ (0 : Int) := ic_ne.mp hp35
                    refine Or.inl ⟨hp35, ?_⟩
                    replace hf := Nat.lt_trans g hf
                    clear g
                    replace h : EV F f 180 z180 110 [some (rf 11 (0)), some (rf 13 (15)), some (rf 13 (17)), some (.inl (u3)), some (.inl (u4)), some (.inl (v4)), some (.inl (Int32.ofInt 1))] [.inl (Int32.ofInt 0)] τ (w, σ') := h
                    replace h := ei_p h rfl rfl rfl rfl
                    obtain ⟨f, g, h⟩ := h
                    replace hf := Nat.lt_trans g hf
                    clear g
                    replace h : EV F f 180 z180 111 [some (rf 11 (0)), some (rf 13 (15)), some (rf 13 (17)), some (.inl (u3)), some (.inl (u4)), some (.inl (v4)), some (.inl (Int32.ofInt 1))] [.inl (Int32.ofInt 0), .inl (Int32.ofInt 0)] τ (w, σ') := h
                    replace h := ei_c h rfl rfl rfl
                    rcases h with ⟨hp36, f, g, h⟩ | ⟨hp36, f, g, h⟩
                    · exact absurd (ic_ne.mp hp36) (by decide)
                    · skip
                      replace hf := Nat.lt_trans g hf
                      clear g
                      replace h : EV F f 180 z180 114 [some (rf 11 (0)), some (rf 13 (15)), some (rf 13 (17)), some (.inl (u3)), some (.inl (u4)), some (.inl (v4)), some (.inl (Int32.ofInt 1))] [] τ (w, σ') := h
                      replace h := ei_p h rfl rfl rfl rfl
                      obtain ⟨f, g, h⟩ := h
                      replace hf := Nat.lt_trans g hf
                      clear g
                      replace h : EV F f 180 z180 116 [some (rf 11 (0)), some (rf 13 (15)), some (rf 13 (17)), some (.inl (u3)), some (.inl (u4)), some (.inl (v4)), some (.inl (Int32.ofInt 1))] [.inl (Int32.ofInt 1)] τ (w, σ') := h
                      replace h := ei_c h rfl rfl rfl
                      rcases h with ⟨hp37, f, g, h⟩ | ⟨hp37, f, g, h⟩
                      · exact absurd (ic_eq.mp hp37) (by decide)
                      · skip
                        replace hf := Nat.lt_trans g hf
                        clear g
                        replace h : EV F f 180 z180 119 [some (rf 11 (0)), some (rf 13 (15)), some (rf 13 (17)), some (.inl (u3)), some (.inl (u4)), some (.inl (v4)), some (.inl (Int32.ofInt 1))] [] τ (w, σ') := h
                        replace h := ei_p h rfl rfl rfl rfl
                        obtain ⟨f, g, h⟩ := h
                        replace hf := Nat.lt_trans g hf
                        clear g
                        replace h : EV F f 180 z180 121 [some (rf 11 (0)), some (rf 13 (15)), some (rf 13 (17)), some (.inl (u3)), some (.inl (u4)), some (.inl (v4)), some (.inl (Int32.ofInt 1))] [.inl (v4)] τ (w, σ') := h
                        replace h := ei_c h rfl rfl rfl
                        rcases h with ⟨hp38, f, g, h⟩ | ⟨hp38, f, g, h⟩
                        · skip
                          replace hp38 : (v4).toInt ≠ (0 : Int) := ic_ne.mp hp38
                          refine Or.inl ⟨hp38, ?_⟩
                          replace hf := Nat.lt_trans g hf
                          clear g
                          replace h : EV F f 180 z180 128 [some (rf 11 (0)), some (rf 13 (15)), some (rf 13 (17)), some (.inl (u3)), some (.inl (u4)), some (.inl (v4)), some (.inl (Int32.ofInt 1))] [] τ (w, σ') := h
                          replace h := ei_p h rfl rfl rfl rfl
                          obtain ⟨f, g, h⟩ := h
                          replace hf := Nat.lt_trans g hf
                          clear g
                          replace h : EV F f 180 z180 129 [some (rf 11 (0)), some (rf 13 (15)), some (rf 13 (17)), some (.inl (u3)), some (.inl (u4)), some (.inl (v4)), some (.inl (Int32.ofInt 1))] [.inl (Int32.ofInt 0)] τ (w, σ') := h
                          replace h := ei_p h rfl rfl rfl rfl
                          obtain ⟨f, g, h⟩ := h
                          replace hf := Nat.lt_trans g hf
                          clear g
                          replace h : EV F f 180 z180 130 [some (rf 11 (0)), some (rf 13 (15)), some (rf 13 (17)), some (.inl (Int32.ofInt 0)), some (.inl (u4)), some (.inl (v4)), some (.inl (Int32.ofInt 1))] [] τ (w, σ') := h
                          replace h := ei_p h rfl rfl rfl rfl
                          obtain ⟨f, g, h⟩ := h
                          replace hf := Nat.lt_trans g hf
                          clear g
                          replace h : EV F f 180 z180 133 [some (rf 11 (0)), some (rf 13 (15)), some (rf 13 (17)), some (.inl (Int32.ofInt 0)), some (.inl ((u4) + Int32.ofInt 1)), some (.inl (v4)), some (.inl (Int32.ofInt 1))] [] τ (w, σ') := h
                          replace h := ei_p h rfl rfl rfl rfl
                          obtain ⟨f, g, h⟩ := h
                          replace hf := Nat.lt_trans g hf
                          clear g
                          replace h : EV F f 180 z180 31 [some (rf 11 (0)), some (rf 13 (15)), some (rf 13 (17)), some (.inl (Int32.ofInt 0)), some (.inl ((u4) + Int32.ofInt 1)), some (.inl (v4)), some (.inl (Int32.ofInt 1))] [] τ (w, σ') := h
                          exact IH f hf (Int32.ofInt 0) ((u4) + Int32.ofInt 1) (some (.inl (v4))) (some (.inl (Int32.ofInt 1))) τ hsτ h
                        · skip
                          replace hp38 : ¬ ((v4).toInt ≠ (0 : Int)) := (not_congr ic_ne).mp hp38
                          refine Or.inr ⟨hp38, ?_⟩
                          replace hf := Nat.lt_trans g hf
                          clear g
                          replace h : EV F f 180 z180 124 [some (rf 11 (0)), some (rf 13 (15)), some (rf 13 (17)), some (.inl (u3)), some (.inl (u4)), some (.inl (v4)), some (.inl (Int32.ofInt 1))] [] τ (w, σ') := h
                          replace h := ei_p h rfl rfl rfl rfl
                          obtain ⟨f, g, h⟩ := h
                          replace hf := Nat.lt_trans g hf
                          clear g
                          replace h : EV F f 180 z180 125 [some (rf 11 (0)), some (rf 13 (15)), some (rf 13 (17)), some (.inl (u3)), some (.inl (u4)), some (.inl (v4)), some (.inl (Int32.ofInt 1))] [.inl (Int32.ofInt 1)] τ (w, σ') := h
                          replace h := ei_p h rfl rfl rfl rfl
                          obtain ⟨f, g, h⟩ := h
                          replace hf := Nat.lt_trans g hf
                          clear g
                          replace h : EV F f 180 z180 129 [some (rf 11 (0)), some (rf 13 (15)), some (rf 13 (17)), some (.inl (u3)), some (.inl (u4)), some (.inl (v4)), some (.inl (Int32.ofInt 1))] [.inl (Int32.ofInt 1)] τ (w, σ') := h
                          replace h := ei_p h rfl rfl rfl rfl
                          obtain ⟨f, g, h⟩ := h
                          replace hf := Nat.lt_trans g hf
                          clear g
                          replace h : EV F f 180 z180 130 [some (rf 11 (0)), some (rf 13 (15)), some (rf 13 (17)), some (.inl (Int32.ofInt 1)), some (.inl (u4)), some (.inl (v4)), some (.inl (Int32.ofInt 1))] [] τ (w, σ') := h
                          replace h := ei_p h rfl rfl rfl rfl
                          obtain ⟨f, g, h⟩ := h
                          replace hf := Nat.lt_trans g hf
                          clear g
                          replace h : EV F f 180 z180 133 [some (rf 11 (0)), some (rf 13 (15)), some (rf 13 (17)), some (.inl (Int32.ofInt 1)), some (.inl ((u4) + Int32.ofInt 1)), some (.inl (v4)), some (.inl (Int32.ofInt 1))] [] τ (w, σ') := h
                          replace h := ei_p h rfl rfl rfl rfl
                          obtain ⟨f, g, h⟩ := h
                          replace hf := Nat.lt_trans g hf
                          clear g
                          replace h : EV F f 180 z180 31 [some (rf 11 (0)), some (rf 13 (15)), some (rf 13 (17)), some (.inl (Int32.ofInt 1)), some (.inl ((u4) + Int32.ofInt 1)), some (.inl (v4)), some (.inl (Int32.ofInt 1))] [] τ (w, σ') := h
                          exact IH f hf (Int32.ofInt 1) ((u4) + Int32.ofInt 1) (some (.inl (v4))) (some (.inl (Int32.ofInt 1))) τ hsτ h
                  · skip
                    replace hp35 : ¬ (((v4) / (Int32.ofInt 10)).toInt ≠ (0 : Int)) := (not_congr ic_ne).mp hp35
                    refine Or.inr ⟨hp35, ?_⟩
                    replace hf := Nat.lt_trans g hf
                    clear g
                    replace h : EV F f 180 z180 106 [some (rf 11 (0)), some (rf 13 (15)), some (rf 13 (17)), some (.inl (u3)), some (.inl (u4)), some (.inl (v4)), some (.inl (Int32.ofInt 1))] [.inl (Int32.ofInt 0)] τ (w, σ') := h
                    replace h := ei_p h rfl rfl rfl rfl
                    obtain ⟨f, g, h⟩ := h
                    replace hf := Nat.lt_trans g hf
                    clear g
                    replace h : EV F f 180 z180 107 [some (rf 11 (0)), some (rf 13 (15)), some (rf 13 (17)), some (.inl (u3)), some (.inl (u4)), some (.inl (v4)), some (.inl (Int32.ofInt 1))] [.inl (Int32.ofInt 1), .inl (Int32.ofInt 0)] τ (w, σ') := h
                    replace h := ei_p h rfl rfl rfl rfl
                    obtain ⟨f, g, h⟩ := h
                    replace hf := Nat.lt_trans g hf
                    clear g
                    replace h : EV F f 180 z180 111 [some (rf 11 (0)), some (rf 13 (15)), some (rf 13 (17)), some (.inl (u3)), some (.inl (u4)), some (.inl (v4)), some (.inl (Int32.ofInt 1))] [.inl (Int32.ofInt 1), .inl (Int32.ofInt 0)] τ (w, σ') := h
                    replace h := ei_c h rfl rfl rfl
                    rcases h with ⟨hp39, f, g, h⟩ | ⟨hp39, f, g, h⟩
                    · skip
                      replace hf := Nat.lt_trans g hf
                      clear g
                      replace h : EV F f 180 z180 128 [some (rf 11 (0)), some (rf 13 (15)), some (rf 13 (17)), some (.inl (u3)), some (.inl (u4)), some (.inl (v4)), some (.inl (Int32.ofInt 1))] [] τ (w, σ') := h
                      replace h := ei_p h rfl rfl rfl rfl
                      obtain ⟨f, g, h⟩ := h
                      replace hf := Nat.lt_trans g hf
                      clear g
                      replace h : EV F f 180 z180 129 [some (rf 11 (0)), some (rf 13 (15)), some (rf 13 (17)), some (.inl (u3)), some (.inl (u4)), some (.inl (v4)), some (.inl (Int32.ofInt 1))] [.inl (Int32.ofInt 0)] τ (w, σ') := h
                      replace h := ei_p h rfl rfl rfl rfl
                      obtain ⟨f, g, h⟩ := h
                      replace hf := Nat.lt_trans g hf
                      clear g
                      replace h : EV F f 180 z180 130 [some (rf 11 (0)), some (rf 13 (15)), some (rf 13 (17)), some (.inl (Int32.ofInt 0)), some (.inl (u4)), some (.inl (v4)), some (.inl (Int32.ofInt 1))] [] τ (w, σ') := h
                      replace h := ei_p h rfl rfl rfl rfl
                      obtain ⟨f, g, h⟩ := h
                      replace hf := Nat.lt_trans g hf
                      clear g
                      replace h : EV F f 180 z180 133 [some (rf 11 (0)), some (rf 13 (15)), some (rf 13 (17)), some (.inl (Int32.ofInt 0)), some (.inl ((u4) + Int32.ofInt 1)), some (.inl (v4)), some (.inl (Int32.ofInt 1))] [] τ (w, σ') := h
                      replace h := ei_p h rfl rfl rfl rfl
                      obtain ⟨f, g, h⟩ := h
                      replace hf := Nat.lt_trans g hf
                      clear g
                      replace h : EV F f 180 z180 31 [some (rf 11 (0)), some (rf 13 (15)), some (rf 13 (17)), some (.inl (Int32.ofInt 0)), some (.inl ((u4) + Int32.ofInt 1)), some (.inl (v4)), some (.inl (Int32.ofInt 1))] [] τ (w, σ') := h
                      exact IH f hf (Int32.ofInt 0) ((u4) + Int32.ofInt 1) (some (.inl (v4))) (some (.inl (Int32.ofInt 1))) τ hsτ h
                    · exact absurd (ic_ne.mpr (by decide)) hp39
                · skip
                  replace hp33 : ¬ (((v4) - (v4) / (Int32.ofInt 10) * (Int32.ofInt 10)).toInt ≠ (0 : Int)) := (not_congr ic_ne).mp hp33
                  refine Or.inr ⟨hp33, ?_⟩
                  replace hf := Nat.lt_trans g hf
                  clear g
                  replace h : EV F f 180 z180 93 [some (rf 11 (0)), some (rf 13 (15)), some (rf 13 (17)), some (.inl (u3)), some (.inl (u4)), some (.inl (v4)), some (.inl (Int32.ofInt 1))] [] τ (w, σ') := h
                  replace h := ei_p h rfl rfl rfl rfl
                  obtain ⟨f, g, h⟩ := h
                  replace hf := Nat.lt_trans g hf
                  clear g
                  replace h : EV F f 180 z180 94 [some (rf 11 (0)), some (rf 13 (15)), some (rf 13 (17)), some (.inl (u3)), some (.inl (u4)), some (.inl (v4)), some (.inl (Int32.ofInt 1))] [.inl (Int32.ofInt 1)] τ (w, σ') := h
                  replace h := ei_p h rfl rfl rfl rfl
                  obtain ⟨f, g, h⟩ := h
                  replace hf := Nat.lt_trans g hf
                  clear g
                  replace h : EV F f 180 z180 98 [some (rf 11 (0)), some (rf 13 (15)), some (rf 13 (17)), some (.inl (u3)), some (.inl (u4)), some (.inl (v4)), some (.inl (Int32.ofInt 1))] [.inl (Int32.ofInt 1)] τ (w, σ') := h
                  replace h := ei_p h rfl rfl rfl rfl
                  obtain ⟨f, g, h⟩ := h
                  replace hf := Nat.lt_trans g hf
                  clear g
                  replace h : EV F f 180 z180 100 [some (rf 11 (0)), some (rf 13 (15)), some (rf 13 (17)), some (.inl (u3)), some (.inl (u4)), some (.inl (v4)), some (.inl (Int32.ofInt 1))] [.inl (v4), .inl (Int32.ofInt 1)] τ (w, σ') := h
                  replace h := ei_p h rfl rfl rfl rfl
                  obtain ⟨f, g, h⟩ := h
                  replace hf := Nat.lt_trans g hf
                  clear g
                  replace h : EV F f 180 z180 102 [some (rf 11 (0)), some (rf 13 (15)), some (rf 13 (17)), some (.inl (u3)), some (.inl (u4)), some (.inl (v4)), some (.inl (Int32.ofInt 1))] [.inl (Int32.ofInt 10), .inl (v4), .inl (Int32.ofInt 1)] τ (w, σ') := h
                  replace h := ei_idiv h rfl
                  obtain ⟨hd40, f, g, h⟩ := h
                  replace hf := Nat.lt_trans g hf
                  clear g
                  replace h : EV F f 180 z180 103 [some (rf 11 (0)), some (rf 13 (15)), some (rf 13 (17)), some (.inl (u3)), some (.inl (u4)), some (.inl (v4)), some (.inl (Int32.ofInt 1))] [.inl ((v4) / (Int32.ofInt 10)), .inl (Int32.ofInt 1)] τ (w, σ') := h
                  replace h := ei_c h rfl rfl rfl
                  rcases h with ⟨hp41, f, g, h⟩ | ⟨hp41, f, g, h⟩
                  · skip
                    replace hp41 : ((v4) / (Int32.ofInt 10)).toInt ≠ (0 : Int) := ic_ne.mp hp41
                    refine Or.inl ⟨hp41, ?_⟩
                    replace hf := Nat.lt_trans g hf
                    clear g
                    replace h : EV F f 180 z180 110 [some (rf 11 (0)), some (rf 13 (15)), some (rf 13 (17)), some (.inl (u3)), some (.inl (u4)), some (.inl (v4)), some (.inl (Int32.ofInt 1))] [.inl (Int32.ofInt 1)] τ (w, σ') := h
                    replace h := ei_p h rfl rfl rfl rfl
                    obtain ⟨f, g, h⟩ := h
                    replace hf := Nat.lt_trans g hf
                    clear g
                    replace h : EV F f 180 z180 111 [some (rf 11 (0)), some (rf 13 (15)), some (rf 13 (17)), some (.inl (u3)), some (.inl (u4)), some (.inl (v4)), some (.inl (Int32.ofInt 1))] [.inl (Int32.ofInt 0), .inl (Int32.ofInt 1)] τ (w, σ') := h
                    replace h := ei_c h rfl rfl rfl
                    rcases h with ⟨hp42, f, g, h⟩ | ⟨hp42, f, g, h⟩
                    · skip
                      replace hf := Nat.lt_trans g hf
                      clear g
                      replace h : EV F f 180 z180 128 [some (rf 11 (0)), some (rf 13 (15)), some (rf 13 (17)), some (.inl (u3)), some (.inl (u4)), some (.inl (v4)), some (.inl (Int32.ofInt 1))] [] τ (w, σ') := h
                      replace h := ei_p h rfl rfl rfl rfl
                      obtain ⟨f, g, h⟩ := h
                      replace hf := Nat.lt_trans g hf
                      clear g
                      replace h : EV F f 180 z180 129 [some (rf 11 (0)), some (rf 13 (15)), some (rf 13 (17)), some (.inl (u3)), some (.inl (u4)), some (.inl (v4)), some (.inl (Int32.ofInt 1))] [.inl (Int32.ofInt 0)] τ (w, σ') := h
                      replace h := ei_p h rfl rfl rfl rfl
                      obtain ⟨f, g, h⟩ := h
                      replace hf := Nat.lt_trans g hf
                      clear g
                      replace h : EV F f 180 z180 130 [some (rf 11 (0)), some (rf 13 (15)), some (rf 13 (17)), some (.inl (Int32.ofInt 0)), some (.inl (u4)), some (.inl (v4)), some (.inl (Int32.ofInt 1))] [] τ (w, σ') := h
                      replace h := ei_p h rfl rfl rfl rfl
                      obtain ⟨f, g, h⟩ := h
                      replace hf := Nat.lt_trans g hf
                      clear g
                      replace h : EV F f 180 z180 133 [some (rf 11 (0)), some (rf 13 (15)), some (rf 13 (17)), some (.inl (Int32.ofInt 0)), some (.inl ((u4) + Int32.ofInt 1)), some (.inl (v4)), some (.inl (Int32.ofInt 1))] [] τ (w, σ') := h
                      replace h := ei_p h rfl rfl rfl rfl
                      obtain ⟨f, g, h⟩ := h
                      replace hf := Nat.lt_trans g hf
                      clear g
                      replace h : EV F f 180 z180 31 [some (rf 11 (0)), some (rf 13 (15)), some (rf 13 (17)), some (.inl (Int32.ofInt 0)), some (.inl ((u4) + Int32.ofInt 1)), some (.inl (v4)), some (.inl (Int32.ofInt 1))] [] τ (w, σ') := h
                      exact IH f hf (Int32.ofInt 0) ((u4) + Int32.ofInt 1) (some (.inl (v4))) (some (.inl (Int32.ofInt 1))) τ hsτ h
                    · exact absurd (ic_ne.mpr (by decide)) hp42
                  · skip
                    replace hp41 : ¬ (((v4) / (Int32.ofInt 10)).toInt ≠ (0 : Int)) := (not_congr ic_ne).mp hp41
                    refine Or.inr ⟨hp41, ?_⟩
                    replace hf := Nat.lt_trans g hf
                    clear g
                    replace h : EV F f 180 z180 106 [some (rf 11 (0)), some (rf 13 (15)), some (rf 13 (17)), some (.inl (u3)), some (.inl (u4)), some (.inl (v4)), some (.inl (Int32.ofInt 1))] [.inl (Int32.ofInt 1)] τ (w, σ') := h
                    replace h := ei_p h rfl rfl rfl rfl
                    obtain ⟨f, g, h⟩ := h
                    replace hf := Nat.lt_trans g hf
                    clear g
                    replace h : EV F f 180 z180 107 [some (rf 11 (0)), some (rf 13 (15)), some (rf 13 (17)), some (.inl (u3)), some (.inl (u4)), some (.inl (v4)), some (.inl (Int32.ofInt 1))] [.inl (Int32.ofInt 1), .inl (Int32.ofInt 1)] τ (w, σ') := h
                    replace h := ei_p h rfl rfl rfl rfl
                    obtain ⟨f, g, h⟩ := h
                    replace hf := Nat.lt_trans g hf
                    clear g
                    replace h : EV F f 180 z180 111 [some (rf 11 (0)), some (rf 13 (15)), some (rf 13 (17)), some (.inl (u3)), some (.inl (u4)), some (.inl (v4)), some (.inl (Int32.ofInt 1))] [.inl (Int32.ofInt 1), .inl (Int32.ofInt 1)] τ (w, σ') := h
                    replace h := ei_c h rfl rfl rfl
                    rcases h with ⟨hp43, f, g, h⟩ | ⟨hp43, f, g, h⟩
                    · exact absurd (ic_ne.mp hp43) (by decide)
                    · skip
                      replace hf := Nat.lt_trans g hf
                      clear g
                      replace h : EV F f 180 z180 114 [some (rf 11 (0)), some (rf 13 (15)), some (rf 13 (17)), some (.inl (u3)), some (.inl (u4)), some (.inl (v4)), some (.inl (Int32.ofInt 1))] [] τ (w, σ') := h
                      replace h := ei_p h rfl rfl rfl rfl
                      obtain ⟨f, g, h⟩ := h
                      replace hf := Nat.lt_trans g hf
                      clear g
                      replace h : EV F f 180 z180 116 [some (rf 11 (0)), some (rf 13 (15)), some (rf 13 (17)), some (.inl (u3)), some (.inl (u4)), some (.inl (v4)), some (.inl (Int32.ofInt 1))] [.inl (Int32.ofInt 1)] τ (w, σ') := h
                      replace h := ei_c h rfl rfl rfl
                      rcases h with ⟨hp44, f, g, h⟩ | ⟨hp44, f, g, h⟩
                      · exact absurd (ic_eq.mp hp44) (by decide)
                      · skip
                        replace hf := Nat.lt_trans g hf
                        clear g
                        replace h : EV F f 180 z180 119 [some (rf 11 (0)), some (rf 13 (15)), some (rf 13 (17)), some (.inl (u3)), some (.inl (u4)), some (.inl (v4)), some (.inl (Int32.ofInt 1))] [] τ (w, σ') := h
                        replace h := ei_p h rfl rfl rfl rfl
                        obtain ⟨f, g, h⟩ := h
                        replace hf := Nat.lt_trans g hf
                        clear g
                        replace h : EV F f 180 z180 121 [some (rf 11 (0)), some (rf 13 (15)), some (rf 13 (17)), some (.inl (u3)), some (.inl (u4)), some (.inl (v4)), some (.inl (Int32.ofInt 1))] [.inl (v4)] τ (w, σ') := h
                        replace h := ei_c h rfl rfl rfl
                        rcases h with ⟨hp45, f, g, h⟩ | ⟨hp45, f, g, h⟩
                        · skip
                          replace hp45 : (v4).toInt ≠ (0 : Int) := ic_ne.mp hp45
                          refine Or.inl ⟨hp45, ?_⟩
                          replace hf := Nat.lt_trans g hf
                          clear g
                          replace h : EV F f 180 z180 128 [some (rf 11 (0)), some (rf 13 (15)), some (rf 13 (17)), some (.inl (u3)), some (.inl (u4)), some (.inl (v4)), some (.inl (Int32.ofInt 1))] [] τ (w, σ') := h
                          replace h := ei_p h rfl rfl rfl rfl
                          obtain ⟨f, g, h⟩ := h
                          replace hf := Nat.lt_trans g hf
                          clear g
                          replace h : EV F f 180 z180 129 [some (rf 11 (0)), some (rf 13 (15)), some (rf 13 (17)), some (.inl (u3)), some (.inl (u4)), some (.inl (v4)), some (.inl (Int32.ofInt 1))] [.inl (Int32.ofInt 0)] τ (w, σ') := h
                          replace h := ei_p h rfl rfl rfl rfl
                          obtain ⟨f, g, h⟩ := h
                          replace hf := Nat.lt_trans g hf
                          clear g
                          replace h : EV F f 180 z180 130 [some (rf 11 (0)), some (rf 13 (15)), some (rf 13 (17)), some (.inl (Int32.ofInt 0)), some (.inl (u4)), some (.inl (v4)), some (.inl (Int32.ofInt 1))] [] τ (w, σ') := h
                          replace h := ei_p h rfl rfl rfl rfl
                          obtain ⟨f, g, h⟩ := h
                          replace hf := Nat.lt_trans g hf
                          clear g
                          replace h : EV F f 180 z180 133 [some (rf 11 (0)), some (rf 13 (15)), some (rf 13 (17)), some (.inl (Int32.ofInt 0)), some (.inl ((u4) + Int32.ofInt 1)), some (.inl (v4)), some (.inl (Int32.ofInt 1))] [] τ (w, σ') := h
                          replace h := ei_p h rfl rfl rfl rfl
                          obtain ⟨f, g, h⟩ := h
                          replace hf := Nat.lt_trans g hf
                          clear g
                          replace h : EV F f 180 z180 31 [some (rf 11 (0)), some (rf 13 (15)), some (rf 13 (17)), some (.inl (Int32.ofInt 0)), some (.inl ((u4) + Int32.ofInt 1)), some (.inl (v4)), some (.inl (Int32.ofInt 1))] [] τ (w, σ') := h
                          exact IH f hf (Int32.ofInt 0) ((u4) + Int32.ofInt 1) (some (.inl (v4))) (some (.inl (Int32.ofInt 1))) τ hsτ h
                        · skip
                          replace hp45 : ¬ ((v4).toInt ≠ (0 : Int)) := (not_congr ic_ne).mp hp45
                          refine Or.inr ⟨hp45, ?_⟩
                          replace hf := Nat.lt_trans g hf
                          clear g
                          replace h : EV F f 180 z180 124 [some (rf 11 (0)), some (rf 13 (15)), some (rf 13 (17)), some (.inl (u3)), some (.inl (u4)), some (.inl (v4)), some (.inl (Int32.ofInt 1))] [] τ (w, σ') := h
                          replace h := ei_p h rfl rfl rfl rfl
                          obtain ⟨f, g, h⟩ := h
                          replace hf := Nat.lt_trans g hf
                          clear g
                          replace h : EV F f 180 z180 125 [some (rf 11 (0)), some (rf 13 (15)), some (rf 13 (17)), some (.inl (u3)), some (.inl (u4)), some (.inl (v4)), some (.inl (Int32.ofInt 1))] [.inl (Int32.ofInt 1)] τ (w, σ') := h
                          replace h := ei_p h rfl rfl rfl rfl
                          obtain ⟨f, g, h⟩ := h
                          replace hf := Nat.lt_trans g hf
                          clear g
                          replace h : EV F f 180 z180 129 [some (rf 11 (0)), some (rf 13 (15)), some (rf 13 (17)), some (.inl (u3)), some (.inl (u4)), some (.inl (v4)), some (.inl (Int32.ofInt 1))] [.inl (Int32.ofInt 1)] τ (w, σ') := h
                          replace h := ei_p h rfl rfl rfl rfl
                          obtain ⟨f, g, h⟩ := h
                          replace hf := Nat.lt_trans g hf
                          clear g
                          replace h : EV F f 180 z180 130 [some (rf 11 (0)), some (rf 13 (15)), some (rf 13 (17)), some (.inl (Int32.ofInt 1)), some (.inl (u4)), some (.inl (v4)), some (.inl (Int32.ofInt 1))] [] τ (w, σ') := h
                          replace h := ei_p h rfl rfl rfl rfl
                          obtain ⟨f, g, h⟩ := h
                          replace hf := Nat.lt_trans g hf
                          clear g
                          replace h : EV F f 180 z180 133 [some (rf 11 (0)), some (rf 13 (15)), some (rf 13 (17)), some (.inl (Int32.ofInt 1)), some (.inl ((u4) + Int32.ofInt 1)), some (.inl (v4)), some (.inl (Int32.ofInt 1))] [] τ (w, σ') := h
                          replace h := ei_p h rfl rfl rfl rfl
                          obtain ⟨f, g, h⟩ := h
                          replace hf := Nat.lt_trans g hf
                          clear g
                          replace h : EV F f 180 z180 31 [some (rf 11 (0)), some (rf 13 (15)), some (rf 13 (17)), some (.inl (Int32.ofInt 1)), some (.inl ((u4) + Int32.ofInt 1)), some (.inl (v4)), some (.inl (Int32.ofInt 1))] [] τ (w, σ') := h
                          exact IH f hf (Int32.ofInt 1) ((u4) + Int32.ofInt 1) (some (.inl (v4))) (some (.inl (Int32.ofInt 1))) τ hsτ h
          · skip
            have er12 := ro2_run rfl r12
            rw [er12] at e r12
            have p13 := x149 hsτ.1 r12
            cases e
            exact Or.inr ⟨b, p13, rfl, rfl⟩
        · skip
          have er6 := ro2_run rfl r6
          rw [er6] at e r6
          have p7 := x131 hsτ.1 r6
          cases e
          exact Or.inr ⟨b, p7, rfl, rfl⟩
def J180_27 (t0 : Int32) (τ : mS) (w : mX) (σ' : mS) : Prop := ∃ n, Q180_31  n (t0) (Int32.ofInt 0) τ w σ'
set_option maxRecDepth 100000 in
theorem j180_27 {F f : Nat} {σ' τ : mS} {t0 : Int32} {y3 : Option mV} {y4 : Option mV} {y5 : Option mV} {y6 : Option mV} {w : mX} (hsτ : HL τ) (h : EV F f 180 z180 27 [some (rf 11 (0)), some (rf 13 (15)), some (rf 13 (17)), y3, y4, y5, y6] [.inl (t0)] τ (w, σ')) : J180_27 t0 τ w σ' := by
  unfold J180_27
  replace h := ei_p h rfl rfl rfl rfl
  obtain ⟨f, g, h⟩ := h
  clear g
  replace h : EV F f 180 z180 28 [some (rf 11 (0)), some (rf 13 (15)), some (rf 13 (17)), some (.inl (t0)), y4, y5, y6] [] τ (w, σ') := h
  replace h := ei_p h rfl rfl rfl rfl
  obtain ⟨f, g, h⟩ := h
  clear g
  replace h : EV F f 180 z180 29 [some (rf 11 (0)), some (rf 13 (15)), some (rf 13 (17)), some (.inl (t0)), y4, y5, y6] [.inl (Int32.ofInt 0)] τ (w, σ') := h
  replace h := ei_p h rfl rfl rfl rfl
  obtain ⟨f, g, h⟩ := h
  clear g
  replace h : EV F f 180 z180 31 [some (rf 11 (0)), some (rf 13 (15)), some (rf 13 (17)), some (.inl (t0)), some (.inl (Int32.ofInt 0)), y5, y6] [] τ (w, σ') := h
  exact ⟨f + 1, q180_31 (f + 1) f (Nat.lt_succ_self f) (t0) (Int32.ofInt 0) _ _ τ hsτ h⟩
def P180 (σ : mS) (w : mX) (σ' : mS) : Prop := (0 ≤ (0 : Int) ∧ (0 : Int) < (σ.2.1 13 (17) : Int)) ∧ ∃ v2 σ3, gF σ σ3 ∧ HL σ3 ∧ P172 σ (Int32.ofInt 17) (m_i σ 13 (17) (Int32.ofInt 0).toNatClampNeg) (Int32.ofInt 0) (Int32.ofInt 0) (Int32.ofInt 0) (Int32.ofInt 0) (Int32.ofInt 0) (Int32.ofInt 0) (.inl (some (.inr (.inl v2)))) σ3 ∧ (((v2).toInt ≠ (Int64.ofInt (-3000000000)).toInt ∧ J180_27 (Int32.ofInt 0) σ3 w σ') ∨ (¬ ((v2).toInt ≠ (Int64.ofInt (-3000000000)).toInt) ∧ J180_27 (Int32.ofInt 1) σ3 w σ'))
set_option maxRecDepth 100000 in
theorem x180 {σ σ' : mS} {w : mX} (hs : HL σ) (h : ev_run sm_all 180 [rf 11 (0), rf 13 (15), rf 13 (17)] σ (w) σ') : P180 σ w σ' := by
  unfold P180
  obtain ⟨F, f, h⟩ := ei_go h z180_at
  replace h : EV F f 180 z180 0 [some (rf 11 (0)), some (rf 13 (15)), some (rf 13 (17)), none, none, none, none] [] σ (w, σ') := h
  replace h := ei_p h rfl rfl rfl rfl
  obtain ⟨f, g, h⟩ := h
  clear g
  replace h : EV F f 180 z180 1 [some (rf 11 (0)), some (rf 13 (15)), some (rf 13 (17)), none, none, none, none] [rf 11 (0)] σ (w, σ') := h
  replace h := ei_p h rfl rfl rfl rfl
  obtain ⟨f, g, h⟩ := h
  clear g
  replace h : EV F f 180 z180 3 [some (rf 11 (0)), some (rf 13 (15)), some (rf 13 (17)), none, none, none, none] [.inl (Int32.ofInt 17), rf 11 (0)] σ (w, σ') := h
  replace h := ei_p h rfl rfl rfl rfl
  obtain ⟨f, g, h⟩ := h
  clear g
  replace h : EV F f 180 z180 4 [some (rf 11 (0)), some (rf 13 (15)), some (rf 13 (17)), none, none, none, none] [rf 13 (17), .inl (Int32.ofInt 17), rf 11 (0)] σ (w, σ') := h
  replace h := ei_p h rfl rfl rfl rfl
  obtain ⟨f, g, h⟩ := h
  clear g
  replace h : EV F f 180 z180 5 [some (rf 11 (0)), some (rf 13 (15)), some (rf 13 (17)), none, none, none, none] [.inl (Int32.ofInt 0), rf 13 (17), .inl (Int32.ofInt 17), rf 11 (0)] σ (w, σ') := h
  replace h := ei_iald h rfl (fun _ => rfl)
  obtain ⟨vp1, f, g, h⟩ := h
  clear g
  replace h : EV F f 180 z180 6 [some (rf 11 (0)), some (rf 13 (15)), some (rf 13 (17)), none, none, none, none] [.inl (m_i σ 13 (17) (Int32.ofInt 0).toNatClampNeg), .inl (Int32.ofInt 17), rf 11 (0)] σ (w, σ') := h
  refine ⟨vp_2 vp1, ?_⟩
  replace h := ei_p h rfl rfl rfl rfl
  obtain ⟨f, g, h⟩ := h
  clear g
  replace h : EV F f 180 z180 7 [some (rf 11 (0)), some (rf 13 (15)), some (rf 13 (17)), none, none, none, none] [.inl (Int32.ofInt 0), .inl (m_i σ 13 (17) (Int32.ofInt 0).toNatClampNeg), .inl (Int32.ofInt 17), rf 11 (0)] σ (w, σ') := h
  replace h := ei_p h rfl rfl rfl rfl
  obtain ⟨f, g, h⟩ := h
  clear g
  replace h : EV F f 180 z180 8 [some (rf 11 (0)), some (rf 13 (15)), some (rf 13 (17)), none, none, none, none] [.inl (Int32.ofInt 0), .inl (Int32.ofInt 0), .inl (m_i σ 13 (17) (Int32.ofInt 0).toNatClampNeg), .inl (Int32.ofInt 17), rf 11 (0)] σ (w, σ') := h
  replace h := ei_p h rfl rfl rfl rfl
  obtain ⟨f, g, h⟩ := h
  clear g
  replace h : EV F f 180 z180 9 [some (rf 11 (0)), some (rf 13 (15)), some (rf 13 (17)), none, none, none, none] [.inl (Int32.ofInt 0), .inl (Int32.ofInt 0), .inl (Int32.ofInt 0), .inl (m_i σ 13 (17) (Int32.ofInt 0).toNatClampNeg), .inl (Int32.ofInt 17), rf 11 (0)] σ (w, σ') := h
  replace h := ei_p h rfl rfl rfl rfl
  obtain ⟨f, g, h⟩ := h
  clear g
  replace h : EV F f 180 z180 10 [some (rf 11 (0)), some (rf 13 (15)), some (rf 13 (17)), none, none, none, none] [.inl (Int32.ofInt 0), .inl (Int32.ofInt 0), .inl (Int32.ofInt 0), .inl (Int32.ofInt 0), .inl (m_i σ 13 (17) (Int32.ofInt 0).toNatClampNeg), .inl (Int32.ofInt 17), rf 11 (0)] σ (w, σ') := h
  replace h := ei_p h rfl rfl rfl rfl
  obtain ⟨f, g, h⟩ := h
  clear g
  replace h : EV F f 180 z180 11 [some (rf 11 (0)), some (rf 13 (15)), some (rf 13 (17)), none, none, none, none] [.inl (Int32.ofInt 0), .inl (Int32.ofInt 0), .inl (Int32.ofInt 0), .inl (Int32.ofInt 0), .inl (Int32.ofInt 0), .inl (m_i σ 13 (17) (Int32.ofInt 0).toNatClampNeg), .inl (Int32.ofInt 17), rf 11 (0)] σ (w, σ') := h
  replace h := ei_p h rfl rfl rfl rfl
  obtain ⟨f, g, h⟩ := h
  clear g
  replace h : EV F f 180 z180 12 [some (rf 11 (0)), some (rf 13 (15)), some (rf 13 (17)), none, none, none, none] [.inl (Int32.ofInt 0), .inl (Int32.ofInt 0), .inl (Int32.ofInt 0), .inl (Int32.ofInt 0), .inl (Int32.ofInt 0), .inl (Int32.ofInt 0), .inl (m_i σ 13 (17) (Int32.ofInt 0).toNatClampNeg), .inl (Int32.ofInt 17), rf 11 (0)] σ (w, σ') := h
  replace h := bx_L (ei_s (as := [.inl (Int32.ofInt 0), .inl (Int32.ofInt 0), .inl (Int32.ofInt 0), .inl (Int32.ofInt 0), .inl (Int32.ofInt 0), .inl (Int32.ofInt 0), .inl (m_i σ 13 (17) (Int32.ofInt 0).toNatClampNeg), .inl (Int32.ofInt 17), rf 11 (0)]) h rfl (Nat.le_of_ble_eq_true rfl) rfl rfl) z172_at rfl
  rcases h with ⟨v2, σ3, r4, f, g, h⟩ | ⟨b, σ3, r4, e⟩
  rotate_left
  · exact (nt172 (x172 hs r4)).elim
  clear g
  have p5 := x172 hs r4
  have hsσ3 : HL σ3 := hl172 p5
  refine ⟨v2, σ3, gF_r r4 rfl hs, hsσ3, p5, ?_⟩
  replace h : EV F f 180 z180 15 [some (rf 11 (0)), some (rf 13 (15)), some (rf 13 (17)), none, none, none, none] [.inr (.inl (v2))] σ3 (w, σ') := h
  replace h := ei_p h rfl rfl rfl rfl
  obtain ⟨f, g, h⟩ := h
  clear g
  replace h : EV F f 180 z180 18 [some (rf 11 (0)), some (rf 13 (15)), some (rf 13 (17)), none, none, none, none] [.inr (.inl (Int64.ofInt (-3000000000))), .inr (.inl (v2))] σ3 (w, σ') := h
  replace h := ei_p h rfl rfl rfl rfl
  obtain ⟨f, g, h⟩ := h
  clear g
  replace h : EV F f 180 z180 19 [some (rf 11 (0)), some (rf 13 (15)), some (rf 13 (17)), none, none, none, none] [.inl (lg_cmp (v2) (Int64.ofInt (-3000000000)))] σ3 (w, σ') := h
  replace h := ei_c h rfl rfl rfl
  rcases h with ⟨hp6, f, g, h⟩ | ⟨hp6, f, g, h⟩
  · skip
    replace hp6 : (v2).toInt ≠ (Int64.ofInt (-3000000000)).toInt := (ab_lc .ne _ _).mp hp6
    refine Or.inl ⟨hp6, ?_⟩
    clear g
    replace h : EV F f 180 z180 26 [some (rf 11 (0)), some (rf 13 (15)), some (rf 13 (17)), none, none, none, none] [] σ3 (w, σ') := h
    replace h := ei_p h rfl rfl rfl rfl
    obtain ⟨f, g, h⟩ := h
    clear g
    replace h : EV F f 180 z180 27 [some (rf 11 (0)), some (rf 13 (15)), some (rf 13 (17)), none, none, none, none] [.inl (Int32.ofInt 0)] σ3 (w, σ') := h
    exact j180_27 hsσ3 h
  · skip
    replace hp6 : ¬ ((v2).toInt ≠ (Int64.ofInt (-3000000000)).toInt) := (not_congr (ab_lc .ne _ _)).mp hp6
    refine Or.inr ⟨hp6, ?_⟩
    clear g
    replace h : EV F f 180 z180 22 [some (rf 11 (0)), some (rf 13 (15)), some (rf 13 (17)), none, none, none, none] [] σ3 (w, σ') := h
    replace h := ei_p h rfl rfl rfl rfl
    obtain ⟨f, g, h⟩ := h
    clear g
    replace h : EV F f 180 z180 23 [some (rf 11 (0)), some (rf 13 (15)), some (rf 13 (17)), none, none, none, none] [.inl (Int32.ofInt 1)] σ3 (w, σ') := h
    replace h := ei_p h rfl rfl rfl rfl
    obtain ⟨f, g, h⟩ := h
    clear g
    replace h : EV F f 180 z180 27 [some (rf 11 (0)), some (rf 13 (15)), some (rf 13 (17)), none, none, none, none] [.inl (Int32.ofInt 1)] σ3 (w, σ') := h
    exact j180_27 hsσ3 h
