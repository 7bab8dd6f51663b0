/-! the law's methods as relations: isMember -/
def z178 : mAl := ((yL_isMember, cL_isMember, 12, (some .boolean), { frames := 8, cells := 60, slots := 540, locals := 133 }, []), rw_L_isMember, false)
theorem z178_at : m_alF[178]? = some z178 := rfl
def J178_280 (τ : mS) (w : mX) (σ' : mS) : Prop := w = .inl (some (.inl (Int32.ofInt 0))) ∧ σ' = τ
set_option maxRecDepth 100000 in
theorem j178_280 {F f : Nat} {σ' τ : mS} {y0 : Option mV} {y1 : Option mV} {y2 : Option mV} {y3 : Option mV} {y4 : Option mV} {y5 : Option mV} {y6 : Option mV} {y7 : Option mV} {y8 : Option mV} {y9 : Option mV} {y10 : Option mV} {y11 : Option mV} {w : mX} (hsτ : HL τ) (h : EV F f 178 z178 280 [y0, y1, y2, y3, y4, y5, y6, y7, y8, y9, y10, y11] [] τ (w, σ')) : J178_280 τ w σ' := by
  unfold J178_280
  replace h := ei_p h rfl rfl rfl rfl
  obtain ⟨f, g, h⟩ := h
  clear g
  replace h : EV F f 178 z178 281 [y0, y1, y2, y3, y4, y5, y6, y7, y8, y9, y10, y11] [.inl (Int32.ofInt 0)] τ (w, σ') := h
  have e := ei_iret h rfl
  cases e
  exact ⟨rfl, rfl⟩
def J178_276 (τ : mS) (w : mX) (σ' : mS) : Prop := w = .inl (some (.inl (Int32.ofInt 1))) ∧ σ' = τ
set_option maxRecDepth 100000 in
theorem j178_276 {F f : Nat} {σ' τ : mS} {y0 : Option mV} {y1 : Option mV} {y2 : Option mV} {y3 : Option mV} {y4 : Option mV} {y5 : Option mV} {y6 : Option mV} {y7 : Option mV} {y8 : Option mV} {y9 : Option mV} {y10 : Option mV} {y11 : Option mV} {w : mX} (hsτ : HL τ) (h : EV F f 178 z178 276 [y0, y1, y2, y3, y4, y5, y6, y7, y8, y9, y10, y11] [] τ (w, σ')) : J178_276 τ w σ' := by
  unfold J178_276
  replace h := ei_p h rfl rfl rfl rfl
  obtain ⟨f, g, h⟩ := h
  clear g
  replace h : EV F f 178 z178 277 [y0, y1, y2, y3, y4, y5, y6, y7, y8, y9, y10, y11] [.inl (Int32.ofInt 1)] τ (w, σ') := h
  replace h := ei_p h rfl rfl rfl rfl
  obtain ⟨f, g, h⟩ := h
  clear g
  replace h : EV F f 178 z178 281 [y0, y1, y2, y3, y4, y5, y6, y7, y8, y9, y10, y11] [.inl (Int32.ofInt 1)] τ (w, σ') := h
  have e := ei_iret h rfl
  cases e
  exact ⟨rfl, rfl⟩
def J178_256 (u3 : Int32) (u8 : Int32) (τ : mS) (w : mX) (σ' : mS) : Prop := ((((u8) - (u8) / (Int32.ofInt 10) * (Int32.ofInt 10)).toInt < (3 : Int) ∧ J178_276 τ w σ') ∨ (¬ (((u8) - (u8) / (Int32.ofInt 10) * (Int32.ofInt 10)).toInt < (3 : Int)) ∧ ((∃ v3, P145 τ (u3) (Int32.ofInt 1) (.inl (some (.inr (.inl v3)))) τ ∧ (((v3).toInt ≠ (Int64.ofNat 0).toInt ∧ J178_280 τ w σ') ∨ (¬ ((v3).toInt ≠ (Int64.ofNat 0).toInt) ∧ J178_276 τ w σ'))) ∨ (∃ b, P145 τ (u3) (Int32.ofInt 1) (.inr b) τ ∧ w = .inr b ∧ σ' = τ))))
set_option maxRecDepth 100000 in
theorem j178_256 {F f : Nat} {σ' τ : mS} {u3 : Int32} {u8 : Int32} {y1 : Option mV} {y2 : Option mV} {y4 : Option mV} {y5 : Option mV} {y6 : Option mV} {y7 : Option mV} {y9 : Option mV} {y10 : Option mV} {y11 : Option mV} {w : mX} (hsτ : HL τ) (h : EV F f 178 z178 256 [some (rf 11 (0)), y1, y2, some (.inl (u3)), y4, y5, y6, y7, some (.inl (u8)), y9, y10, y11] [] τ (w, σ')) : J178_256 u3 u8 τ w σ' := by
  unfold J178_256
  replace h := ei_p h rfl rfl rfl rfl
  obtain ⟨f, g, h⟩ := h
  clear g
  replace h : EV F f 178 z178 258 [some (rf 11 (0)), y1, y2, some (.inl (u3)), y4, y5, y6, y7, some (.inl (u8)), y9, y10, y11] [.inl (u8)] τ (w, σ') := h
  replace h := ei_p h rfl rfl rfl rfl
  obtain ⟨f, g, h⟩ := h
  clear g
  replace h : EV F f 178 z178 260 [some (rf 11 (0)), y1, y2, some (.inl (u3)), y4, y5, y6, y7, some (.inl (u8)), y9, y10, y11] [.inl (Int32.ofInt 10), .inl (u8)] τ (w, σ') := h
  replace h := ei_irem h rfl
  obtain ⟨hd1, f, g, h⟩ := h
  clear g
  replace h : EV F f 178 z178 261 [some (rf 11 (0)), y1, y2, some (.inl (u3)), y4, y5, y6, y7, some (.inl (u8)), y9, y10, y11] [.inl ((u8) - (u8) / (Int32.ofInt 10) * (Int32.ofInt 10))] τ (w, σ') := h
  replace h := ei_p h rfl rfl rfl rfl
  obtain ⟨f, g, h⟩ := h
  clear g
  replace h : EV F f 178 z178 262 [some (rf 11 (0)), y1, y2, some (.inl (u3)), y4, y5, y6, y7, some (.inl (u8)), y9, y10, y11] [.inl (Int32.ofInt 3), .inl ((u8) - (u8) / (Int32.ofInt 10) * (Int32.ofInt 10))] τ (w, σ') := h
  replace h := ei_c h rfl rfl rfl
  rcases h with ⟨hp2, f, g, h⟩ | ⟨hp2, f, g, h⟩
  · skip
    replace hp2 : ((u8) - (u8) / (Int32.ofInt 10) * (Int32.ofInt 10)).toInt < (3 : Int) := ic_lt.mp hp2
    refine Or.inl ⟨hp2, ?_⟩
    clear g
    replace h : EV F f 178 z178 276 [some (rf 11 (0)), y1, y2, some (.inl (u3)), y4, y5, y6, y7, some (.inl (u8)), y9, y10, y11] [] τ (w, σ') := h
    exact j178_276 hsτ h
  · skip
    replace hp2 : ¬ (((u8) - (u8) / (Int32.ofInt 10) * (Int32.ofInt 10)).toInt < (3 : Int)) := (not_congr ic_lt).mp hp2
    refine Or.inr ⟨hp2, ?_⟩
    clear g
    replace h : EV F f 178 z178 265 [some (rf 11 (0)), y1, y2, some (.inl (u3)), y4, y5, y6, y7, some (.inl (u8)), y9, y10, y11] [] τ (w, σ') := h
    replace h := ei_p h rfl rfl rfl rfl
    obtain ⟨f, g, h⟩ := h
    clear g
    replace h : EV F f 178 z178 266 [some (rf 11 (0)), y1, y2, some (.inl (u3)), y4, y5, y6, y7, some (.inl (u8)), y9, y10, y11] [rf 11 (0)] τ (w, σ') := h
    replace h := ei_p h rfl rfl rfl rfl
    obtain ⟨f, g, h⟩ := h
    clear g
    replace h : EV F f 178 z178 267 [some (rf 11 (0)), y1, y2, some (.inl (u3)), y4, y5, y6, y7, some (.inl (u8)), y9, y10, y11] [.inl (u3), rf 11 (0)] τ (w, σ') := h
    replace h := ei_p h rfl rfl rfl rfl
    obtain ⟨f, g, h⟩ := h
    clear g
    replace h : EV F f 178 z178 268 [some (rf 11 (0)), y1, y2, some (.inl (u3)), y4, y5, y6, y7, some (.inl (u8)), y9, y10, y11] [.inl (Int32.ofInt 1), .inl (u3), rf 11 (0)] τ (w, σ') := h
    replace h := bx_L (ei_v (as := [.inl (Int32.ofInt 1), .inl (u3)]) h rfl rfl rfl) z145_at rfl
    rcases h with ⟨v3, σ4, r5, f, g, h⟩ | ⟨b, σ4, r5, e⟩
    · skip
      have er5 := ro2_run rfl r5
      rw [er5] at h r5
      clear g
      have p6 := x145 hsτ.1 r5
      refine Or.inl ⟨v3, p6, ?_⟩
      replace h : EV F f 178 z178 271 [some (rf 11 (0)), y1, y2, some (.inl (u3)), y4, y5, y6, y7, some (.inl (u8)), y9, y10, y11] [.inr (.inl (v3))] τ (w, σ') := h
      replace h := ei_p h rfl rfl rfl rfl
      obtain ⟨f, g, h⟩ := h
      clear g
      replace h : EV F f 178 z178 272 [some (rf 11 (0)), y1, y2, some (.inl (u3)), y4, y5, y6, y7, some (.inl (u8)), y9, y10, y11] [.inr (.inl (Int64.ofNat 0)), .inr (.inl (v3))] τ (w, σ') := h
      replace h := ei_p h rfl rfl rfl rfl
      obtain ⟨f, g, h⟩ := h
      clear g
      replace h : EV F f 178 z178 273 [some (rf 11 (0)), y1, y2, some (.inl (u3)), y4, y5, y6, y7, some (.inl (u8)), y9, y10, y11] [.inl (lg_cmp (v3) (Int64.ofNat 0))] τ (w, σ') := h
      replace h := ei_c h rfl rfl rfl
      rcases h with ⟨hp7, f, g, h⟩ | ⟨hp7, f, g, h⟩
      · skip
        replace hp7 : (v3).toInt ≠ (Int64.ofNat 0).toInt := (ab_lc .ne _ _).mp hp7
        refine Or.inl ⟨hp7, ?_⟩
        clear g
        replace h : EV F f 178 z178 280 [some (rf 11 (0)), y1, y2, some (.inl (u3)), y4, y5, y6, y7, some (.inl (u8)), y9, y10, y11] [] τ (w, σ') := h
        exact j178_280 hsτ h
      · skip
        replace hp7 : ¬ ((v3).toInt ≠ (Int64.ofNat 0).toInt) := (not_congr (ab_lc .ne _ _)).mp hp7
        refine Or.inr ⟨hp7, ?_⟩
        clear g
        replace h : EV F f 178 z178 276 [some (rf 11 (0)), y1, y2, some (.inl (u3)), y4, y5, y6, y7, some (.inl (u8)), y9, y10, y11] [] τ (w, σ') := h
        exact j178_276 hsτ h
    · skip
      have er5 := ro2_run rfl r5
      rw [er5] at e r5
      have p6 := x145 hsτ.1 r5
      cases e
      exact Or.inr ⟨b, p6, rfl, rfl⟩
def J178_169 (u3 : Int32) (u4 : Int64) (u6 : Int64) (u8 : Int32) (t0 : Int32) (τ : mS) (w : mX) (σ' : mS) : Prop := ((∃ v1, P148 τ (u3) (.inl (some (.inr (.inl v1)))) τ ∧ (((v1).toInt ≠ (u4).toInt ∧ J178_280 τ w σ') ∨ (¬ ((v1).toInt ≠ (u4).toInt) ∧ ((∃ v6, P147 τ (u3) (.inl (some (.inr (.inl v6)))) τ ∧ (((v6).toInt ≠ (u6).toInt ∧ J178_280 τ w σ') ∨ (¬ ((v6).toInt ≠ (u6).toInt) ∧ (((u8).toInt < (0 : Int) ∧ J178_280 τ w σ') ∨ (¬ ((u8).toInt < (0 : Int)) ∧ (((4 : Int) ≤ ((u8) - (u8) / (Int32.ofInt 10) * (Int32.ofInt 10)).toInt ∧ J178_280 τ w σ') ∨ (¬ ((4 : Int) ≤ ((u8) - (u8) / (Int32.ofInt 10) * (Int32.ofInt 10)).toInt) ∧ ((∃ v14, P145 τ (u3) (Int32.ofInt 2) (.inl (some (.inr (.inl v14)))) τ ∧ (((v14).toInt < (Int64.ofNat 0).toInt ∧ J178_280 τ w σ') ∨ (¬ ((v14).toInt < (Int64.ofNat 0).toInt) ∧ (((t0).toInt = (0 : Int) ∧ J178_256 (u3) (u8) τ w σ') ∨ (¬ ((t0).toInt = (0 : Int)) ∧ ((∃ v20, P144 τ (u3) (Int32.ofInt 0) (.inl (some (.inr (.inl v20)))) τ ∧ (((v20).toInt ≠ (Int64.ofNat 0).toInt ∧ J178_280 τ w σ') ∨ (¬ ((v20).toInt ≠ (Int64.ofNat 0).toInt) ∧ ((∃ v25, P144 τ (u3) (Int32.ofInt 1) (.inl (some (.inr (.inl v25)))) τ ∧ (((v25).toInt ≠ (Int64.ofNat 0).toInt ∧ J178_280 τ w σ') ∨ (¬ ((v25).toInt ≠ (Int64.ofNat 0).toInt) ∧ ((∃ v30, P144 τ (u3) (Int32.ofInt 2) (.inl (some (.inr (.inl v30)))) τ ∧ (((v30).toInt ≠ (Int64.ofNat 0).toInt ∧ J178_280 τ w σ') ∨ (¬ ((v30).toInt ≠ (Int64.ofNat 0).toInt) ∧ J178_256 (u3) (u8) τ w σ'))) ∨ (∃ b, P144 τ (u3) (Int32.ofInt 2) (.inr b) τ ∧ w = .inr b ∧ σ' = τ))))) ∨ (∃ b, P144 τ (u3) (Int32.ofInt 1) (.inr b) τ ∧ w = .inr b ∧ σ' = τ))))) ∨ (∃ b, P144 τ (u3) (Int32.ofInt 0) (.inr b) τ ∧ w = .inr b ∧ σ' = τ))))))) ∨ (∃ b, P145 τ (u3) (Int32.ofInt 2) (.inr b) τ ∧ w = .inr b ∧ σ' = τ))))))))) ∨ (∃ b, P147 τ (u3) (.inr b) τ ∧ w = .inr b ∧ σ' = τ))))) ∨ (∃ b, P148 τ (u3) (.inr b) τ ∧ w = .inr b ∧ σ' = τ))
set_option maxRecDepth 100000 in
theorem j178_169 {F f : Nat} {σ' τ : mS} {u3 : Int32} {u4 : Int64} {u6 : Int64} {u8 : Int32} {t0 : Int32} {y1 : Option mV} {y2 : Option mV} {y9 : Option mV} {y10 : Option mV} {y11 : Option mV} {w : mX} (hsτ : HL τ) (h : EV F f 178 z178 169 [some (rf 11 (0)), y1, y2, some (.inl (u3)), some (.inr (.inl (u4))), none, some (.inr (.inl (u6))), none, some (.inl (u8)), y9, y10, y11] [.inl (t0)] τ (w, σ')) : J178_169 u3 u4 u6 u8 t0 τ w σ' := by
  unfold J178_169
  replace h := ei_p h rfl rfl rfl rfl
  obtain ⟨f, g, h⟩ := h
  clear g
  replace h : EV F f 178 z178 171 [some (rf 11 (0)), y1, y2, some (.inl (u3)), some (.inr (.inl (u4))), none, some (.inr (.inl (u6))), none, some (.inl (u8)), some (.inl (t0)), y10, y11] [] τ (w, σ') := h
  replace h := ei_p h rfl rfl rfl rfl
  obtain ⟨f, g, h⟩ := h
  clear g
  replace h : EV F f 178 z178 172 [some (rf 11 (0)), y1, y2, some (.inl (u3)), some (.inr (.inl (u4))), none, some (.inr (.inl (u6))), none, some (.inl (u8)), some (.inl (t0)), y10, y11] [rf 11 (0)] τ (w, σ') := h
  replace h := ei_p h rfl rfl rfl rfl
  obtain ⟨f, g, h⟩ := h
  clear g
  replace h : EV F f 178 z178 173 [some (rf 11 (0)), y1, y2, some (.inl (u3)), some (.inr (.inl (u4))), none, some (.inr (.inl (u6))), none, some (.inl (u8)), some (.inl (t0)), y10, y11] [.inl (u3), rf 11 (0)] τ (w, σ') := h
  replace h := bx_L (ei_v (as := [.inl (u3)]) h rfl rfl rfl) z148_at rfl
  rcases h with ⟨v1, σ2, r3, f, g, h⟩ | ⟨b, σ2, r3, e⟩
  · skip
    have er3 := ro2_run rfl r3
    rw [er3] at h r3
    clear g
    have p4 := x148 hsτ.1 r3
    refine Or.inl ⟨v1, p4, ?_⟩
    replace h : EV F f 178 z178 176 [some (rf 11 (0)), y1, y2, some (.inl (u3)), some (.inr (.inl (u4))), none, some (.inr (.inl (u6))), none, some (.inl (u8)), some (.inl (t0)), y10, y11] [.inr (.inl (v1))] τ (w, σ') := h
    replace h := ei_p h rfl rfl rfl rfl
    obtain ⟨f, g, h⟩ := h
    clear g
    replace h : EV F f 178 z178 178 [some (rf 11 (0)), y1, y2, some (.inl (u3)), some (.inr (.inl (u4))), none, some (.inr (.inl (u6))), none, some (.inl (u8)), some (.inl (t0)), y10, y11] [.inr (.inl (u4)), .inr (.inl (v1))] τ (w, σ') := h
    replace h := ei_p h rfl rfl rfl rfl
    obtain ⟨f, g, h⟩ := h
    clear g
    replace h : EV F f 178 z178 179 [some (rf 11 (0)), y1, y2, some (.inl (u3)), some (.inr (.inl (u4))), none, some (.inr (.inl (u6))), none, some (.inl (u8)), some (.inl (t0)), y10, y11] [.inl (lg_cmp (v1) (u4))] τ (w, σ') := h
    replace h := ei_c h rfl rfl rfl
    rcases h with ⟨hp5, f, g, h⟩ | ⟨hp5, f, g, h⟩
    · skip
      replace hp5 : (v1).toInt ≠ (u4).toInt := (ab_lc .ne _ _).mp hp5
      refine Or.inl ⟨hp5, ?_⟩
      clear g
      replace h : EV F f 178 z178 280 [some (rf 11 (0)), y1, y2, some (.inl (u3)), some (.inr (.inl (u4))), none, some (.inr (.inl (u6))), none, some (.inl (u8)), some (.inl (t0)), y10, y11] [] τ (w, σ') := h
      exact j178_280 hsτ h
    · skip
      replace hp5 : ¬ ((v1).toInt ≠ (u4).toInt) := (not_congr (ab_lc .ne _ _)).mp hp5
      refine Or.inr ⟨hp5, ?_⟩
      clear g
      replace h : EV F f 178 z178 182 [some (rf 11 (0)), y1, y2, some (.inl (u3)), some (.inr (.inl (u4))), none, some (.inr (.inl (u6))), none, some (.inl (u8)), some (.inl (t0)), y10, y11] [] τ (w, σ') := h
      replace h := ei_p h rfl rfl rfl rfl
      obtain ⟨f, g, h⟩ := h
      clear g
      replace h : EV F f 178 z178 183 [some (rf 11 (0)), y1, y2, some (.inl (u3)), some (.inr (.inl (u4))), none, some (.inr (.inl (u6))), none, some (.inl (u8)), some (.inl (t0)), y10, y11] [rf 11 (0)] τ (w, σ') := h
      replace h := ei_p h rfl rfl rfl rfl
      obtain ⟨f, g, h⟩ := h
      clear g
      replace h : EV F f 178 z178 184 [some (rf 11 (0)), y1, y2, some (.inl (u3)), some (.inr (.inl (u4))), none, some (.inr (.inl (u6))), none, some (.inl (u8)), some (.inl (t0)), y10, y11] [.inl (u3), rf 11 (0)] τ (w, σ') := h
      replace h := bx_L (ei_v (as := [.inl (u3)]) h rfl rfl rfl) z147_at rfl
      rcases h with ⟨v6, σ7, r8, f, g, h⟩ | ⟨b, σ7, r8, e⟩
      · skip
        have er8 := ro2_run rfl r8
        rw [er8] at h r8
        clear g
        have p9 := x147 hsτ.1 r8
        refine Or.inl ⟨v6, p9, ?_⟩
        replace h : EV F f 178 z178 187 [some (rf 11 (0)), y1, y2, some (.inl (u3)), some (.inr (.inl (u4))), none, some (.inr (.inl (u6))), none, some (.inl (u8)), some (.inl (t0)), y10, y11] [.inr (.inl (v6))] τ (w, σ') := h
        replace h := ei_p h rfl rfl rfl rfl
        obtain ⟨f, g, h⟩ := h
        clear g
        replace h : EV F f 178 z178 189 [some (rf 11 (0)), y1, y2, some (.inl (u3)), some (.inr (.inl (u4))), none, some (.inr (.inl (u6))), none, some (.inl (u8)), some (.inl (t0)), y10, y11] [.inr (.inl (u6)), .inr (.inl (v6))] τ (w, σ') := h
        replace h := ei_p h rfl rfl rfl rfl
        obtain ⟨f, g, h⟩ := h
        clear g
        replace h : EV F f 178 z178 190 [some (rf 11 (0)), y1, y2, some (.inl (u3)), some (.inr (.inl (u4))), none, some (.inr (.inl (u6))), none, some (.inl (u8)), some (.inl (t0)), y10, y11] [.inl (lg_cmp (v6) (u6))] τ (w, σ') := h
        replace h := ei_c h rfl rfl rfl
        rcases h with ⟨hp10, f, g, h⟩ | ⟨hp10, f, g, h⟩
        · skip
          replace hp10 : (v6).toInt ≠ (u6).toInt := (ab_lc .ne _ _).mp hp10
          refine Or.inl ⟨hp10, ?_⟩
          clear g
          replace h : EV F f 178 z178 280 [some (rf 11 (0)), y1, y2, some (.inl (u3)), some (.inr (.inl (u4))), none, some (.inr (.inl (u6))), none, some (.inl (u8)), some (.inl (t0)), y10, y11] [] τ (w, σ') := h
          exact j178_280 hsτ h
        · skip
          replace hp10 : ¬ ((v6).toInt ≠ (u6).toInt) := (not_congr (ab_lc .ne _ _)).mp hp10
          refine Or.inr ⟨hp10, ?_⟩
          clear g
          replace h : EV F f 178 z178 193 [some (rf 11 (0)), y1, y2, some (.inl (u3)), some (.inr (.inl (u4))), none, some (.inr (.inl (u6))), none, some (.inl (u8)), some (.inl (t0)), y10, y11] [] τ (w, σ') := h
          replace h := ei_p h rfl rfl rfl rfl
          obtain ⟨f, g, h⟩ := h
          clear g
          replace h : EV F f 178 z178 195 [some (rf 11 (0)), y1, y2, some (.inl (u3)), some (.inr (.inl (u4))), none, some (.inr (.inl (u6))), none, some (.inl (u8)), some (.inl (t0)), y10, y11] [.inl (u8)] τ (w, σ') := h
          replace h := ei_c h rfl rfl rfl
          rcases h with ⟨hp11, f, g, h⟩ | ⟨hp11, f, g, h⟩
          · skip
            replace hp11 : (u8).toInt < (0 : Int) := ic_lt.mp hp11
            refine Or.inl ⟨hp11, ?_⟩
            clear g
            replace h : EV F f 178 z178 280 [some (rf 11 (0)), y1, y2, some (.inl (u3)), some (.inr (.inl (u4))), none, some (.inr (.inl (u6))), none, some (.inl (u8)), some (.inl (t0)), y10, y11] [] τ (w, σ') := h
            exact j178_280 hsτ h
          · skip
            replace hp11 : ¬ ((u8).toInt < (0 : Int)) := (not_congr ic_lt).mp hp11
            refine Or.inr ⟨hp11, ?_⟩
            clear g
            replace h : EV F f 178 z178 198 [some (rf 11 (0)), y1, y2, some (.inl (u3)), some (.inr (.inl (u4))), none, some (.inr (.inl (u6))), none, some (.inl (u8)), some (.inl (t0)), y10, y11] [] τ (w, σ') := h
            replace h := ei_p h rfl rfl rfl rfl
            obtain ⟨f, g, h⟩ := h
            clear g
            replace h : EV F f 178 z178 200 [some (rf 11 (0)), y1, y2, some (.inl (u3)), some (.inr (.inl (u4))), none, some (.inr (.inl (u6))), none, some (.inl (u8)), some (.inl (t0)), y10, y11] [.inl (u8)] τ (w, σ') := h
            replace h := ei_p h rfl rfl rfl rfl
            obtain ⟨f, g, h⟩ := h
            clear g
            replace h : EV F f 178 z178 202 [some (rf 11 (0)), y1, y2, some (.inl (u3)), some (.inr (.inl (u4))), none, some (.inr (.inl (u6))), none, some (.inl (u8)), some (.inl (t0)), y10, y11] [.inl (Int32.ofInt 10), .inl (u8)] τ (w, σ') := h
            replace h := ei_irem h rfl
            obtain ⟨hd12, f, g, h⟩ := h
            clear g
            replace h : EV F f 178 z178 203 [some (rf 11 (0)), y1, y2, some (.inl (u3)), some (.inr (.inl (u4))), none, some (.inr (.inl (u6))), none, some (.inl (u8)), some (.inl (t0)), y10, y11] [.inl ((u8) - (u8) / (Int32.ofInt 10) * (Int32.ofInt 10))] τ (w, σ') := h
            replace h := ei_p h rfl rfl rfl rfl
            obtain ⟨f, g, h⟩ := h
            clear g
            replace h : EV F f 178 z178 204 [some (rf 11 (0)), y1, y2, some (.inl (u3)), some (.inr (.inl (u4))), none, some (.inr (.inl (u6))), none, some (.inl (u8)), some (.inl (t0)), y10, y11] [.inl (Int32.ofInt 4), .inl ((u8) - (u8) / (Int32.ofInt 10) * (Int32.ofInt 10))] τ (w, σ') := h
            replace h := ei_c h rfl rfl rfl
            rcases h with ⟨hp13, f, g, h⟩ | ⟨hp13, f, g, h⟩
            · skip
              replace hp13 : (4 : Int) ≤ ((u8) - (u8) / (Int32.ofInt 10) * (Int32.ofInt 10)).toInt := ic_ge.mp hp13
              refine Or.inl ⟨hp13, ?_⟩
              clear g
              replace h : EV F f 178 z178 280 [some (rf 11 (0)), y1, y2, some (.inl (u3)), some (.inr (.inl (u4))), none, some (.inr (.inl (u6))), none, some (.inl (u8)), some (.inl (t0)), y10, y11] [] τ (w, σ') := h
              exact j178_280 hsτ h
            · skip
              replace hp13 : ¬ ((4 : Int) ≤ ((u8) - (u8) / (Int32.ofInt 10) * (Int32.ofInt 10)).toInt) := (not_congr ic_ge).mp hp13
              refine Or.inr ⟨hp13, ?_⟩
              clear g
              replace h : EV F f 178 z178 207 [some (rf 11 (0)), y1, y2, some (.inl (u3)), some (.inr (.inl (u4))), none, some (.inr (.inl (u6))), none, some (.inl (u8)), some (.inl (t0)), y10, y11] [] τ (w, σ') := h
              replace h := ei_p h rfl rfl rfl rfl
              obtain ⟨f, g, h⟩ := h
              clear g
              replace h : EV F f 178 z178 208 [some (rf 11 (0)), y1, y2, some (.inl (u3)), some (.inr (.inl (u4))), none, some (.inr (.inl (u6))), none, some (.inl (u8)), some (.inl (t0)), y10, y11] [rf 11 (0)] τ (w, σ') := h
              replace h := ei_p h rfl rfl rfl rfl
              obtain ⟨f, g, h⟩ := h
              clear g
              replace h : EV F f 178 z178 209 [some (rf 11 (0)), y1, y2, some (.inl (u3)), some (.inr (.inl (u4))), none, some (.inr (.inl (u6))), none, some (.inl (u8)), some (.inl (t0)), y10, y11] [.inl (u3), rf 11 (0)] τ (w, σ') := h
              replace h := ei_p h rfl rfl rfl rfl
              obtain ⟨f, g, h⟩ := h
              clear g
              replace h : EV F f 178 z178 210 [some (rf 11 (0)), y1, y2, some (.inl (u3)), some (.inr (.inl (u4))), none, some (.inr (.inl (u6))), none, some (.inl (u8)), some (.inl (t0)), y10, y11] [.inl (Int32.ofInt 2), .inl (u3), rf 11 (0)] τ (w, σ') := h
              replace h := bx_L (ei_v (as := [.inl (Int32.ofInt 2), .inl (u3)]) h rfl rfl rfl) z145_at rfl
              rcases h with ⟨v14, σ15, r16, f, g, h⟩ | ⟨b, σ15, r16, e⟩
              · skip
                have er16 := ro2_run rfl r16
                rw [er16] at h r16
                clear g
                have p17 := x145 hsτ.1 r16
                refine Or.inl ⟨v14, p17, ?_⟩
                replace h : EV F f 178 z178 213 [some (rf 11 (0)), y1, y2, some (.inl (u3)), some (.inr (.inl (u4))), none, some (.inr (.inl (u6))), none, some (.inl (u8)), some (.inl (t0)), y10, y11] [.inr (.inl (v14))] τ (w, σ') := h
                replace h := ei_p h rfl rfl rfl rfl
                obtain ⟨f, g, h⟩ := h
                clear g
                replace h : EV F f 178 z178 214 [some (rf 11 (0)), y1, y2, some (.inl (u3)), some (.inr (.inl (u4))), none, some (.inr (.inl (u6))), none, some (.inl (u8)), some (.inl (t0)), y10, y11] [.inr (.inl (Int64.ofNat 0)), .inr (.inl (v14))] τ (w, σ') := h
                replace h := ei_p h rfl rfl rfl rfl
                obtain ⟨f, g, h⟩ := h
                clear g
                replace h : EV F f 178 z178 215 [some (rf 11 (0)), y1, y2, some (.inl (u3)), some (.inr (.inl (u4))), none, some (.inr (.inl (u6))), none, some (.inl (u8)), some (.inl (t0)), y10, y11] [.inl (lg_cmp (v14) (Int64.ofNat 0))] τ (w, σ') := h
                replace h := ei_c h rfl rfl rfl
                rcases h with ⟨hp18, f, g, h⟩ | ⟨hp18, f, g, h⟩
                · skip
                  replace hp18 : (v14).toInt < (Int64.ofNat 0).toInt := (ab_lc .lt _ _).mp hp18
                  refine Or.inl ⟨hp18, ?_⟩
                  clear g
                  replace h : EV F f 178 z178 280 [some (rf 11 (0)), y1, y2, some (.inl (u3)), some (.inr (.inl (u4))), none, some (.inr (.inl (u6))), none, some (.inl (u8)), some (.inl (t0)), y10, y11] [] τ (w, σ') := h
                  exact j178_280 hsτ h
                · skip
                  replace hp18 : ¬ ((v14).toInt < (Int64.ofNat 0).toInt) := (not_congr (ab_lc .lt _ _)).mp hp18
                  refine Or.inr ⟨hp18, ?_⟩
                  clear g
                  replace h : EV F f 178 z178 218 [some (rf 11 (0)), y1, y2, some (.inl (u3)), some (.inr (.inl (u4))), none, some (.inr (.inl (u6))), none, some (.inl (u8)), some (.inl (t0)), y10, y11] [] τ (w, σ') := h
                  replace h := ei_p h rfl rfl rfl rfl
                  obtain ⟨f, g, h⟩ := h
                  clear g
                  replace h : EV F f 178 z178 220 [some (rf 11 (0)), y1, y2, some (.inl (u3)), some (.inr (.inl (u4))), none, some (.inr (.inl (u6))), none, some (.inl (u8)), some (.inl (t0)), y10, y11] [.inl (t0)] τ (w, σ') := h
                  replace h := ei_c h rfl rfl rfl
                  rcases h with ⟨hp19, f, g, h⟩ | ⟨hp19, f, g, h⟩
                  · skip
                    replace hp19 : (t0).toInt = (0 : Int) := ic_eq.mp hp19
                    refine Or.inl ⟨hp19, ?_⟩
                    clear g
                    replace h : EV F f 178 z178 256 [some (rf 11 (0)), y1, y2, some (.inl (u3)), some (.inr (.inl (u4))), none, some (.inr (.inl (u6))), none, some (.inl (u8)), some (.inl (t0)), y10, y11] [] τ (w, σ') := h
                    exact j178_256 hsτ h
                  · skip
                    replace hp19 : ¬ ((t0).toInt = (0 : Int)) := (not_congr ic_eq).mp hp19
                    refine Or.inr ⟨hp19, ?_⟩
                    clear g
                    replace h : EV F f 178 z178 223 [some (rf 11 (0)), y1, y2, some (.inl (u3)), some (.inr (.inl (u4))), none, some (.inr (.inl (u6))), none, some (.inl (u8)), some (.inl (t0)), y10, y11] [] τ (w, σ') := h
                    replace h := ei_p h rfl rfl rfl rfl
                    obtain ⟨f, g, h⟩ := h
                    clear g
                    replace h : EV F f 178 z178 224 [some (rf 11 (0)), y1, y2, some (.inl (u3)), some (.inr (.inl (u4))), none, some (.inr (.inl (u6))), none, some (.inl (u8)), some (.inl (t0)), y10, y11] [rf 11 (0)] τ (w, σ') := h
                    replace h := ei_p h rfl rfl rfl rfl
                    obtain ⟨f, g, h⟩ := h
                    clear g
                    replace h : EV F f 178 z178 225 [some (rf 11 (0)), y1, y2, some (.inl (u3)), some (.inr (.inl (u4))), none, some (.inr (.inl (u6))), none, some (.inl (u8)), some (.inl (t0)), y10, y11] [.inl (u3), rf 11 (0)] τ (w, σ') := h
                    replace h := ei_p h rfl rfl rfl rfl
                    obtain ⟨f, g, h⟩ := h
                    clear g
                    replace h : EV F f 178 z178 226 [some (rf 11 (0)), y1, y2, some (.inl (u3)), some (.inr (.inl (u4))), none, some (.inr (.inl (u6))), none, some (.inl (u8)), some (.inl (t0)), y10, y11] [.inl (Int32.ofInt 0), .inl (u3), rf 11 (0)] τ (w, σ') := h
                    replace h := bx_L (ei_v (as := [.inl (Int32.ofInt 0), .inl (u3)]) h rfl rfl rfl) z144_at rfl
                    rcases h with ⟨v20, σ21, r22, f, g, h⟩ | ⟨b, σ21, r22, e⟩
                    · skip
                      have er22 := ro2_run rfl r22
                      rw [er22] at h r22
                      clear g
                      have p23 := x144 hsτ.1 r22
                      refine Or.inl ⟨v20, p23, ?_⟩
                      replace h : EV F f 178 z178 229 [some (rf 11 (0)), y1, y2, some (.inl (u3)), some (.inr (.inl (u4))), none, some (.inr (.inl (u6))), none, some (.inl (u8)), some (.inl (t0)), y10, y11] [.inr (.inl (v20))] τ (w, σ') := h
                      replace h := ei_p h rfl rfl rfl rfl
                      obtain ⟨f, g, h⟩ := h
                      clear g
                      replace h : EV F f 178 z178 230 [some (rf 11 (0)), y1, y2, some (.inl (u3)), some (.inr (.inl (u4))), none, some (.inr (.inl (u6))), none, some (.inl (u8)), some (.inl (t0)), y10, y11] [.inr (.inl (Int64.ofNat 0)), .inr (.inl (v20))] τ (w, σ') := h
                      replace h := ei_p h rfl rfl rfl rfl
                      obtain ⟨f, g, h⟩ := h
                      clear g
                      replace h : EV F f 178 z178 231 [some (rf 11 (0)), y1, y2, some (.inl (u3)), some (.inr (.inl (u4))), none, some (.inr (.inl (u6))), none, some (.inl (u8)), some (.inl (t0)), y10, y11] [.inl (lg_cmp (v20) (Int64.ofNat 0))] τ (w, σ') := h
                      replace h := ei_c h rfl rfl rfl
                      rcases h with ⟨hp24, f, g, h⟩ | ⟨hp24, f, g, h⟩
                      · skip
                        replace hp24 : (v20).toInt ≠ (Int64.ofNat 0).toInt := (ab_lc .ne _ _).mp hp24
                        refine Or.inl ⟨hp24, ?_⟩
                        clear g
                        replace h : EV F f 178 z178 280 [some (rf 11 (0)), y1, y2, some (.inl (u3)), some (.inr (.inl (u4))), none, some (.inr (.inl (u6))), none, some (.inl (u8)), some (.inl (t0)), y10, y11] [] τ (w, σ') := h
                        exact j178_280 hsτ h
                      · skip
                        replace hp24 : ¬ ((v20).toInt ≠ (Int64.ofNat 0).toInt) := (not_congr (ab_lc .ne _ _)).mp hp24
                        refine Or.inr ⟨hp24, ?_⟩
                        clear g
                        replace h : EV F f 178 z178 234 [some (rf 11 (0)), y1, y2, some (.inl (u3)), some (.inr (.inl (u4))), none, some (.inr (.inl (u6))), none, some (.inl (u8)), some (.inl (t0)), y10, y11] [] τ (w, σ') := h
                        replace h := ei_p h rfl rfl rfl rfl
                        obtain ⟨f, g, h⟩ := h
                        clear g
                        replace h : EV F f 178 z178 235 [some (rf 11 (0)), y1, y2, some (.inl (u3)), some (.inr (.inl (u4))), none, some (.inr (.inl (u6))), none, some (.inl (u8)), some (.inl (t0)), y10, y11] [rf 11 (0)] τ (w, σ') := h
                        replace h := ei_p h rfl rfl rfl rfl
                        obtain ⟨f, g, h⟩ := h
                        clear g
                        replace h : EV F f 178 z178 236 [some (rf 11 (0)), y1, y2, some (.inl (u3)), some (.inr (.inl (u4))), none, some (.inr (.inl (u6))), none, some (.inl (u8)), some (.inl (t0)), y10, y11] [.inl (u3), rf 11 (0)] τ (w, σ') := h
                        replace h := ei_p h rfl rfl rfl rfl
                        obtain ⟨f, g, h⟩ := h
                        clear g
                        replace h : EV F f 178 z178 237 [some (rf 11 (0)), y1, y2, some (.inl (u3)), some (.inr (.inl (u4))), none, some (.inr (.inl (u6))), none, some (.inl (u8)), some (.inl (t0)), y10, y11] [.inl (Int32.ofInt 1), .inl (u3), rf 11 (0)] τ (w, σ') := h
                        replace h := bx_L (ei_v (as := [.inl (Int32.ofInt 1), .inl (u3)]) h rfl rfl rfl) z144_at rfl
                        rcases h with ⟨v25, σ26, r27, f, g, h⟩ | ⟨b, σ26, r27, e⟩
                        · skip
                          have er27 := ro2_run rfl r27
                          rw [er27] at h r27
                          clear g
                          have p28 := x144 hsτ.1 r27
                          refine Or.inl ⟨v25, p28, ?_⟩
                          replace h : EV F f 178 z178 240 [some (rf 11 (0)), y1, y2, some (.inl (u3)), some (.inr (.inl (u4))), none, some (.inr (.inl (u6))), none, some (.inl (u8)), some (.inl (t0)), y10, y11] [.inr (.inl (v25))] τ (w, σ') := h
                          replace h := ei_p h rfl rfl rfl rfl
                          obtain ⟨f, g, h⟩ := h
                          clear g
                          replace h : EV F f 178 z178 241 [some (rf 11 (0)), y1, y2, some (.inl (u3)), some (.inr (.inl (u4))), none, some (.inr (.inl (u6))), none, some (.inl (u8)), some (.inl (t0)), y10, y11] [.inr (.inl (Int64.ofNat 0)), .inr (.inl (v25))] τ (w, σ') := h
                          replace h := ei_p h rfl rfl rfl rfl
                          obtain ⟨f, g, h⟩ := h
                          clear g
                          replace h : EV F f 178 z178 242 [some (rf 11 (0)), y1, y2, some (.inl (u3)), some (.inr (.inl (u4))), none, some (.inr (.inl (u6))), none, some (.inl (u8)), some (.inl (t0)), y10, y11] [.inl (lg_cmp (v25) (Int64.ofNat 0))] τ (w, σ') := h
                          replace h := ei_c h rfl rfl rfl
                          rcases h with ⟨hp29, f, g, h⟩ | ⟨hp29, f, g, h⟩
                          · skip
                            replace hp29 : (v25).toInt ≠ (Int64.ofNat 0).toInt := (ab_lc .ne _ _).mp hp29
                            refine Or.inl ⟨hp29, ?_⟩
                            clear g
                            replace h : EV F f 178 z178 280 [some (rf 11 (0)), y1, y2, some (.inl (u3)), some (.inr (.inl (u4))), none, some (.inr (.inl (u6))), none, some (.inl (u8)), some (.inl (t0)), y10, y11] [] τ (w, σ') := h
                            exact j178_280 hsτ h
                          · skip
                            replace hp29 : ¬ ((v25).toInt ≠ (Int64.ofNat 0).toInt) := (not_congr (ab_lc .ne _ _)).mp hp29
                            refine Or.inr ⟨hp29, ?_⟩
                            clear g
                            replace h : EV F f 178 z178 245 [some (rf 11 (0)), y1, y2, some (.inl (u3)), some (.inr (.inl (u4))), none, some (.inr (.inl (u6))), none, some (.inl (u8)), some (.inl (t0)), y10, y11] [] τ (w, σ') := h
                            replace h := ei_p h rfl rfl rfl rfl
                            obtain ⟨f, g, h⟩ := h
                            clear g
                            replace h : EV F f 178 z178 246 [some (rf 11 (0)), y1, y2, some (.inl (u3)), some (.inr (.inl (u4))), none, some (.inr (.inl (u6))), none, some (.inl (u8)), some (.inl (t0)), y10, y11] [rf 11 (0)] τ (w, σ') := h
                            replace h := ei_p h rfl rfl rfl rfl
                            obtain ⟨f, g, h⟩ := h
                            clear g
                            replace h : EV F f 178 z178 247 [some (rf 11 (0)), y1, y2, some (.inl (u3)), some (.inr (.inl (u4))), none, some (.inr (.inl (u6))), none, some (.inl (u8)), some (.inl (t0)), y10, y11] [.inl (u3), rf 11 (0)] τ (w, σ') := h
                            replace h := ei_p h rfl rfl rfl rfl
                            obtain ⟨f, g, h⟩ := h
                            clear g
                            replace h : EV F f 178 z178 248 [some (rf 11 (0)), y1, y2, some (.inl (u3)), some (.inr (.inl (u4))), none, some (.inr (.inl (u6))), none, some (.inl (u8)), some (.inl (t0)), y10, y11] [.inl (Int32.ofInt 2), .inl (u3), rf 11 (0)] τ (w, σ') := h
                            replace h := bx_L (ei_v (as := [.inl (Int32.ofInt 2), .inl (u3)]) h rfl rfl rfl) z144_at rfl
                            rcases h with ⟨v30, σ31, r32, f, g, h⟩ | ⟨b, σ31, r32, e⟩
                            · skip
                              have er32 := ro2_run rfl r32
                              rw [er32] at h r32
                              clear g
                              have p33 := x144 hsτ.1 r32
                              refine Or.inl ⟨v30, p33, ?_⟩
                              replace h : EV F f 178 z178 251 [some (rf 11 (0)), y1, y2, some (.inl (u3)), some (.inr (.inl (u4))), none, some (.inr (.inl (u6))), none, some (.inl (u8)), some (.inl (t0)), y10, y11] [.inr (.inl (v30))] τ (w, σ') := h
                              replace h := ei_p h rfl rfl rfl rfl
                              obtain ⟨f, g, h⟩ := h
                              clear g
                              replace h : EV F f 178 z178 252 [some (rf 11 (0)), y1, y2, some (.inl (u3)), some (.inr (.inl (u4))), none, some (.inr (.inl (u6))), none, some (.inl (u8)), some (.inl (t0)), y10, y11] [.inr (.inl (Int64.ofNat 0)), .inr (.inl (v30))] τ (w, σ') := h
                              replace h := ei_p h rfl rfl rfl rfl
                              obtain ⟨f, g, h⟩ := h
                              clear g
                              replace h : EV F f 178 z178 253 [some (rf 11 (0)), y1, y2, some (.inl (u3)), some (.inr (.inl (u4))), none, some (.inr (.inl (u6))), none, some (.inl (u8)), some (.inl (t0)), y10, y11] [.inl (lg_cmp (v30) (Int64.ofNat 0))] τ (w, σ') := h
                              replace h := ei_c h rfl rfl rfl
                              rcases h with ⟨hp34, f, g, h⟩ | ⟨hp34, f, g, h⟩
                              · skip
                                replace hp34 : (v30).toInt ≠ (Int64.ofNat 0).toInt := (ab_lc .ne _ _).mp hp34
                                refine Or.inl ⟨hp34, ?_⟩
                                clear g
                                replace h : EV F f 178 z178 280 [some (rf 11 (0)), y1, y2, some (.inl (u3)), some (.inr (.inl (u4))), none, some (.inr (.inl (u6))), none, some (.inl (u8)), some (.inl (t0)), y10, y11] [] τ (w, σ') := h
                                exact j178_280 hsτ h
                              · skip
                                replace hp34 : ¬ ((v30).toInt ≠ (Int64.ofNat 0).toInt) := (not_congr (ab_lc .ne _ _)).mp hp34
                                refine Or.inr ⟨hp34, ?_⟩
                                clear g
                                replace h : EV F f 178 z178 256 [some (rf 11 (0)), y1, y2, some (.inl (u3)), some (.inr (.inl (u4))), none, some (.inr (.inl (u6))), none, some (.inl (u8)), some (.inl (t0)), y10, y11] [] τ (w, σ') := h
                                exact j178_256 hsτ h
                            · skip
                              have er32 := ro2_run rfl r32
                              rw [er32] at e r32
                              have p33 := x144 hsτ.1 r32
                              cases e
                              exact Or.inr ⟨b, p33, rfl, rfl⟩
                        · skip
                          have er27 := ro2_run rfl r27
                          rw [er27] at e r27
                          have p28 := x144 hsτ.1 r27
                          cases e
                          exact Or.inr ⟨b, p28, rfl, rfl⟩
                    · skip
                      have er22 := ro2_run rfl r22
                      rw [er22] at e r22
                      have p23 := x144 hsτ.1 r22
                      cases e
                      exact Or.inr ⟨b, p23, rfl, rfl⟩
              · skip
                have er16 := ro2_run rfl r16
                rw [er16] at e r16
                have p17 := x145 hsτ.1 r16
                cases e
                exact Or.inr ⟨b, p17, rfl, rfl⟩
      · skip
        have er8 := ro2_run rfl r8
        rw [er8] at e r8
        have p9 := x147 hsτ.1 r8
        cases e
        exact Or.inr ⟨b, p9, rfl, rfl⟩
  · skip
    have er3 := ro2_run rfl r3
    rw [er3] at e r3
    have p4 := x148 hsτ.1 r3
    cases e
    exact Or.inr ⟨b, p4, rfl, rfl⟩
abbrev B178_59 (c1 : Int32) (c2 : Int64) (ih : Int64 → Int32 → mS → mX → mS → Prop) (u6 : Int64) (u8 : Int32) (τ : mS) (w : mX) (σ' : mS) : Prop := (0 ≤ (1 : Int) ∧ (1 : Int) < (τ.2.1 13 (17) : Int)) ∧ (((m_i τ 13 (17) (Int32.ofInt 1).toNatClampNeg).toInt ≤ (u8).toInt ∧ ((∃ v3, P149 τ (c1) (.inl (some (.inl v3))) τ ∧ ((((v3) - (v3) / (Int32.ofInt 10) * (Int32.ofInt 10)).toInt ≤ (1 : Int) ∧ J178_169 (c1) (c2) (u6) (v3) (Int32.ofInt 0) τ w σ') ∨ (¬ (((v3) - (v3) / (Int32.ofInt 10) * (Int32.ofInt 10)).toInt ≤ (1 : Int)) ∧ J178_169 (c1) (c2) (u6) (v3) (Int32.ofInt 1) τ w σ'))) ∨ (∃ b, P149 τ (c1) (.inr b) τ ∧ w = .inr b ∧ σ' = τ))) ∨ (¬ ((m_i τ 13 (17) (Int32.ofInt 1).toNatClampNeg).toInt ≤ (u8).toInt) ∧ (((∃ v10, P144 τ (c1) (Int32.ofInt 0) (.inl (some (.inr (.inl v10)))) τ ∧ ((∃ v14, P140 τ (Int32.ofInt 0) (.inl (some (.inl v14))) τ ∧ (0 ≤ (((Int32.ofInt 3) * (u8)) + (Int32.ofInt 0)).toInt ∧ (((Int32.ofInt 3) * (u8)) + (Int32.ofInt 0)).toInt < (τ.2.1 13 (16) : Int)) ∧ ∃ n21, n21 = (Int64.ofNat 0) + ((((v10) * (((v14) / (Int32.ofInt 10)).toInt64)) * ((m_i τ 13 (16) (((Int32.ofInt 3) * (u8)) + (Int32.ofInt 0)).toNatClampNeg).toInt64)) / (Int64.ofInt 100)) ∧ (((∃ v24, P144 τ (c1) (Int32.ofInt 1) (.inl (some (.inr (.inl v24)))) τ ∧ ((∃ v28, P140 τ (Int32.ofInt 1) (.inl (some (.inl v28))) τ ∧ (0 ≤ (((Int32.ofInt 3) * (u8)) + (Int32.ofInt 1)).toInt ∧ (((Int32.ofInt 3) * (u8)) + (Int32.ofInt 1)).toInt < (τ.2.1 13 (16) : Int)) ∧ ∃ n35, n35 = (n21) + ((((v24) * (((v28) / (Int32.ofInt 10)).toInt64)) * ((m_i τ 13 (16) (((Int32.ofInt 3) * (u8)) + (Int32.ofInt 1)).toNatClampNeg).toInt64)) / (Int64.ofInt 100)) ∧ (((∃ v38, P144 τ (c1) (Int32.ofInt 2) (.inl (some (.inr (.inl v38)))) τ ∧ ((∃ v42, P140 τ (Int32.ofInt 2) (.inl (some (.inl v42))) τ ∧ (0 ≤ (((Int32.ofInt 3) * (u8)) + (Int32.ofInt 2)).toInt ∧ (((Int32.ofInt 3) * (u8)) + (Int32.ofInt 2)).toInt < (τ.2.1 13 (16) : Int)) ∧ ∃ n49, n49 = (n35) + ((((v38) * (((v42) / (Int32.ofInt 10)).toInt64)) * ((m_i τ 13 (16) (((Int32.ofInt 3) * (u8)) + (Int32.ofInt 2)).toNatClampNeg).toInt64)) / (Int64.ofInt 100)) ∧ ((((-(n49)).toInt ≤ (u6).toInt ∧ ih (u6) ((u8) + Int32.ofInt 1) τ w σ') ∨ (¬ ((-(n49)).toInt ≤ (u6).toInt) ∧ ih (-(n49)) ((u8) + Int32.ofInt 1) τ w σ')))) ∨ (∃ b, P140 τ (Int32.ofInt 2) (.inr b) τ ∧ w = .inr b ∧ σ' = τ))) ∨ (∃ b, P144 τ (c1) (Int32.ofInt 2) (.inr b) τ ∧ w = .inr b ∧ σ' = τ)))) ∨ (∃ b, P140 τ (Int32.ofInt 1) (.inr b) τ ∧ w = .inr b ∧ σ' = τ))) ∨ (∃ b, P144 τ (c1) (Int32.ofInt 1) (.inr b) τ ∧ w = .inr b ∧ σ' = τ)))) ∨ (∃ b, P140 τ (Int32.ofInt 0) (.inr b) τ ∧ w = .inr b ∧ σ' = τ))) ∨ (∃ b, P144 τ (c1) (Int32.ofInt 0) (.inr b) τ ∧ w = .inr b ∧ σ' = τ)))))
def Q178_59 (c1 : Int32) (c2 : Int64) : Nat → Int64 → Int32 → mS → mX → mS → Prop
  | 0 => fun _ _ _ _ _ => False
  | n + 1 => B178_59 c1 c2 (Q178_59 c1 c2 n)
set_option maxRecDepth 100000 in
theorem q178_59 {F : Nat} {σ' : mS} {c1 : Int32} {c2 : Int64} {w : mX} : ∀ N f, f < N → ∀ (u6 : Int64) (u8 : Int32) (y9 : Option mV) (y10 : Option mV) (y11 : Option mV) (τ : mS), HL τ → EV F f 178 z178 59 [some (rf 11 (0)), some (rf 13 (16)), some (rf 13 (17)), some (.inl (c1)), some (.inr (.inl (c2))), none, some (.inr (.inl (u6))), none, some (.inl (u8)), y9, y10, y11] [] τ (w, σ') → Q178_59 c1 c2 N u6 u8 τ w σ' := by
  intro N
  induction N with
  | zero => intro f hf; omega
  | succ N IH =>
    intro f hf0 u6 u8 y9 y10 y11 τ hsτ h
    have hf : f < N + 1 := hf0
    clear hf0
    show B178_59 c1 c2 (Q178_59 c1 c2 N) u6 u8 τ w σ'
    replace h := ei_p h rfl rfl rfl rfl
    obtain ⟨f, g, h⟩ := h
    replace hf := Nat.lt_of_lt_of_le g (Nat.le_of_lt_succ hf)
    clear g
    replace h : EV F f 178 z178 61 [some (rf 11 (0)), some (rf 13 (16)), some (rf 13 (17)), some (.inl (c1)), some (.inr (.inl (c2))), none, some (.inr (.inl (u6))), none, some (.inl (u8)), y9, y10, y11] [.inl (u8)] τ (w, σ') := h
    replace h := ei_p h rfl rfl rfl rfl
    obtain ⟨f, g, h⟩ := h
    replace hf := Nat.lt_trans g hf
    clear g
    replace h : EV F f 178 z178 62 [some (rf 11 (0)), some (rf 13 (16)), some (rf 13 (17)), some (.inl (c1)), some (.inr (.inl (c2))), none, some (.inr (.inl (u6))), none, some (.inl (u8)), y9, y10, y11] [rf 13 (17), .inl (u8)] τ (w, σ') := h
    replace h := ei_p h rfl rfl rfl rfl
    obtain ⟨f, g, h⟩ := h
    replace hf := Nat.lt_trans g hf
    clear g
    replace h : EV F f 178 z178 63 [some (rf 11 (0)), some (rf 13 (16)), some (rf 13 (17)), some (.inl (c1)), some (.inr (.inl (c2))), none, some (.inr (.inl (u6))), none, some (.inl (u8)), y9, y10, y11] [.inl (Int32.ofInt 1), rf 13 (17), .inl (u8)] τ (w, σ') := h
    replace h := ei_iald h rfl (fun _ => rfl)
    obtain ⟨vp1, f, g, h⟩ := h
    replace hf := Nat.lt_trans g hf
    clear g
    replace h : EV F f 178 z178 64 [some (rf 11 (0)), some (rf 13 (16)), some (rf 13 (17)), some (.inl (c1)), some (.inr (.inl (c2))), none, some (.inr (.inl (u6))), none, some (.inl (u8)), y9, y10, y11] [.inl (m_i τ 13 (17) (Int32.ofInt 1).toNatClampNeg), .inl (u8)] τ (w, σ') := h
    refine ⟨vp_2 vp1, ?_⟩
    replace h := ei_c h rfl rfl rfl
    rcases h with ⟨hp2, f, g, h⟩ | ⟨hp2, f, g, h⟩
    · skip
      replace hp2 : (m_i τ 13 (17) (Int32.ofInt 1).toNatClampNeg).toInt ≤ (u8).toInt := ic_ge.mp hp2
      refine Or.inl ⟨hp2, ?_⟩
      replace hf := Nat.lt_trans g hf
      clear g
      replace h : EV F f 178 z178 148 [some (rf 11 (0)), some (rf 13 (16)), some (rf 13 (17)), some (.inl (c1)), some (.inr (.inl (c2))), none, some (.inr (.inl (u6))), none, some (.inl (u8)), y9, y10, y11] [] τ (w, σ') := h
      replace h := ei_p h rfl rfl rfl rfl
      obtain ⟨f, g, h⟩ := h
      replace hf := Nat.lt_trans g hf
      clear g
      replace h : EV F f 178 z178 149 [some (rf 11 (0)), some (rf 13 (16)), some (rf 13 (17)), some (.inl (c1)), some (.inr (.inl (c2))), none, some (.inr (.inl (u6))), none, some (.inl (u8)), y9, y10, y11] [rf 11 (0)] τ (w, σ') := h
      replace h := ei_p h rfl rfl rfl rfl
      obtain ⟨f, g, h⟩ := h
      replace hf := Nat.lt_trans g hf
      clear g
      replace h : EV F f 178 z178 150 [some (rf 11 (0)), some (rf 13 (16)), some (rf 13 (17)), some (.inl (c1)), some (.inr (.inl (c2))), none, some (.inr (.inl (u6))), none, some (.inl (u8)), y9, y10, y11] [.inl (c1), rf 11 (0)] τ (w, σ') := h
      replace h := bx_I (ei_v (as := [.inl (c1)]) h rfl rfl rfl) z149_at (Or.inl rfl)
      rcases h with ⟨v3, σ4, r5, f, g, h⟩ | ⟨b, σ4, r5, e⟩
      · skip
        have er5 := ro2_run rfl r5
        rw [er5] at h r5
        replace hf := Nat.lt_trans g hf
        clear g
        have p6 := x149 hsτ.1 r5
        refine Or.inl ⟨v3, p6, ?_⟩
        replace h : EV F f 178 z178 153 [some (rf 11 (0)), some (rf 13 (16)), some (rf 13 (17)), some (.inl (c1)), some (.inr (.inl (c2))), none, some (.inr (.inl (u6))), none, some (.inl (u8)), y9, y10, y11] [.inl (v3)] τ (w, σ') := h
        replace h := ei_p h rfl rfl rfl rfl
        obtain ⟨f, g, h⟩ := h
        replace hf := Nat.lt_trans g hf
        clear g
        replace h : EV F f 178 z178 155 [some (rf 11 (0)), some (rf 13 (16)), some (rf 13 (17)), some (.inl (c1)), some (.inr (.inl (c2))), none, some (.inr (.inl (u6))), none, some (.inl (v3)), y9, y10, y11] [] τ (w, σ') := h
        replace h := ei_p h rfl rfl rfl rfl
        obtain ⟨f, g, h⟩ := h
        replace hf := Nat.lt_trans g hf
        clear g
        replace h : EV F f 178 z178 157 [some (rf 11 (0)), some (rf 13 (16)), some (rf 13 (17)), some (.inl (c1)), some (.inr (.inl (c2))), none, some (.inr (.inl (u6))), none, some (.inl (v3)), y9, y10, y11] [.inl (v3)] τ (w, σ') := h
        replace h := ei_p h rfl rfl rfl rfl
        obtain ⟨f, g, h⟩ := h
        replace hf := Nat.lt_trans g hf
        clear g
        replace h : EV F f 178 z178 159 [some (rf 11 (0)), some (rf 13 (16)), some (rf 13 (17)), some (.inl (c1)), some (.inr (.inl (c2))), none, some (.inr (.inl (u6))), none, some (.inl (v3)), y9, y10, y11] [.inl (Int32.ofInt 10), .inl (v3)] τ (w, σ') := h
        replace h := ei_irem h rfl
        obtain ⟨hd7, f, g, h⟩ := h
        replace hf := Nat.lt_trans g hf
        clear g
        replace h : EV F f 178 z178 160 [some (rf 11 (0)), some (rf 13 (16)), some (rf 13 (17)), some (.inl (c1)), some (.inr (.inl (c2))), none, some (.inr (.inl (u6))), none, some (.inl (v3)), y9, y10, y11] [.inl ((v3) - (v3) / (Int32.ofInt 10) * (Int32.ofInt 10))] τ (w, σ') := h
        replace h := ei_p h rfl rfl rfl rfl
        obtain ⟨f, g, h⟩ := h
        replace hf := Nat.lt_trans g hf
        clear g
        replace h : EV F f 178 z178 161 [some (rf 11 (0)), some (rf 13 (16)), some (rf 13 (17)), some (.inl (c1)), some (.inr (.inl (c2))), none, some (.inr (.inl (u6))), none, some (.inl (v3)), y9, y10, y11] [.inl (Int32.ofInt 1), .inl ((v3) - (v3) / (Int32.ofInt 10) * (Int32.ofInt 10))] τ (w, σ') := h
        replace h := ei_c h rfl rfl rfl
        rcases h with ⟨hp8, f, g, h⟩ | ⟨hp8, f, g, h⟩
        · skip
          replace hp8 : ((v3) - (v3) / (Int32.ofInt 10) * (Int32.ofInt 10)).toInt ≤ (1 : Int) := ic_le.mp hp8
          refine Or.inl ⟨hp8, ?_⟩
          replace hf := Nat.lt_trans g hf
          clear g
          replace h : EV F f 178 z178 168 [some (rf 11 (0)), some (rf 13 (16)), some (rf 13 (17)), some (.inl (c1)), some (.inr (.inl (c2))), none, some (.inr (.inl (u6))), none, some (.inl (v3)), y9, y10, y11] [] τ (w, σ') := h
          replace h := ei_p h rfl rfl rfl rfl
          obtain ⟨f, g, h⟩ := h
          replace hf := Nat.lt_trans g hf
          clear g
          replace h : EV F f 178 z178 169 [some (rf 11 (0)), some (rf 13 (16)), some (rf 13 (17)), some (.inl (c1)), some (.inr (.inl (c2))), none, some (.inr (.inl (u6))), none, some (.inl (v3)), y9, y10, y11] [.inl (Int32.ofInt 0)] τ (w, σ') := h
          exact j178_169 hsτ h
        · skip
          replace hp8 : ¬ (((v3) - (v3) / (Int32.ofInt 10) * (Int32.ofInt 10)).toInt ≤ (1 : Int)) := (not_congr ic_le).mp hp8
          refine Or.inr ⟨hp8, ?_⟩
          replace hf := Nat.lt_trans g hf
          clear g
          replace h : EV F f 178 z178 164 [some (rf 11 (0)), some (rf 13 (16)), some (rf 13 (17)), some (.inl (c1)), some (.inr (.inl (c2))), none, some (.inr (.inl (u6))), none, some (.inl (v3)), y9, y10, y11] [] τ (w, σ') := h
          replace h := ei_p h rfl rfl rfl rfl
          obtain ⟨f, g, h⟩ := h
          replace hf := Nat.lt_trans g hf
          clear g
          replace h : EV F f 178 z178 165 [some (rf 11 (0)), some (rf 13 (16)), some (rf 13 (17)), some (.inl (c1)), some (.inr (.inl (c2))), none, some (.inr (.inl (u6))), none, some (.inl (v3)), y9, y10, y11] [.inl (Int32.ofInt 1)] τ (w, σ') := h
          replace h := ei_p h rfl rfl rfl rfl
          obtain ⟨f, g, h⟩ := h
          replace hf := Nat.lt_trans g hf
          clear g
          replace h : EV F f 178 z178 169 [some (rf 11 (0)), some (rf 13 (16)), some (rf 13 (17)), some (.inl (c1)), some (.inr (.inl (c2))), none, some (.inr (.inl (u6))), none, some (.inl (v3)), y9, y10, y11] [.inl (Int32.ofInt 1)] τ (w, σ') := h
          exact j178_169 hsτ h
      · skip
        have er5 := ro2_run rfl r5
        rw [er5] at e r5
        have p6 := x149 hsτ.1 r5
        cases e
        exact Or.inr ⟨b, p6, rfl, rfl⟩
    · skip
      replace hp2 : ¬ ((m_i τ 13 (17) (Int32.ofInt 1).toNatClampNeg).toInt ≤ (u8).toInt) := (not_congr ic_ge).mp hp2
      refine Or.inr ⟨hp2, ?_⟩
      replace hf := Nat.lt_trans g hf
      clear g
      replace h : EV F f 178 z178 67 [some (rf 11 (0)), some (rf 13 (16)), some (rf 13 (17)), some (.inl (c1)), some (.inr (.inl (c2))), none, some (.inr (.inl (u6))), none, some (.inl (u8)), y9, y10, y11] [] τ (w, σ') := h
      replace h := ei_p h rfl rfl rfl rfl
      obtain ⟨f, g, h⟩ := h
      replace hf := Nat.lt_trans g hf
      clear g
      replace h : EV F f 178 z178 68 [some (rf 11 (0)), some (rf 13 (16)), some (rf 13 (17)), some (.inl (c1)), some (.inr (.inl (c2))), none, some (.inr (.inl (u6))), none, some (.inl (u8)), y9, y10, y11] [.inr (.inl (Int64.ofNat 0))] τ (w, σ') := h
      replace h := ei_p h rfl rfl rfl rfl
      obtain ⟨f, g, h⟩ := h
      replace hf := Nat.lt_trans g hf
      clear g
      replace h : EV F f 178 z178 70 [some (rf 11 (0)), some (rf 13 (16)), some (rf 13 (17)), some (.inl (c1)), some (.inr (.inl (c2))), none, some (.inr (.inl (u6))), none, some (.inl (u8)), some (.inr (.inl (Int64.ofNat 0))), none, y11] [] τ (w, σ') := h
      replace h := ei_p h rfl rfl rfl rfl
      obtain ⟨f, g, h⟩ := h
      replace hf := Nat.lt_trans g hf
      clear g
      replace h : EV F f 178 z178 71 [some (rf 11 (0)), some (rf 13 (16)), some (rf 13 (17)), some (.inl (c1)), some (.inr (.inl (c2))), none, some (.inr (.inl (u6))), none, some (.inl (u8)), some (.inr (.inl (Int64.ofNat 0))), none, y11] [.inl (Int32.ofInt 0)] τ (w, σ') := h
      replace h := ei_p h rfl rfl rfl rfl
      obtain ⟨f, g, h⟩ := h
      replace hf := Nat.lt_trans g hf
      clear g
      replace h : EV F f 178 z178 73 [some (rf 11 (0)), some (rf 13 (16)), some (rf 13 (17)), some (.inl (c1)), some (.inr (.inl (c2))), none, some (.inr (.inl (u6))), none, some (.inl (u8)), some (.inr (.inl (Int64.ofNat 0))), none, some (.inl (Int32.ofInt 0))] [] τ (w, σ') := h
      replace h := ei_p h rfl rfl rfl rfl
      obtain ⟨f, g, h⟩ := h
      replace hf := Nat.lt_trans g hf
      clear g
      replace h : EV F f 178 z178 75 [some (rf 11 (0)), some (rf 13 (16)), some (rf 13 (17)), some (.inl (c1)), some (.inr (.inl (c2))), none, some (.inr (.inl (u6))), none, some (.inl (u8)), some (.inr (.inl (Int64.ofNat 0))), none, some (.inl (Int32.ofInt 0))] [.inl (Int32.ofInt 0)] τ (w, σ') := h
      replace h := ei_p h rfl rfl rfl rfl
      obtain ⟨f, g, h⟩ := h
      replace hf := Nat.lt_trans g hf
      clear g
      replace h : EV F f 178 z178 76 [some (rf 11 (0)), some (rf 13 (16)), some (rf 13 (17)), some (.inl (c1)), some (.inr (.inl (c2))), none, some (.inr (.inl (u6))), none, some (.inl (u8)), some (.inr (.inl (Int64.ofNat 0))), none, some (.inl (Int32.ofInt 0))] [.inl (Int32.ofInt 3), .inl (Int32.ofInt 0)] τ (w, σ') := h
      replace h := ei_c h rfl rfl rfl
      rcases h with ⟨hp9, f, g, h⟩ | ⟨hp9, f, g, h⟩
      · exact absurd (ic_ge.mp hp9) (by decide)
      · skip
        replace hf := Nat.lt_trans g hf
        clear g
        replace h : EV F f 178 z178 79 [some (rf 11 (0)), some (rf 13 (16)), some (rf 13 (17)), some (.inl (c1)), some (.inr (.inl (c2))), none, some (.inr (.inl (u6))), none, some (.inl (u8)), some (.inr (.inl (Int64.ofNat 0))), none, some (.inl (Int32.ofInt 0))] [] τ (w, σ') := h
        replace h := ei_p h rfl rfl rfl rfl
        obtain ⟨f, g, h⟩ := h
        replace hf := Nat.lt_trans g hf
        clear g
        replace h : EV F f 178 z178 81 [some (rf 11 (0)), some (rf 13 (16)), some (rf 13 (17)), some (.inl (c1)), some (.inr (.inl (c2))), none, some (.inr (.inl (u6))), none, some (.inl (u8)), some (.inr (.inl (Int64.ofNat 0))), none, some (.inl (Int32.ofInt 0))] [.inr (.inl (Int64.ofNat 0))] τ (w, σ') := h
        replace h := ei_p h rfl rfl rfl rfl
        obtain ⟨f, g, h⟩ := h
        replace hf := Nat.lt_trans g hf
        clear g
        replace h : EV F f 178 z178 82 [some (rf 11 (0)), some (rf 13 (16)), some (rf 13 (17)), some (.inl (c1)), some (.inr (.inl (c2))), none, some (.inr (.inl (u6))), none, some (.inl (u8)), some (.inr (.inl (Int64.ofNat 0))), none, some (.inl (Int32.ofInt 0))] [rf 11 (0), .inr (.inl (Int64.ofNat 0))] τ (w, σ') := h
        replace h := ei_p h rfl rfl rfl rfl
        obtain ⟨f, g, h⟩ := h
        replace hf := Nat.lt_trans g hf
        clear g
        replace h : EV F f 178 z178 83 [some (rf 11 (0)), some (rf 13 (16)), some (rf 13 (17)), some (.inl (c1)), some (.inr (.inl (c2))), none, some (.inr (.inl (u6))), none, some (.inl (u8)), some (.inr (.inl (Int64.ofNat 0))), none, some (.inl (Int32.ofInt 0))] [.inl (c1), rf 11 (0), .inr (.inl (Int64.ofNat 0))] τ (w, σ') := h
        replace h := ei_p h rfl rfl rfl rfl
        obtain ⟨f, g, h⟩ := h
        replace hf := Nat.lt_trans g hf
        clear g
        replace h : EV F f 178 z178 85 [some (rf 11 (0)), some (rf 13 (16)), some (rf 13 (17)), some (.inl (c1)), some (.inr (.inl (c2))), none, some (.inr (.inl (u6))), none, some (.inl (u8)), some (.inr (.inl (Int64.ofNat 0))), none, some (.inl (Int32.ofInt 0))] [.inl (Int32.ofInt 0), .inl (c1), rf 11 (0), .inr (.inl (Int64.ofNat 0))] τ (w, σ') := h
        replace h := bx_L (ei_v (as := [.inl (Int32.ofInt 0), .inl (c1)]) h rfl rfl rfl) z144_at rfl
        rcases h with ⟨v10, σ11, r12, f, g, h⟩ | ⟨b, σ11, r12, e⟩
        · skip
          have er12 := ro2_run rfl r12
          rw [er12] at h r12
          replace hf := Nat.lt_trans g hf
          clear g
          have p13 := x144 hsτ.1 r12
          refine Or.inl ⟨v10, p13, ?_⟩
          replace h : EV F f 178 z178 88 [some (rf 11 (0)), some (rf 13 (16)), some (rf 13 (17)), some (.inl (c1)), some (.inr (.inl (c2))), none, some (.inr (.inl (u6))), none, some (.inl (u8)), some (.inr (.inl (Int64.ofNat 0))), none, some (.inl (Int32.ofInt 0))] [.inr (.inl (v10)), .inr (.inl (Int64.ofNat 0))] τ (w, σ') := h
          replace h := ei_p h rfl rfl rfl rfl
          obtain ⟨f, g, h⟩ := h
          replace hf := Nat.lt_trans g hf
          clear g
          replace h : EV F f 178 z178 89 [some (rf 11 (0)), some (rf 13 (16)), some (rf 13 (17)), some (.inl (c1)), some (.inr (.inl (c2))), none, some (.inr (.inl (u6))), none, some (.inl (u8)), some (.inr (.inl (Int64.ofNat 0))), none, some (.inl (Int32.ofInt 0))] [rf 11 (0), .inr (.inl (v10)), .inr (.inl (Int64.ofNat 0))] τ (w, σ') := h
          replace h := ei_p h rfl rfl rfl rfl
          obtain ⟨f, g, h⟩ := h
          replace hf := Nat.lt_trans g hf
          clear g
          replace h : EV F f 178 z178 91 [some (rf 11 (0)), some (rf 13 (16)), some (rf 13 (17)), some (.inl (c1)), some (.inr (.inl (c2))), none, some (.inr (.inl (u6))), none, some (.inl (u8)), some (.inr (.inl (Int64.ofNat 0))), none, some (.inl (Int32.ofInt 0))] [.inl (Int32.ofInt 0), rf 11 (0), .inr (.inl (v10)), .inr (.inl (Int64.ofNat 0))] τ (w, σ') := h
          replace h := bx_I (ei_v (as := [.inl (Int32.ofInt 0)]) h rfl rfl rfl) z140_at (Or.inl rfl)
          rcases h with ⟨v14, σ15, r16, f, g, h⟩ | ⟨b, σ15, r16, e⟩
          · skip
            have er16 := ro2_run rfl r16
            rw [er16] at h r16
            replace hf := Nat.lt_trans g hf
            clear g
            have p17 := x140 hsτ.1 r16
            refine Or.inl ⟨v14, p17, ?_⟩
            replace h : EV F f 178 z178 94 [some (rf 11 (0)), some (rf 13 (16)), some (rf 13 (17)), some (.inl (c1)), some (.inr (.inl (c2))), none, some (.inr (.inl (u6))), none, some (.inl (u8)), some (.inr (.inl (Int64.ofNat 0))), none, some (.inl (Int32.ofInt 0))] [.inl (v14), .inr (.inl (v10)), .inr (.inl (Int64.ofNat 0))] τ (w, σ') := h
            replace h := ei_p h rfl rfl rfl rfl
            obtain ⟨f, g, h⟩ := h
            replace hf := Nat.lt_trans g hf
            clear g
            replace h : EV F f 178 z178 96 [some (rf 11 (0)), some (rf 13 (16)), some (rf 13 (17)), some (.inl (c1)), some (.inr (.inl (c2))), none, some (.inr (.inl (u6))), none, some (.inl (u8)), some (.inr (.inl (Int64.ofNat 0))), none, some (.inl (Int32.ofInt 0))] [.inl (Int32.ofInt 10), .inl (v14), .inr (.inl (v10)), .inr (.inl (Int64.ofNat 0))] τ (w, σ') := h
            replace h := ei_idiv h rfl
            obtain ⟨hd18, f, g, h⟩ := h
            replace hf := Nat.lt_trans g hf
            clear g
            replace h : EV F f 178 z178 97 [some (rf 11 (0)), some (rf 13 (16)), some (rf 13 (17)), some (.inl (c1)), some (.inr (.inl (c2))), none, some (.inr (.inl (u6))), none, some (.inl (u8)), some (.inr (.inl (Int64.ofNat 0))), none, some (.inl (Int32.ofInt 0))] [.inl ((v14) / (Int32.ofInt 10)), .inr (.inl (v10)), .inr (.inl (Int64.ofNat 0))] τ (w, σ') := h
            replace h := ei_p h rfl rfl rfl rfl
            obtain ⟨f, g, h⟩ := h
            replace hf := Nat.lt_trans g hf
            clear g
            replace h : EV F f 178 z178 98 [some (rf 11 (0)), some (rf 13 (16)), some (rf 13 (17)), some (.inl (c1)), some (.inr (.inl (c2))), none, some (.inr (.inl (u6))), none, some (.inl (u8)), some (.inr (.inl (Int64.ofNat 0))), none, some (.inl (Int32.ofInt 0))] [.inr (.inl (((v14) / (Int32.ofInt 10)).toInt64)), .inr (.inl (v10)), .inr (.inl (Int64.ofNat 0))] τ (w, σ') := h
            replace h := ei_p h rfl rfl rfl rfl
            obtain ⟨f, g, h⟩ := h
            replace hf := Nat.lt_trans g hf
            clear g
            replace h : EV F f 178 z178 99 [some (rf 11 (0)), some (rf 13 (16)), some (rf 13 (17)), some (.inl (c1)), some (.inr (.inl (c2))), none, some (.inr (.inl (u6))), none, some (.inl (u8)), some (.inr (.inl (Int64.ofNat 0))), none, some (.inl (Int32.ofInt 0))] [.inr (.inl ((v10) * (((v14) / (Int32.ofInt 10)).toInt64))), .inr (.inl (Int64.ofNat 0))] τ (w, σ') := h
            replace h := ei_p h rfl rfl rfl rfl
            obtain ⟨f, g, h⟩ := h
            replace hf := Nat.lt_trans g hf
            clear g
            replace h : EV F f 178 z178 100 [some (rf 11 (0)), some (rf 13 (16)), some (rf 13 (17)), some (.inl (c1)), some (.inr (.inl (c2))), none, some (.inr (.inl (u6))), none, some (.inl (u8)), some (.inr (.inl (Int64.ofNat 0))), none, some (.inl (Int32.ofInt 0))] [rf 13 (16), .inr (.inl ((v10) * (((v14) / (Int32.ofInt 10)).toInt64))), .inr (.inl (Int64.ofNat 0))] τ (w, σ') := h
            replace h := ei_p h rfl rfl rfl rfl
            obtain ⟨f, g, h⟩ := h
            replace hf := Nat.lt_trans g hf
            clear g
            replace h : EV F f 178 z178 101 [some (rf 11 (0)), some (rf 13 (16)), some (rf 13 (17)), some (.inl (c1)), some (.inr (.inl (c2))), none, some (.inr (.inl (u6))), none, some (.inl (u8)), some (.inr (.inl (Int64.ofNat 0))), none, some (.inl (Int32.ofInt 0))] [.inl (Int32.ofInt 3), rf 13 (16), .inr (.inl ((v10) * (((v14) / (Int32.ofInt 10)).toInt64))), .inr (.inl (Int64.ofNat 0))] τ (w, σ') := h
            replace h := ei_p h rfl rfl rfl rfl
            obtain ⟨f, g, h⟩ := h
            replace hf := Nat.lt_trans g hf
            clear g
            replace h : EV F f 178 z178 103 [some (rf 11 (0)), some (rf 13 (16)), some (rf 13 (17)), some (.inl (c1)), some (.inr (.inl (c2))), none, some (.inr (.inl (u6))), none, some (.inl (u8)), some (.inr (.inl (Int64.ofNat 0))), none, some (.inl (Int32.ofInt 0))] [.inl (u8), .inl (Int32.ofInt 3), rf 13 (16), .inr (.inl ((v10) * (((v14) / (Int32.ofInt 10)).toInt64))), .inr (.inl (Int64.ofNat 0))] τ (w, σ') := h
            replace h := ei_p h rfl rfl rfl rfl
            obtain ⟨f, g, h⟩ := h
            replace hf := Nat.lt_trans g hf
            clear g
            replace h : EV F f 178 z178 104 [some (rf 11 (0)), some (rf 13 (16)), some (rf 13 (17)), some (.inl (c1)), some (.inr (.inl (c2))), none, some (.inr (.inl (u6))), none, some (.inl (u8)), some (.inr (.inl (Int64.ofNat 0))), none, some (.inl (Int32.ofInt 0))] [.inl ((Int32.ofInt 3) * (u8)), rf 13 (16), .inr (.inl ((v10) * (((v14) / (Int32.ofInt 10)).toInt64))), .inr (.inl (Int64.ofNat 0))] τ (w, σ') := h
            replace h := ei_p h rfl rfl rfl rfl
            obtain ⟨f, g, h⟩ := h
            replace hf := Nat.lt_trans g hf
            clear g
            replace h : EV F f 178 z178 106 [some (rf 11 (0)), some (rf 13 (16)), some (rf 13 (17)), some (.inl (c1)), some (.inr (.inl (c2))), none, some (.inr (.inl (u6))), none, some (.inl (u8)), some (.inr (.inl (Int64.ofNat 0))), none, some (.inl (Int32.ofInt 0))] [.inl (Int32.ofInt 0), .inl ((Int32.ofInt 3) * (u8)), rf 13 (16), .inr (.inl ((v10) * (((v14) / (Int32.ofInt 10)).toInt64))), .inr (.inl (Int64.ofNat 0))] τ (w, σ') := h
            replace h := ei_p h rfl rfl rfl rfl
            obtain ⟨f, g, h⟩ := h
            replace hf := Nat.lt_trans g hf
            clear g
            replace h : EV F f 178 z178 107 [some (rf 11 (0)), some (rf 13 (16)), some (rf 13 (17)), some (.inl (c1)), some (.inr (.inl (c2))), none, some (.inr (.inl (u6))), none, some (.inl (u8)), some (.inr (.inl (Int64.ofNat 0))), none, some (.inl (Int32.ofInt 0))] [.inl (((Int32.ofInt 3) * (u8)) + (Int32.ofInt 0)), rf 13 (16), .inr (.inl ((v10) * (((v14) / (Int32.ofInt 10)).toInt64))), .inr (.inl (Int64.ofNat 0))] τ (w, σ') := h
            replace h := ei_iald h rfl (fun _ => rfl)
            obtain ⟨vp19, f, g, h⟩ := h
            replace hf := Nat.lt_trans g hf
            clear g
            replace h : EV F f 178 z178 108 [some (rf 11 (0)), some (rf 13 (16)), some (rf 13 (17)), some (.inl (c1)), some (.inr (.inl (c2))), none, some (.inr (.inl (u6))), none, some (.inl (u8)), some (.inr (.inl (Int64.ofNat 0))), none, some (.inl (Int32.ofInt 0))] [.inl (m_i τ 13 (16) (((Int32.ofInt 3) * (u8)) + (Int32.ofInt 0)).toNatClampNeg), .inr (.inl ((v10) * (((v14) / (Int32.ofInt 10)).toInt64))), .inr (.inl (Int64.ofNat 0))] τ (w, σ') := h
            refine ⟨vp_2 vp19, ?_⟩
            replace h := ei_p h rfl rfl rfl rfl
            obtain ⟨f, g, h⟩ := h
            replace hf := Nat.lt_trans g hf
            clear g
            replace h : EV F f 178 z178 109 [some (rf 11 (0)), some (rf 13 (16)), some (rf 13 (17)), some (.inl (c1)), some (.inr (.inl (c2))), none, some (.inr (.inl (u6))), none, some (.inl (u8)), some (.inr (.inl (Int64.ofNat 0))), none, some (.inl (Int32.ofInt 0))] [.inr (.inl ((m_i τ 13 (16) (((Int32.ofInt 3) * (u8)) + (Int32.ofInt 0)).toNatClampNeg).toInt64)), .inr (.inl ((v10) * (((v14) / (Int32.ofInt 10)).toInt64))), .inr (.inl (Int64.ofNat 0))] τ (w, σ') := h
            replace h := ei_p h rfl rfl rfl rfl
            obtain ⟨f, g, h⟩ := h
            replace hf := Nat.lt_trans g hf
            clear g
            replace h : EV F f 178 z178 110 [some (rf 11 (0)), some (rf 13 (16)), some (rf 13 (17)), some (.inl (c1)), some (.inr (.inl (c2))), none, some (.inr (.inl (u6))), none, some (.inl (u8)), some (.inr (.inl (Int64.ofNat 0))), none, some (.inl (Int32.ofInt 0))] [.inr (.inl (((v10) * (((v14) / (Int32.ofInt 10)).toInt64)) * ((m_i τ 13 (16) (((Int32.ofInt 3) * (u8)) + (Int32.ofInt 0)).toNatClampNeg).toInt64))), .inr (.inl (Int64.ofNat 0))] τ (w, σ') := h
            replace h := ei_p h rfl rfl rfl rfl
            obtain ⟨f, g, h⟩ := h
            replace hf := Nat.lt_trans g hf
            clear g
            replace h : EV F f 178 z178 113 [some (rf 11 (0)), some (rf 13 (16)), some (rf 13 (17)), some (.inl (c1)), some (.inr (.inl (c2))), none, some (.inr (.inl (u6))), none, some (.inl (u8)), some (.inr (.inl (Int64.ofNat 0))), none, some (.inl (Int32.ofInt 0))] [.inr (.inl (Int64.ofInt 100)), .inr (.inl (((v10) * (((v14) / (Int32.ofInt 10)).toInt64)) * ((m_i τ 13 (16) (((Int32.ofInt 3) * (u8)) + (Int32.ofInt 0)).toNatClampNeg).toInt64))), .inr (.inl (Int64.ofNat 0))] τ (w, σ') := h
            replace h := ei_ldiv h rfl
            obtain ⟨hd20, f, g, h⟩ := h
            replace hf := Nat.lt_trans g hf
            clear g
            replace h : EV F f 178 z178 114 [some (rf 11 (0)), some (rf 13 (16)), some (rf 13 (17)), some (.inl (c1)), some (.inr (.inl (c2))), none, some (.inr (.inl (u6))), none, some (.inl (u8)), some (.inr (.inl (Int64.ofNat 0))), none, some (.inl (Int32.ofInt 0))] [.inr (.inl ((((v10) * (((v14) / (Int32.ofInt 10)).toInt64)) * ((m_i τ 13 (16) (((Int32.ofInt 3) * (u8)) + (Int32.ofInt 0)).toNatClampNeg).toInt64)) / (Int64.ofInt 100))), .inr (.inl (Int64.ofNat 0))] τ (w, σ') := h
            replace h := ei_p h rfl rfl rfl rfl
            obtain ⟨f, g, h⟩ := h
            replace hf := Nat.lt_trans g hf
            clear g
            replace h : EV F f 178 z178 115 [some (rf 11 (0)), some (rf 13 (16)), some (rf 13 (17)), some (.inl (c1)), some (.inr (.inl (c2))), none, some (.inr (.inl (u6))), none, some (.inl (u8)), some (.inr (.inl (Int64.ofNat 0))), none, some (.inl (Int32.ofInt 0))] [.inr (.inl ((Int64.ofNat 0) + ((((v10) * (((v14) / (Int32.ofInt 10)).toInt64)) * ((m_i τ 13 (16) (((Int32.ofInt 3) * (u8)) + (Int32.ofInt 0)).toNatClampNeg).toInt64)) / (Int64.ofInt 100))))] τ (w, σ') := h
            replace h := ei_p h rfl rfl rfl rfl
            obtain ⟨f, g, h⟩ := h
            replace hf := Nat.lt_trans g hf
            clear g
            replace h : EV F f 178 z178 117 [some (rf 11 (0)), some (rf 13 (16)), some (rf 13 (17)), some (.inl (c1)), some (.inr (.inl (c2))), none, some (.inr (.inl (u6))), none, some (.inl (u8)), some (.inr (.inl ((Int64.ofNat 0) + ((((v10) * (((v14) / (Int32.ofInt 10)).toInt64)) * ((m_i τ 13 (16) (((Int32.ofInt 3) * (u8)) + (Int32.ofInt 0)).toNatClampNeg).toInt64)) / (Int64.ofInt 100))))), none, some (.inl (Int32.ofInt 0))] [] τ (w, σ') := h
            obtain ⟨n21, e22⟩ : ∃ s, s = (Int64.ofNat 0) + ((((v10) * (((v14) / (Int32.ofInt 10)).toInt64)) * ((m_i τ 13 (16) (((Int32.ofInt 3) * (u8)) + (Int32.ofInt 0)).toNatClampNeg).toInt64)) / (Int64.ofInt 100)) := ⟨_, rfl⟩
            rw [← e22] at h
            refine ⟨n21, e22, ?_⟩
            replace h : EV F f 178 z178 117 [some (rf 11 (0)), some (rf 13 (16)), some (rf 13 (17)), some (.inl (c1)), some (.inr (.inl (c2))), none, some (.inr (.inl (u6))), none, some (.inl (u8)), some (.inr (.inl (n21))), none, some (.inl (Int32.ofInt 0))] [] τ (w, σ') := h
            replace h := ei_p h rfl rfl rfl rfl
            obtain ⟨f, g, h⟩ := h
            replace hf := Nat.lt_trans g hf
            clear g
            replace h : EV F f 178 z178 120 [some (rf 11 (0)), some (rf 13 (16)), some (rf 13 (17)), some (.inl (c1)), some (.inr (.inl (c2))), none, some (.inr (.inl (u6))), none, some (.inl (u8)), some (.inr (.inl (n21))), none, some (.inl ((Int32.ofInt 0) + Int32.ofInt 1))] [] τ (w, σ') := h
            rw [show (Int32.ofInt 0) + Int32.ofInt 1 = Int32.ofInt 1 from by decide] at h
            replace h : EV F f 178 z178 120 [some (rf 11 (0)), some (rf 13 (16)), some (rf 13 (17)), some (.inl (c1)), some (.inr (.inl (c2))), none, some (.inr (.inl (u6))), none, some (.inl (u8)), some (.inr (.inl (n21))), none, some (.inl (Int32.ofInt 1))] [] τ (w, σ') := h
            replace h := ei_p h rfl rfl rfl rfl
            obtain ⟨f, g, h⟩ := h
            replace hf := Nat.lt_trans g hf
            clear g
            replace h : EV F f 178 z178 73 [some (rf 11 (0)), some (rf 13 (16)), some (rf 13 (17)), some (.inl (c1)), some (.inr (.inl (c2))), none, some (.inr (.inl (u6))), none, some (.inl (u8)), some (.inr (.inl (n21))), none, some (.inl (Int32.ofInt 1))] [] τ (w, σ') := h
            replace h := ei_p h rfl rfl rfl rfl
            obtain ⟨f, g, h⟩ := h
            replace hf := Nat.lt_trans g hf
            clear g
            replace h : EV F f 178 z178 75 [some (rf 11 (0)), some (rf 13 (16)), some (rf 13 (17)), some (.inl (c1)), some (.inr (.inl (c2))), none, some (.inr (.inl (u6))), none, some (.inl (u8)), some (.inr (.inl (n21))), none, some (.inl (Int32.ofInt 1))] [.inl (Int32.ofInt 1)] τ (w, σ') := h
            replace h := ei_p h rfl rfl rfl rfl
            obtain ⟨f, g, h⟩ := h
            replace hf := Nat.lt_trans g hf
            clear g
            replace h : EV F f 178 z178 76 [some (rf 11 (0)), some (rf 13 (16)), some (rf 13 (17)), some (.inl (c1)), some (.inr (.inl (c2))), none, some (.inr (.inl (u6))), none, some (.inl (u8)), some (.inr (.inl (n21))), none, some (.inl (Int32.ofInt 1))] [.inl (Int32.ofInt 3), .inl (Int32.ofInt 1)] τ (w, σ') := h
            replace h := ei_c h rfl rfl rfl
            rcases h with ⟨hp23, f, g, h⟩ | ⟨hp23, f, g, h⟩
            · exact absurd (ic_ge.mp hp23) (by decide)
            · skip
              replace hf := Nat.lt_trans g hf
              clear g
              replace h : EV F f 178 z178 79 [some (rf 11 (0)), some (rf 13 (16)), some (rf 13 (17)), some (.inl (c1)), some (.inr (.inl (c2))), none, some (.inr (.inl (u6))), none, some (.inl (u8)), some (.inr (.inl (n21))), none, some (.inl (Int32.ofInt 1))] [] τ (w, σ') := h
              replace h := ei_p h rfl rfl rfl rfl
              obtain ⟨f, g, h⟩ := h
              replace hf := Nat.lt_trans g hf
              clear g
              replace h : EV F f 178 z178 81 [some (rf 11 (0)), some (rf 13 (16)), some (rf 13 (17)), some (.inl (c1)), some (.inr (.inl (c2))), none, some (.inr (.inl (u6))), none, some (.inl (u8)), some (.inr (.inl (n21))), none, some (.inl (Int32.ofInt 1))] [.inr (.inl (n21))] τ (w, σ') := h
              replace h := ei_p h rfl rfl rfl rfl
              obtain ⟨f, g, h⟩ := h
              replace hf := Nat.lt_trans g hf
              clear g
              replace h : EV F f 178 z178 82 [some (rf 11 (0)), some (rf 13 (16)), some (rf 13 (17)), some (.inl (c1)), some (.inr (.inl (c2))), none, some (.inr (.inl (u6))), none, some (.inl (u8)), some (.inr (.inl (n21))), none, some (.inl (Int32.ofInt 1))] [rf 11 (0), .inr (.inl (n21))] τ (w, σ') := h
              replace h := ei_p h rfl rfl rfl rfl
              obtain ⟨f, g, h⟩ := h
              replace hf := Nat.lt_trans g hf
              clear g
              replace h : EV F f 178 z178 83 [some (rf 11 (0)), some (rf 13 (16)), some (rf 13 (17)), some (.inl (c1)), some (.inr (.inl (c2))), none, some (.inr (.inl (u6))), none, some (.inl (u8)), some (.inr (.inl (n21))), none, some (.inl (Int32.ofInt 1))] [.inl (c1), rf 11 (0), .inr (.inl (n21))] τ (w, σ') := h
              replace h := ei_p h rfl rfl rfl rfl
              obtain ⟨f, g, h⟩ := h
              replace hf := Nat.lt_trans g hf
              clear g
              replace h : EV F f 178 z178 85 [some (rf 11 (0)), some (rf 13 (16)), some (rf 13 (17)), some (.inl (c1)), some (.inr (.inl (c2))), none, some (.inr (.inl (u6))), none, some (.inl (u8)), some (.inr (.inl (n21))), none, some (.inl (Int32.ofInt 1))] [.inl (Int32.ofInt 1), .inl (c1), rf 11 (0), .inr (.inl (n21))] τ (w, σ') := h
              replace h := bx_L (ei_v (as := [.inl (Int32.ofInt 1), .inl (c1)]) h rfl rfl rfl) z144_at rfl
              rcases h with ⟨v24, σ25, r26, f, g, h⟩ | ⟨b, σ25, r26, e⟩
              · skip
                have er26 := ro2_run rfl r26
                rw [er26] at h r26
                replace hf := Nat.lt_trans g hf
                clear g
                have p27 := x144 hsτ.1 r26
                refine Or.inl ⟨v24, p27, ?_⟩
                replace h : EV F f 178 z178 88 [some (rf 11 (0)), some (rf 13 (16)), some (rf 13 (17)), some (.inl (c1)), some (.inr (.inl (c2))), none, some (.inr (.inl (u6))), none, some (.inl (u8)), some (.inr (.inl (n21))), none, some (.inl (Int32.ofInt 1))] [.inr (.inl (v24)), .inr (.inl (n21))] τ (w, σ') := h
                replace h := ei_p h rfl rfl rfl rfl
                obtain ⟨f, g, h⟩ := h
                replace hf := Nat.lt_trans g hf
                clear g
                replace h : EV F f 178 z178 89 [some (rf 11 (0)), some (rf 13 (16)), some (rf 13 (17)), some (.inl (c1)), some (.inr (.inl (c2))), none, some (.inr (.inl (u6))), none, some (.inl (u8)), some (.inr (.inl (n21))), none, some (.inl (Int32.ofInt 1))] [rf 11 (0), .inr (.inl (v24)), .inr (.inl (n21))] τ (w, σ') := h
                replace h := ei_p h rfl rfl rfl rfl
                obtain ⟨f, g, h⟩ := h
                replace hf := Nat.lt_trans g hf
                clear g
                replace h : EV F f 178 z178 91 [some (rf 11 (0)), some (rf 13 (16)), some (rf 13 (17)), some (.inl (c1)), some (.inr (.inl (c2))), none, some (.inr (.inl (u6))), none, some (.inl (u8)), some (.inr (.inl (n21))), none, some (.inl (Int32.ofInt 1))] [.inl (Int32.ofInt 1), rf 11 (0), .inr (.inl (v24)), .inr (.inl (n21))] τ (w, σ') := h
                replace h := bx_I (ei_v (as := [.inl (Int32.ofInt 1)]) h rfl rfl rfl) z140_at (Or.inl rfl)
                rcases h with ⟨v28, σ29, r30, f, g, h⟩ | ⟨b, σ29, r30, e⟩
                · skip
                  have er30 := ro2_run rfl r30
                  rw [er30] at h r30
                  replace hf := Nat.lt_trans g hf
                  clear g
                  have p31 := x140 hsτ.1 r30
                  refine Or.inl ⟨v28, p31, ?_⟩
                  replace h : EV F f 178 z178 94 [some (rf 11 (0)), some (rf 13 (16)), some (rf 13 (17)), some (.inl (c1)), some (.inr (.inl (c2))), none, some (.inr (.inl (u6))), none, some (.inl (u8)), some (.inr (.inl (n21))), none, some (.inl (Int32.ofInt 1))] [.inl (v28), .inr (.inl (v24)), .inr (.inl (n21))] τ (w, σ') := h
                  replace h := ei_p h rfl rfl rfl rfl
                  obtain ⟨f, g, h⟩ := h
                  replace hf := Nat.lt_trans g hf
                  clear g
                  replace h : EV F f 178 z178 96 [some (rf 11 (0)), some (rf 13 (16)), some (rf 13 (17)), some (.inl (c1)), some (.inr (.inl (c2))), none, some (.inr (.inl (u6))), none, some (.inl (u8)), some (.inr (.inl (n21))), none, some (.inl (Int32.ofInt 1))] [.inl (Int32.ofInt 10), .inl (v28), .inr (.inl (v24)), .inr (.inl (n21))] τ (w, σ') := h
                  replace h := ei_idiv h rfl
                  obtain ⟨hd32, f, g, h⟩ := h
                  replace hf := Nat.lt_trans g hf
                  clear g
                  replace h : EV F f 178 z178 97 [some (rf 11 (0)), some (rf 13 (16)), some (rf 13 (17)), some (.inl (c1)), some (.inr (.inl (c2))), none, some (.inr (.inl (u6))), none, some (.inl (u8)), some (.inr (.inl (n21))), none, some (.inl (Int32.ofInt 1))] [.inl ((v28) / (Int32.ofInt 10)), .inr (.inl (v24)), .inr (.inl (n21))] τ (w, σ') := h
                  replace h := ei_p h rfl rfl rfl rfl
                  obtain ⟨f, g, h⟩ := h
                  replace hf := Nat.lt_trans g hf
                  clear g
                  replace h : EV F f 178 z178 98 [some (rf 11 (0)), some (rf 13 (16)), some (rf 13 (17)), some (.inl (c1)), some (.inr (.inl (c2))), none, some (.inr (.inl (u6))), none, some (.inl (u8)), some (.inr (.inl (n21))), none, some (.inl (Int32.ofInt 1))] [.inr (.inl (((v28) / (Int32.ofInt 10)).toInt64)), .inr (.inl (v24)), .inr (.inl (n21))] τ (w, σ') := h
                  replace h := ei_p h rfl rfl rfl rfl
                  obtain ⟨f, g, h⟩ := h
                  replace hf := Nat.lt_trans g hf
                  clear g
                  replace h : EV F f 178 z178 99 [some (rf 11 (0)), some (rf 13 (16)), some (rf 13 (17)), some (.inl (c1)), some (.inr (.inl (c2))), none, some (.inr (.inl (u6))), none, some (.inl (u8)), some (.inr (.inl (n21))), none, some (.inl (Int32.ofInt 1))] [.inr (.inl ((v24) * (((v28) / (Int32.ofInt 10)).toInt64))), .inr (.inl (n21))] τ (w, σ') := h
                  replace h := ei_p h rfl rfl rfl rfl
                  obtain ⟨f, g, h⟩ := h
                  replace hf := Nat.lt_trans g hf
                  clear g
                  replace h : EV F f 178 z178 100 [some (rf 11 (0)), some (rf 13 (16)), some (rf 13 (17)), some (.inl (c1)), some (.inr (.inl (c2))), none, some (.inr (.inl (u6))), none, some (.inl (u8)), some (.inr (.inl (n21))), none, some (.inl (Int32.ofInt 1))] [rf 13 (16), .inr (.inl ((v24) * (((v28) / (Int32.ofInt 10)).toInt64))), .inr (.inl (n21))] τ (w, σ') := h
                  replace h := ei_p h rfl rfl rfl rfl
                  obtain ⟨f, g, h⟩ := h
                  replace hf := Nat.lt_trans g hf
                  clear g
                  replace h : EV F f 178 z178 101 [some (rf 11 (0)), some (rf 13 (16)), some (rf 13 (17)), some (.inl (c1)), some (.inr (.inl (c2))), none, some (.inr (.inl (u6))), none, some (.inl (u8)), some (.inr (.inl (n21))), none, some (.inl (Int32.ofInt 1))] [.inl (Int32.ofInt 3), rf 13 (16), .inr (.inl ((v24) * (((v28) / (Int32.ofInt 10)).toInt64))), .inr (.inl (n21))] τ (w, σ') := h
                  replace h := ei_p h rfl rfl rfl rfl
                  obtain ⟨f, g, h⟩ := h
                  replace hf := Nat.lt_trans g hf
                  clear g
                  replace h : EV F f 178 z178 103 [some (rf 11 (0)), some (rf 13 (16)), some (rf 13 (17)), some (.inl (c1)), some (.inr (.inl (c2))), none, some (.inr (.inl (u6))), none, some (.inl (u8)), some (.inr (.inl (n21))), none, some (.inl (Int32.ofInt 1))] [.inl (u8), .inl (Int32.ofInt 3), rf 13 (16), .inr (.inl ((v24) * (((v28) / (Int32.ofInt 10)).toInt64))), .inr (.inl (n21))] τ (w, σ') := h
                  replace h := ei_p h rfl rfl rfl rfl
                  obtain ⟨f, g, h⟩ := h
                  replace hf := Nat.lt_trans g hf
                  clear g
                  replace h : EV F f 178 z178 104 [some (rf 11 (0)), some (rf 13 (16)), some (rf 13 (17)), some (.inl (c1)), some (.inr (.inl (c2))), none, some (.inr (.inl (u6))), none, some (.inl (u8)), some (.inr (.inl (n21))), none, some (.inl (Int32.ofInt 1))] [.inl ((Int32.ofInt 3) * (u8)), rf 13 (16), .inr (.inl ((v24) * (((v28) / (Int32.ofInt 10)).toInt64))), .inr (.inl (n21))] τ (w, σ') := h
                  replace h := ei_p h rfl rfl rfl rfl
                  obtain ⟨f, g, h⟩ := h
                  replace hf := Nat.lt_trans g hf
                  clear g
                  replace h : EV F f 178 z178 106 [some (rf 11 (0)), some (rf 13 (16)), some (rf 13 (17)), some (.inl (c1)), some (.inr (.inl (c2))), none, some (.inr (.inl (u6))), none, some (.inl (u8)), some (.inr (.inl (n21))), none, some (.inl (Int32.ofInt 1))] [.inl (Int32.ofInt 1), .inl ((Int32.ofInt 3) * (u8)), rf 13 (16), .inr (.inl ((v24) * (((v28) / (Int32.ofInt 10)).toInt64))), .inr (.inl (n21))] τ (w, σ') := h
                  replace h := ei_p h rfl rfl rfl rfl
                  obtain ⟨f, g, h⟩ := h
                  replace hf := Nat.lt_trans g hf
                  clear g
                  replace h : EV F f 178 z178 107 [some (rf 11 (0)), some (rf 13 (16)), some (rf 13 (17)), some (.inl (c1)), some (.inr (.inl (c2))), none, some (.inr (.inl (u6))), none, some (.inl (u8)), some (.inr (.inl (n21))), none, some (.inl (Int32.ofInt 1))] [.inl (((Int32.ofInt 3) * (u8)) + (Int32.ofInt 1)), rf 13 (16), .inr (.inl ((v24) * (((v28) / (Int32.ofInt 10)).toInt64))), .inr (.inl (n21))] τ (w, σ') := h
                  replace h := ei_iald h rfl (fun _ => rfl)
                  obtain ⟨vp33, f, g, h⟩ := h
                  replace hf := Nat.lt_trans g hf
                  clear g
                  replace h : EV F f 178 z178 108 [some (rf 11 (0)), some (rf 13 (16)), some (rf 13 (17)), some (.inl (c1)), some (.inr (.inl (c2))), none, some (.inr (.inl (u6))), none, some (.inl (u8)), some (.inr (.inl (n21))), none, some (.inl (Int32.ofInt 1))] [.inl (m_i τ 13 (16) (((Int32.ofInt 3) * (u8)) + (Int32.ofInt 1)).toNatClampNeg), .inr (.inl ((v24) * (((v28) / (Int32.ofInt 10)).toInt64))), .inr (.inl (n21))] τ (w, σ') := h
                  refine ⟨vp_2 vp33, ?_⟩
                  replace h := ei_p h rfl rfl rfl rfl
                  obtain ⟨f, g, h⟩ := h
                  replace hf := Nat.lt_trans g hf
                  clear g
                  replace h : EV F f 178 z178 109 [some (rf 11 (0)), some (rf 13 (16)), some (rf 13 (17)), some (.inl (c1)), some (.inr (.inl (c2))), none, some (.inr (.inl (u6))), none, some (.inl (u8)), some (.inr (.inl (n21))), none, some (.inl (Int32.ofInt 1))] [.inr (.inl ((m_i τ 13 (16) (((Int32.ofInt 3) * (u8)) + (Int32.ofInt 1)).toNatClampNeg).toInt64)), .inr (.inl ((v24) * (((v28) / (Int32.ofInt 10)).toInt64))), .inr (.inl (n21))] τ (w, σ') := h
                  replace h := ei_p h rfl rfl rfl rfl
                  obtain ⟨f, g, h⟩ := h
                  replace hf := Nat.lt_trans g hf
                  clear g
                  replace h : EV F f 178 z178 110 [some (rf 11 (0)), some (rf 13 (16)), some (rf 13 (17)), some (.inl (c1)), some (.inr (.inl (c2))), none, some (.inr (.inl (u6))), none, some (.inl (u8)), some (.inr (.inl (n21))), none, some (.inl (Int32.ofInt 1))] [.inr (.inl (((v24) * (((v28) / (Int32.ofInt 10)).toInt64)) * ((m_i τ 13 (16) (((Int32.ofInt 3) * (u8)) + (Int32.ofInt 1)).toNatClampNeg).toInt64))), .inr (.inl (n21))] τ (w, σ') := h
                  replace h := ei_p h rfl rfl rfl rfl
                  obtain ⟨f, g, h⟩ := h
                  replace hf := Nat.lt_trans g hf
                  clear g
                  replace h : EV F f 178 z178 113 [some (rf 11 (0)), some (rf 13 (16)), some (rf 13 (17)), some (.inl (c1)), some (.inr (.inl (c2))), none, some (.inr (.inl (u6))), none, some (.inl (u8)), some (.inr (.inl (n21))), none, some (.inl (Int32.ofInt 1))] [.inr (.inl (Int64.ofInt 100)), .inr (.inl (((v24) * (((v28) / (Int32.ofInt 10)).toInt64)) * ((m_i τ 13 (16) (((Int32.ofInt 3) * (u8)) + (Int32.ofInt 1)).toNatClampNeg).toInt64))), .inr (.inl (n21))] τ (w, σ') := h
                  replace h := ei_ldiv h rfl
                  obtain ⟨hd34, f, g, h⟩ := h
                  replace hf := Nat.lt_trans g hf
                  clear g
                  replace h : EV F f 178 z178 114 [some (rf 11 (0)), some (rf 13 (16)), some (rf 13 (17)), some (.inl (c1)), some (.inr (.inl (c2))), none, some (.inr (.inl (u6))), none, some (.inl (u8)), some (.inr (.inl (n21))), none, some (.inl (Int32.ofInt 1))] [.inr (.inl ((((v24) * (((v28) / (Int32.ofInt 10)).toInt64)) * ((m_i τ 13 (16) (((Int32.ofInt 3) * (u8)) + (Int32.ofInt 1)).toNatClampNeg).toInt64)) / (Int64.ofInt 100))), .inr (.inl (n21))] τ (w, σ') := h
                  replace h := ei_p h rfl rfl rfl rfl
                  obtain ⟨f, g, h⟩ := h
                  replace hf := Nat.lt_trans g hf
                  clear g
                  replace h : EV F f 178 z178 115 [some (rf 11 (0)), some (rf 13 (16)), some (rf 13 (17)), some (.inl (c1)), some (.inr (.inl (c2))), none, some (.inr (.inl (u6))), none, some (.inl (u8)), some (.inr (.inl (n21))), none, some (.inl (Int32.ofInt 1))] [.inr (.inl ((n21) + ((((v24) * (((v28) / (Int32.ofInt 10)).toInt64)) * ((m_i τ 13 (16) (((Int32.ofInt 3) * (u8)) + (Int32.ofInt 1)).toNatClampNeg).toInt64)) / (Int64.ofInt 100))))] τ (w, σ') := h
                  replace h := ei_p h rfl rfl rfl rfl
                  obtain ⟨f, g, h⟩ := h
                  replace hf := Nat.lt_trans g hf
                  clear g
                  replace h : EV F f 178 z178 117 [some (rf 11 (0)), some (rf 13 (16)), some (rf 13 (17)), some (.inl (c1)), some (.inr (.inl (c2))), none, some (.inr (.inl (u6))), none, some (.inl (u8)), some (.inr (.inl ((n21) + ((((v24) * (((v28) / (Int32.ofInt 10)).toInt64)) * ((m_i τ 13 (16) (((Int32.ofInt 3) * (u8)) + (Int32.ofInt 1)).toNatClampNeg).toInt64)) / (Int64.ofInt 100))))), none, some (.inl (Int32.ofInt 1))] [] τ (w, σ') := h
                  obtain ⟨n35, e36⟩ : ∃ s, s = (n21) + ((((v24) * (((v28) / (Int32.ofInt 10)).toInt64)) * ((m_i τ 13 (16) (((Int32.ofInt 3) * (u8)) + (Int32.ofInt 1)).toNatClampNeg).toInt64)) / (Int64.ofInt 100)) := ⟨_, rfl⟩
                  rw [← e36] at h
                  refine ⟨n35, e36, ?_⟩
                  replace h : EV F f 178 z178 117 [some (rf 11 (0)), some (rf 13 (16)), some (rf 13 (17)), some (.inl (c1)), some (.inr (.inl (c2))), none, some (.inr (.inl (u6))), none, some (.inl (u8)), some (.inr (.inl (n35))), none, some (.inl (Int32.ofInt 1))] [] τ (w, σ') := h
                  replace h := ei_p h rfl rfl rfl rfl
                  obtain ⟨f, g, h⟩ := h
                  replace hf := Nat.lt_trans g hf
                  clear g
                  replace h : EV F f 178 z178 120 [some (rf 11 (0)), some (rf 13 (16)), some (rf 13 (17)), some (.inl (c1)), some (.inr (.inl (c2))), none, some (.inr (.inl (u6))), none, some (.inl (u8)), some (.inr (.inl (n35))), none, some (.inl ((Int32.ofInt 1) + Int32.ofInt 1))] [] τ (w, σ') := h
                  rw [show (Int32.ofInt 1) + Int32.ofInt 1 = Int32.ofInt 2 from by decide] at h
                  replace h : EV F f 178 z178 120 [some (rf 11 (0)), some (rf 13 (16)), some (rf 13 (17)), some (.inl (c1)), some (.inr (.inl (c2))), none, some (.inr (.inl (u6))), none, some (.inl (u8)), some (.inr (.inl (n35))), none, some (.inl (Int32.ofInt 2))] [] τ (w, σ') := h
                  replace h := ei_p h rfl rfl rfl rfl
                  obtain ⟨f, g, h⟩ := h
                  replace hf := Nat.lt_trans g hf
                  clear g
                  replace h : EV F f 178 z178 73 [some (rf 11 (0)), some (rf 13 (16)), some (rf 13 (17)), some (.inl (c1)), some (.inr (.inl (c2))), none, some (.inr (.inl (u6))), none, some (.inl (u8)), some (.inr (.inl (n35))), none, some (.inl (Int32.ofInt 2))] [] τ (w, σ') := h
                  replace h := ei_p h rfl rfl rfl rfl
                  obtain ⟨f, g, h⟩ := h
                  replace hf := Nat.lt_trans g hf
                  clear g
                  replace h : EV F f 178 z178 75 [some (rf 11 (0)), some (rf 13 (16)), some (rf 13 (17)), some (.inl (c1)), some (.inr (.inl (c2))), none, some (.inr (.inl (u6))), none, some (.inl (u8)), some (.inr (.inl (n35))), none, some (.inl (Int32.ofInt 2))] [.inl (Int32.ofInt 2)] τ (w, σ') := h
                  replace h := ei_p h rfl rfl rfl rfl
                  obtain ⟨f, g, h⟩ := h
                  replace hf := Nat.lt_trans g hf
                  clear g
                  replace h : EV F f 178 z178 76 [some (rf 11 (0)), some (rf 13 (16)), some (rf 13 (17)), some (.inl (c1)), some (.inr (.inl (c2))), none, some (.inr (.inl (u6))), none, some (.inl (u8)), some (.inr (.inl (n35))), none, some (.inl (Int32.ofInt 2))] [.inl (Int32.ofInt 3), .inl (Int32.ofInt 2)] τ (w, σ') := h
                  replace h := ei_c h rfl rfl rfl
                  rcases h with ⟨hp37, f, g, h⟩ | ⟨hp37, f, g, h⟩
                  · exact absurd (ic_ge.mp hp37) (by decide)
                  · skip
                    replace hf := Nat.lt_trans g hf
                    clear g
                    replace h : EV F f 178 z178 79 [some (rf 11 (0)), some (rf 13 (16)), some (rf 13 (17)), some (.inl (c1)), some (.inr (.inl (c2))), none, some (.inr (.inl (u6))), none, some (.inl (u8)), some (.inr (.inl (n35))), none, some (.inl (Int32.ofInt 2))] [] τ (w, σ') := h
                    replace h := ei_p h rfl rfl rfl rfl
                    obtain ⟨f, g, h⟩ := h
                    replace hf := Nat.lt_trans g hf
                    clear g
                    replace h : EV F f 178 z178 81 [some (rf 11 (0)), some (rf 13 (16)), some (rf 13 (17)), some (.inl (c1)), some (.inr (.inl (c2))), none, some (.inr (.inl (u6))), none, some (.inl (u8)), some (.inr (.inl (n35))), none, some (.inl (Int32.ofInt 2))] [.inr (.inl (n35))] τ (w, σ') := h
                    replace h := ei_p h rfl rfl rfl rfl
                    obtain ⟨f, g, h⟩ := h
                    replace hf := Nat.lt_trans g hf
                    clear g
                    replace h : EV F f 178 z178 82 [some (rf 11 (0)), some (rf 13 (16)), some (rf 13 (17)), some (.inl (c1)), some (.inr (.inl (c2))), none, some (.inr (.inl (u6))), none, some (.inl (u8)), some (.inr (.inl (n35))), none, some (.inl (Int32.ofInt 2))] [rf 11 (0), .inr (.inl (n35))] τ (w, σ') := h
                    replace h := ei_p h rfl rfl rfl rfl
                    obtain ⟨f, g, h⟩ := h
                    replace hf := Nat.lt_trans g hf
                    clear g
                    replace h : EV F f 178 z178 83 [some (rf 11 (0)), some (rf 13 (16)), some (rf 13 (17)), some (.inl (c1)), some (.inr (.inl (c2))), none, some (.inr (.inl (u6))), none, some (.inl (u8)), some (.inr (.inl (n35))), none, some (.inl (Int32.ofInt 2))] [.inl (c1), rf 11 (0), .inr (.inl (n35))] τ (w, σ') := h
                    replace h := ei_p h rfl rfl rfl rfl
                    obtain ⟨f, g, h⟩ := h
                    replace hf := Nat.lt_trans g hf
                    clear g
                    replace h : EV F f 178 z178 85 [some (rf 11 (0)), some (rf 13 (16)), some (rf 13 (17)), some (.inl (c1)), some (.inr (.inl (c2))), none, some (.inr (.inl (u6))), none, some (.inl (u8)), some (.inr (.inl (n35))), none, some (.inl (Int32.ofInt 2))] [.inl (Int32.ofInt 2), .inl (c1), rf 11 (0), .inr (.inl (n35))] τ (w, σ') := h
                    replace h := bx_L (ei_v (as := [.inl (Int32.ofInt 2), .inl (c1)]) h rfl rfl rfl) z144_at rfl
                    rcases h with ⟨v38, σ39, r40, f, g, h⟩ | ⟨b, σ39, r40, e⟩
                    · skip
                      have er40 := ro2_run rfl r40
                      rw [er40] at h r40
                      replace hf := Nat.lt_trans g hf
                      clear g
                      have p41 := x144 hsτ.1 r40
                      refine Or.inl ⟨v38, p41, ?_⟩
                      replace h : EV F f 178 z178 88 [some (rf 11 (0)), some (rf 13 (16)), some (rf 13 (17)), some (.inl (c1)), some (.inr (.inl (c2))), none, some (.inr (.inl (u6))), none, some (.inl (u8)), some (.inr (.inl (n35))), none, some (.inl (Int32.ofInt 2))] [.inr (.inl (v38)), .inr (.inl (n35))] τ (w, σ') := h
                      replace h := ei_p h rfl rfl rfl rfl
                      obtain ⟨f, g, h⟩ := h
                      replace hf := Nat.lt_trans g hf
                      clear g
                      replace h : EV F f 178 z178 89 [some (rf 11 (0)), some (rf 13 (16)), some (rf 13 (17)), some (.inl (c1)), some (.inr (.inl (c2))), none, some (.inr (.inl (u6))), none, some (.inl (u8)), some (.inr (.inl (n35))), none, some (.inl (Int32.ofInt 2))] [rf 11 (0), .inr (.inl (v38)), .inr (.inl (n35))] τ (w, σ') := h
                      replace h := ei_p h rfl rfl rfl rfl
                      obtain ⟨f, g, h⟩ := h
                      replace hf := Nat.lt_trans g hf
                      clear g
                      replace h : EV F f 178 z178 91 [some (rf 11 (0)), some (rf 13 (16)), some (rf 13 (17)), some (.inl (c1)), some (.inr (.inl (c2))), none, some (.inr (.inl (u6))), none, some (.inl (u8)), some (.inr (.inl (n35))), none, some (.inl (Int32.ofInt 2))] [.inl (Int32.ofInt 2), rf 11 (0), .inr (.inl (v38)), .inr (.inl (n35))] τ (w, σ') := h
                      replace h := bx_I (ei_v (as := [.inl (Int32.ofInt 2)]) h rfl rfl rfl) z140_at (Or.inl rfl)
                      rcases h with ⟨v42, σ43, r44, f, g, h⟩ | ⟨b, σ43, r44, e⟩
                      · skip
                        have er44 := ro2_run rfl r44
                        rw [er44] at h r44
                        replace hf := Nat.lt_trans g hf
                        clear g
                        have p45 := x140 hsτ.1 r44
                        refine Or.inl ⟨v42, p45, ?_⟩
                        replace h : EV F f 178 z178 94 [some (rf 11 (0)), some (rf 13 (16)), some (rf 13 (17)), some (.inl (c1)), some (.inr (.inl (c2))), none, some (.inr (.inl (u6))), none, some (.inl (u8)), some (.inr (.inl (n35))), none, some (.inl (Int32.ofInt 2))] [.inl (v42), .inr (.inl (v38)), .inr (.inl (n35))] τ (w, σ') := h
                        replace h := ei_p h rfl rfl rfl rfl
                        obtain ⟨f, g, h⟩ := h
                        replace hf := Nat.lt_trans g hf
                        clear g
                        replace h : EV F f 178 z178 96 [some (rf 11 (0)), some (rf 13 (16)), some (rf 13 (17)), some (.inl (c1)), some (.inr (.inl (c2))), none, some (.inr (.inl (u6))), none, some (.inl (u8)), some (.inr (.inl (n35))), none, some (.inl (Int32.ofInt 2))] [.inl (Int32.ofInt 10), .inl (v42), .inr (.inl (v38)), .inr (.inl (n35))] τ (w, σ') := h
                        replace h := ei_idiv h rfl
                        obtain ⟨hd46, f, g, h⟩ := h
                        replace hf := Nat.lt_trans g hf
                        clear g
                        replace h : EV F f 178 z178 97 [some (rf 11 (0)), some (rf 13 (16)), some (rf 13 (17)), some (.inl (c1)), some (.inr (.inl (c2))), none, some (.inr (.inl (u6))), none, some (.inl (u8)), some (.inr (.inl (n35))), none, some (.inl (Int32.ofInt 2))] [.inl ((v42) / (Int32.ofInt 10)), .inr (.inl (v38)), .inr (.inl (n35))] τ (w, σ') := h
                        replace h := ei_p h rfl rfl rfl rfl
                        obtain ⟨f, g, h⟩ := h
                        replace hf := Nat.lt_trans g hf
                        clear g
                        replace h : EV F f 178 z178 98 [some (rf 11 (0)), some (rf 13 (16)), some (rf 13 (17)), some (.inl (c1)), some (.inr (.inl (c2))), none, some (.inr (.inl (u6))), none, some (.inl (u8)), some (.inr (.inl (n35))), none, some (.inl (Int32.ofInt 2))] [.inr (.inl (((v42) / (Int32.ofInt 10)).toInt64)), .inr (.inl (v38)), .inr (.inl (n35))] τ (w, σ') := h
                        replace h := ei_p h rfl rfl rfl rfl
                        obtain ⟨f, g, h⟩ := h
                        replace hf := Nat.lt_trans g hf
                        clear g
                        replace h : EV F f 178 z178 99 [some (rf 11 (0)), some (rf 13 (16)), some (rf 13 (17)), some (.inl (c1)), some (.inr (.inl (c2))), none, some (.inr (.inl (u6))), none, some (.inl (u8)), some (.inr (.inl (n35))), none, some (.inl (Int32.ofInt 2))] [.inr (.inl ((v38) * (((v42) / (Int32.ofInt 10)).toInt64))), .inr (.inl (n35))] τ (w, σ') := h
                        replace h := ei_p h rfl rfl rfl rfl
                        obtain ⟨f, g, h⟩ := h
                        replace hf := Nat.lt_trans g hf
                        clear g
                        replace h : EV F f 178 z178 100 [some (rf 11 (0)), some (rf 13 (16)), some (rf 13 (17)), some (.inl (c1)), some (.inr (.inl (c2))), none, some (.inr (.inl (u6))), none, some (.inl (u8)), some (.inr (.inl (n35))), none, some (.inl (Int32.ofInt 2))] [rf 13 (16), .inr (.inl ((v38) * (((v42) / (Int32.ofInt 10)).toInt64))), .inr (.inl (n35))] τ (w, σ') := h
                        replace h := ei_p h rfl rfl rfl rfl
                        obtain ⟨f, g, h⟩ := h
                        replace hf := Nat.lt_trans g hf
                        clear g
                        replace h : EV F f 178 z178 101 [some (rf 11 (0)), some (rf 13 (16)), some (rf 13 (17)), some (.inl (c1)), some (.inr (.inl (c2))), none, some (.inr (.inl (u6))), none, some (.inl (u8)), some (.inr (.inl (n35))), none, some (.inl (Int32.ofInt 2))] [.inl (Int32.ofInt 3), rf 13 (16), .inr (.inl ((v38) * (((v42) / (Int32.ofInt 10)).toInt64))), .inr (.inl (n35))] τ (w, σ') := h
                        replace h := ei_p h rfl rfl rfl rfl
                        obtain ⟨f, g, h⟩ := h
                        replace hf := Nat.lt_trans g hf
                        clear g
                        replace h : EV F f 178 z178 103 [some (rf 11 (0)), some (rf 13 (16)), some (rf 13 (17)), some (.inl (c1)), some (.inr (.inl (c2))), none, some (.inr (.inl (u6))), none, some (.inl (u8)), some (.inr (.inl (n35))), none, some (.inl (Int32.ofInt 2))] [.inl (u8), .inl (Int32.ofInt 3), rf 13 (16), .inr (.inl ((v38) * (((v42) / (Int32.ofInt 10)).toInt64))), .inr (.inl (n35))] τ (w, σ') := h
                        replace h := ei_p h rfl rfl rfl rfl
                        obtain ⟨f, g, h⟩ := h
                        replace hf := Nat.lt_trans g hf
                        clear g
                        replace h : EV F f 178 z178 104 [some (rf 11 (0)), some (rf 13 (16)), some (rf 13 (17)), some (.inl (c1)), some (.inr (.inl (c2))), none, some (.inr (.inl (u6))), none, some (.inl (u8)), some (.inr (.inl (n35))), none, some (.inl (Int32.ofInt 2))] [.inl ((Int32.ofInt 3) * (u8)), rf 13 (16), .inr (.inl ((v38) * (((v42) / (Int32.ofInt 10)).toInt64))), .inr (.inl (n35))] τ (w, σ') := h
                        replace h := ei_p h rfl rfl rfl rfl
                        obtain ⟨f, g, h⟩ := h
                        replace hf := Nat.lt_trans g hf
                        clear g
                        replace h : EV F f 178 z178 106 [some (rf 11 (0)), some (rf 13 (16)), some (rf 13 (17)), some (.inl (c1)), some (.inr (.inl (c2))), none, some (.inr (.inl (u6))), none, some (.inl (u8)), some (.inr (.inl (n35))), none, some (.inl (Int32.ofInt 2))] [.inl (Int32.ofInt 2), .inl ((Int32.ofInt 3) * (u8)), rf 13 (16), .inr (.inl ((v38) * (((v42) / (Int32.ofInt 10)).toInt64))), .inr (.inl (n35))] τ (w, σ') := h
                        replace h := ei_p h rfl rfl rfl rfl
                        obtain ⟨f, g, h⟩ := h
                        replace hf := Nat.lt_trans g hf
                        clear g
                        replace h : EV F f 178 z178 107 [some (rf 11 (0)), some (rf 13 (16)), some (rf 13 (17)), some (.inl (c1)), some (.inr (.inl (c2))), none, some (.inr (.inl (u6))), none, some (.inl (u8)), some (.inr (.inl (n35))), none, some (.inl (Int32.ofInt 2))] [.inl (((Int32.ofInt 3) * (u8)) + (Int32.ofInt 2)), rf 13 (16), .inr (.inl ((v38) * (((v42) / (Int32.ofInt 10)).toInt64))), .inr (.inl (n35))] τ (w, σ') := h
                        replace h := ei_iald h rfl (fun _ => rfl)
                        obtain ⟨vp47, f, g, h⟩ := h
                        replace hf := Nat.lt_trans g hf
                        clear g
                        replace h : EV F f 178 z178 108 [some (rf 11 (0)), some (rf 13 (16)), some (rf 13 (17)), some (.inl (c1)), some (.inr (.inl (c2))), none, some (.inr (.inl (u6))), none, some (.inl (u8)), some (.inr (.inl (n35))), none, some (.inl (Int32.ofInt 2))] [.inl (m_i τ 13 (16) (((Int32.ofInt 3) * (u8)) + (Int32.ofInt 2)).toNatClampNeg), .inr (.inl ((v38) * (((v42) / (Int32.ofInt 10)).toInt64))), .inr (.inl (n35))] τ (w, σ') := h
                        refine ⟨vp_2 vp47, ?_⟩
                        replace h := ei_p h rfl rfl rfl rfl
                        obtain ⟨f, g, h⟩ := h
                        replace hf := Nat.lt_trans g hf
                        clear g
                        replace h : EV F f 178 z178 109 [some (rf 11 (0)), some (rf 13 (16)), some (rf 13 (17)), some (.inl (c1)), some (.inr (.inl (c2))), none, some (.inr (.inl (u6))), none, some (.inl (u8)), some (.inr (.inl (n35))), none, some (.inl (Int32.ofInt 2))] [.inr (.inl ((m_i τ 13 (16) (((Int32.ofInt 3) * (u8)) + (Int32.ofInt 2)).toNatClampNeg).toInt64)), .inr (.inl ((v38) * (((v42) / (Int32.ofInt 10)).toInt64))), .inr (.inl (n35))] τ (w, σ') := h
                        replace h := ei_p h rfl rfl rfl rfl
                        obtain ⟨f, g, h⟩ := h
                        replace hf := Nat.lt_trans g hf
                        clear g
                        replace h : EV F f 178 z178 110 [some (rf 11 (0)), some (rf 13 (16)), some (rf 13 (17)), some (.inl (c1)), some (.inr (.inl (c2))), none, some (.inr (.inl (u6))), none, some (.inl (u8)), some (.inr (.inl (n35))), none, some (.inl (Int32.ofInt 2))] [.inr (.inl (((v38) * (((v42) / (Int32.ofInt 10)).toInt64)) * ((m_i τ 13 (16) (((Int32.ofInt 3) * (u8)) + (Int32.ofInt 2)).toNatClampNeg).toInt64))), .inr (.inl (n35))] τ (w, σ') := h
                        replace h := ei_p h rfl rfl rfl rfl
                        obtain ⟨f, g, h⟩ := h
                        replace hf := Nat.lt_trans g hf
                        clear g
                        replace h : EV F f 178 z178 113 [some (rf 11 (0)), some (rf 13 (16)), some (rf 13 (17)), some (.inl (c1)), some (.inr (.inl (c2))), none, some (.inr (.inl (u6))), none, some (.inl (u8)), some (.inr (.inl (n35))), none, some (.inl (Int32.ofInt 2))] [.inr (.inl (Int64.ofInt 100)), .inr (.inl (((v38) * (((v42) / (Int32.ofInt 10)).toInt64)) * ((m_i τ 13 (16) (((Int32.ofInt 3) * (u8)) + (Int32.ofInt 2)).toNatClampNeg).toInt64))), .inr (.inl (n35))] τ (w, σ') := h
                        replace h := ei_ldiv h rfl
                        obtain ⟨hd48, f, g, h⟩ := h
                        replace hf := Nat.lt_trans g hf
                        clear g
                        replace h : EV F f 178 z178 114 [some (rf 11 (0)), some (rf 13 (16)), some (rf 13 (17)), some (.inl (c1)), some (.inr (.inl (c2))), none, some (.inr (.inl (u6))), none, some (.inl (u8)), some (.inr (.inl (n35))), none, some (.inl (Int32.ofInt 2))] [.inr (.inl ((((v38) * (((v42) / (Int32.ofInt 10)).toInt64)) * ((m_i τ 13 (16) (((Int32.ofInt 3) * (u8)) + (Int32.ofInt 2)).toNatClampNeg).toInt64)) / (Int64.ofInt 100))), .inr (.inl (n35))] τ (w, σ') := h
                        replace h := ei_p h rfl rfl rfl rfl
                        obtain ⟨f, g, h⟩ := h
                        replace hf := Nat.lt_trans g hf
                        clear g
                        replace h : EV F f 178 z178 115 [some (rf 11 (0)), some (rf 13 (16)), some (rf 13 (17)), some (.inl (c1)), some (.inr (.inl (c2))), none, some (.inr (.inl (u6))), none, some (.inl (u8)), some (.inr (.inl (n35))), none, some (.inl (Int32.ofInt 2))] [.inr (.inl ((n35) + ((((v38) * (((v42) / (Int32.ofInt 10)).toInt64)) * ((m_i τ 13 (16) (((Int32.ofInt 3) * (u8)) + (Int32.ofInt 2)).toNatClampNeg).toInt64)) / (Int64.ofInt 100))))] τ (w, σ') := h
                        replace h := ei_p h rfl rfl rfl rfl
                        obtain ⟨f, g, h⟩ := h
                        replace hf := Nat.lt_trans g hf
                        clear g
                        replace h : EV F f 178 z178 117 [some (rf 11 (0)), some (rf 13 (16)), some (rf 13 (17)), some (.inl (c1)), some (.inr (.inl (c2))), none, some (.inr (.inl (u6))), none, some (.inl (u8)), some (.inr (.inl ((n35) + ((((v38) * (((v42) / (Int32.ofInt 10)).toInt64)) * ((m_i τ 13 (16) (((Int32.ofInt 3) * (u8)) + (Int32.ofInt 2)).toNatClampNeg).toInt64)) / (Int64.ofInt 100))))), none, some (.inl (Int32.ofInt 2))] [] τ (w, σ') := h
                        obtain ⟨n49, e50⟩ : ∃ s, s = (n35) + ((((v38) * (((v42) / (Int32.ofInt 10)).toInt64)) * ((m_i τ 13 (16) (((Int32.ofInt 3) * (u8)) + (Int32.ofInt 2)).toNatClampNeg).toInt64)) / (Int64.ofInt 100)) := ⟨_, rfl⟩
                        rw [← e50] at h
                        refine ⟨n49, e50, ?_⟩
                        replace h : EV F f 178 z178 117 [some (rf 11 (0)), some (rf 13 (16)), some (rf 13 (17)), some (.inl (c1)), some (.inr (.inl (c2))), none, some (.inr (.inl (u6))), none, some (.inl (u8)), some (.inr (.inl (n49))), none, some (.inl (Int32.ofInt 2))] [] τ (w, σ') := h
                        replace h := ei_p h rfl rfl rfl rfl
                        obtain ⟨f, g, h⟩ := h
                        replace hf := Nat.lt_trans g hf
                        clear g
                        replace h : EV F f 178 z178 120 [some (rf 11 (0)), some (rf 13 (16)), some (rf 13 (17)), some (.inl (c1)), some (.inr (.inl (c2))), none, some (.inr (.inl (u6))), none, some (.inl (u8)), some (.inr (.inl (n49))), none, some (.inl ((Int32.ofInt 2) + Int32.ofInt 1))] [] τ (w, σ') := h
                        rw [show (Int32.ofInt 2) + Int32.ofInt 1 = Int32.ofInt 3 from by decide] at h
                        replace h : EV F f 178 z178 120 [some (rf 11 (0)), some (rf 13 (16)), some (rf 13 (17)), some (.inl (c1)), some (.inr (.inl (c2))), none, some (.inr (.inl (u6))), none, some (.inl (u8)), some (.inr (.inl (n49))), none, some (.inl (Int32.ofInt 3))] [] τ (w, σ') := h
                        replace h := ei_p h rfl rfl rfl rfl
                        obtain ⟨f, g, h⟩ := h
                        replace hf := Nat.lt_trans g hf
                        clear g
                        replace h : EV F f 178 z178 73 [some (rf 11 (0)), some (rf 13 (16)), some (rf 13 (17)), some (.inl (c1)), some (.inr (.inl (c2))), none, some (.inr (.inl (u6))), none, some (.inl (u8)), some (.inr (.inl (n49))), none, some (.inl (Int32.ofInt 3))] [] τ (w, σ') := h
                        replace h := ei_p h rfl rfl rfl rfl
                        obtain ⟨f, g, h⟩ := h
                        replace hf := Nat.lt_trans g hf
                        clear g
                        replace h : EV F f 178 z178 75 [some (rf 11 (0)), some (rf 13 (16)), some (rf 13 (17)), some (.inl (c1)), some (.inr (.inl (c2))), none, some (.inr (.inl (u6))), none, some (.inl (u8)), some (.inr (.inl (n49))), none, some (.inl (Int32.ofInt 3))] [.inl (Int32.ofInt 3)] τ (w, σ') := h
                        replace h := ei_p h rfl rfl rfl rfl
                        obtain ⟨f, g, h⟩ := h
                        replace hf := Nat.lt_trans g hf
                        clear g
                        replace h : EV F f 178 z178 76 [some (rf 11 (0)), some (rf 13 (16)), some (rf 13 (17)), some (.inl (c1)), some (.inr (.inl (c2))), none, some (.inr (.inl (u6))), none, some (.inl (u8)), some (.inr (.inl (n49))), none, some (.inl (Int32.ofInt 3))] [.inl (Int32.ofInt 3), .inl (Int32.ofInt 3)] τ (w, σ') := h
                        replace h := ei_c h rfl rfl rfl
                        rcases h with ⟨hp51, f, g, h⟩ | ⟨hp51, f, g, h⟩
                        · skip
                          replace hf := Nat.lt_trans g hf
                          clear g
                          replace h : EV F f 178 z178 123 [some (rf 11 (0)), some (rf 13 (16)), some (rf 13 (17)), some (.inl (c1)), some (.inr (.inl (c2))), none, some (.inr (.inl (u6))), none, some (.inl (u8)), some (.inr (.inl (n49))), none, some (.inl (Int32.ofInt 3))] [] τ (w, σ') := h
                          replace h := ei_p h rfl rfl rfl rfl
                          obtain ⟨f, g, h⟩ := h
                          replace hf := Nat.lt_trans g hf
                          clear g
                          replace h : EV F f 178 z178 125 [some (rf 11 (0)), some (rf 13 (16)), some (rf 13 (17)), some (.inl (c1)), some (.inr (.inl (c2))), none, some (.inr (.inl (u6))), none, some (.inl (u8)), some (.inr (.inl (n49))), none, some (.inl (Int32.ofInt 3))] [.inr (.inl (n49))] τ (w, σ') := h
                          replace h := ei_p h rfl rfl rfl rfl
                          obtain ⟨f, g, h⟩ := h
                          replace hf := Nat.lt_trans g hf
                          clear g
                          replace h : EV F f 178 z178 126 [some (rf 11 (0)), some (rf 13 (16)), some (rf 13 (17)), some (.inl (c1)), some (.inr (.inl (c2))), none, some (.inr (.inl (u6))), none, some (.inl (u8)), some (.inr (.inl (n49))), none, some (.inl (Int32.ofInt 3))] [.inr (.inl (-(n49)))] τ (w, σ') := h
                          replace h := ei_p h rfl rfl rfl rfl
                          obtain ⟨f, g, h⟩ := h
                          replace hf := Nat.lt_trans g hf
                          clear g
                          replace h : EV F f 178 z178 128 [some (rf 11 (0)), some (rf 13 (16)), some (rf 13 (17)), some (.inl (c1)), some (.inr (.inl (c2))), none, some (.inr (.inl (u6))), none, some (.inl (u8)), some (.inr (.inl (n49))), none, some (.inl (Int32.ofInt 3))] [.inr (.inl (u6)), .inr (.inl (-(n49)))] τ (w, σ') := h
                          replace h := ei_p h rfl rfl rfl rfl
                          obtain ⟨f, g, h⟩ := h
                          replace hf := Nat.lt_trans g hf
                          clear g
                          replace h : EV F f 178 z178 129 [some (rf 11 (0)), some (rf 13 (16)), some (rf 13 (17)), some (.inl (c1)), some (.inr (.inl (c2))), none, some (.inr (.inl (u6))), none, some (.inl (u8)), some (.inr (.inl (n49))), none, some (.inl (Int32.ofInt 3))] [.inl (lg_cmp (-(n49)) (u6))] τ (w, σ') := h
                          replace h := ei_c h rfl rfl rfl
                          rcases h with ⟨hp52, f, g, h⟩ | ⟨hp52, f, g, h⟩
                          · skip
                            replace hp52 : (-(n49)).toInt ≤ (u6).toInt := (ab_lc .le _ _).mp hp52
                            refine Or.inl ⟨hp52, ?_⟩
                            replace hf := Nat.lt_trans g hf
                            clear g
                            replace h : EV F f 178 z178 138 [some (rf 11 (0)), some (rf 13 (16)), some (rf 13 (17)), some (.inl (c1)), some (.inr (.inl (c2))), none, some (.inr (.inl (u6))), none, some (.inl (u8)), some (.inr (.inl (n49))), none, some (.inl (Int32.ofInt 3))] [] τ (w, σ') := h
                            replace h := ei_p h rfl rfl rfl rfl
                            obtain ⟨f, g, h⟩ := h
                            replace hf := Nat.lt_trans g hf
                            clear g
                            replace h : EV F f 178 z178 140 [some (rf 11 (0)), some (rf 13 (16)), some (rf 13 (17)), some (.inl (c1)), some (.inr (.inl (c2))), none, some (.inr (.inl (u6))), none, some (.inl (u8)), some (.inr (.inl (n49))), none, some (.inl (Int32.ofInt 3))] [.inr (.inl (u6))] τ (w, σ') := h
                            replace h := ei_p h rfl rfl rfl rfl
                            obtain ⟨f, g, h⟩ := h
                            replace hf := Nat.lt_trans g hf
                            clear g
                            replace h : EV F f 178 z178 142 [some (rf 11 (0)), some (rf 13 (16)), some (rf 13 (17)), some (.inl (c1)), some (.inr (.inl (c2))), none, some (.inr (.inl (u6))), none, some (.inl (u8)), some (.inr (.inl (n49))), none, some (.inl (Int32.ofInt 3))] [] τ (w, σ') := h
                            replace h := ei_p h rfl rfl rfl rfl
                            obtain ⟨f, g, h⟩ := h
                            replace hf := Nat.lt_trans g hf
                            clear g
                            replace h : EV F f 178 z178 145 [some (rf 11 (0)), some (rf 13 (16)), some (rf 13 (17)), some (.inl (c1)), some (.inr (.inl (c2))), none, some (.inr (.inl (u6))), none, some (.inl ((u8) + Int32.ofInt 1)), some (.inr (.inl (n49))), none, some (.inl (Int32.ofInt 3))] [] τ (w, σ') := h
                            replace h := ei_p h rfl rfl rfl rfl
                            obtain ⟨f, g, h⟩ := h
                            replace hf := Nat.lt_trans g hf
                            clear g
                            replace h : EV F f 178 z178 59 [some (rf 11 (0)), some (rf 13 (16)), some (rf 13 (17)), some (.inl (c1)), some (.inr (.inl (c2))), none, some (.inr (.inl (u6))), none, some (.inl ((u8) + Int32.ofInt 1)), some (.inr (.inl (n49))), none, some (.inl (Int32.ofInt 3))] [] τ (w, σ') := h
                            exact IH f hf (u6) ((u8) + Int32.ofInt 1) (some (.inr (.inl (n49)))) (none) (some (.inl (Int32.ofInt 3))) τ hsτ h
                          · skip
                            replace hp52 : ¬ ((-(n49)).toInt ≤ (u6).toInt) := (not_congr (ab_lc .le _ _)).mp hp52
                            refine Or.inr ⟨hp52, ?_⟩
                            replace hf := Nat.lt_trans g hf
                            clear g
                            replace h : EV F f 178 z178 132 [some (rf 11 (0)), some (rf 13 (16)), some (rf 13 (17)), some (.inl (c1)), some (.inr (.inl (c2))), none, some (.inr (.inl (u6))), none, some (.inl (u8)), some (.inr (.inl (n49))), none, some (.inl (Int32.ofInt 3))] [] τ (w, σ') := h
                            replace h := ei_p h rfl rfl rfl rfl
                            obtain ⟨f, g, h⟩ := h
                            replace hf := Nat.lt_trans g hf
                            clear g
                            replace h : EV F f 178 z178 134 [some (rf 11 (0)), some (rf 13 (16)), some (rf 13 (17)), some (.inl (c1)), some (.inr (.inl (c2))), none, some (.inr (.inl (u6))), none, some (.inl (u8)), some (.inr (.inl (n49))), none, some (.inl (Int32.ofInt 3))] [.inr (.inl (n49))] τ (w, σ') := h
                            replace h := ei_p h rfl rfl rfl rfl
                            obtain ⟨f, g, h⟩ := h
                            replace hf := Nat.lt_trans g hf
                            clear g
                            replace h : EV F f 178 z178 135 [some (rf 11 (0)), some (rf 13 (16)), some (rf 13 (17)), some (.inl (c1)), some (.inr (.inl (c2))), none, some (.inr (.inl (u6))), none, some (.inl (u8)), some (.inr (.inl (n49))), none, some (.inl (Int32.ofInt 3))] [.inr (.inl (-(n49)))] τ (w, σ') := h
                            replace h := ei_p h rfl rfl rfl rfl
                            obtain ⟨f, g, h⟩ := h
                            replace hf := Nat.lt_trans g hf
                            clear g
                            replace h : EV F f 178 z178 140 [some (rf 11 (0)), some (rf 13 (16)), some (rf 13 (17)), some (.inl (c1)), some (.inr (.inl (c2))), none, some (.inr (.inl (u6))), none, some (.inl (u8)), some (.inr (.inl (n49))), none, some (.inl (Int32.ofInt 3))] [.inr (.inl (-(n49)))] τ (w, σ') := h
                            replace h := ei_p h rfl rfl rfl rfl
                            obtain ⟨f, g, h⟩ := h
                            replace hf := Nat.lt_trans g hf
                            clear g
                            replace h : EV F f 178 z178 142 [some (rf 11 (0)), some (rf 13 (16)), some (rf 13 (17)), some (.inl (c1)), some (.inr (.inl (c2))), none, some (.inr (.inl (-(n49)))), none, some (.inl (u8)), some (.inr (.inl (n49))), none, some (.inl (Int32.ofInt 3))] [] τ (w, σ') := h
                            replace h := ei_p h rfl rfl rfl rfl
                            obtain ⟨f, g, h⟩ := h
                            replace hf := Nat.lt_trans g hf
                            clear g
                            replace h : EV F f 178 z178 145 [some (rf 11 (0)), some (rf 13 (16)), some (rf 13 (17)), some (.inl (c1)), some (.inr (.inl (c2))), none, some (.inr (.inl (-(n49)))), none, some (.inl ((u8) + Int32.ofInt 1)), some (.inr (.inl (n49))), none, some (.inl (Int32.ofInt 3))] [] τ (w, σ') := h
                            replace h := ei_p h rfl rfl rfl rfl
                            obtain ⟨f, g, h⟩ := h
                            replace hf := Nat.lt_trans g hf
                            clear g
                            replace h : EV F f 178 z178 59 [some (rf 11 (0)), some (rf 13 (16)), some (rf 13 (17)), some (.inl (c1)), some (.inr (.inl (c2))), none, some (.inr (.inl (-(n49)))), none, some (.inl ((u8) + Int32.ofInt 1)), some (.inr (.inl (n49))), none, some (.inl (Int32.ofInt 3))] [] τ (w, σ') := h
                            exact IH f hf (-(n49)) ((u8) + Int32.ofInt 1) (some (.inr (.inl (n49)))) (none) (some (.inl (Int32.ofInt 3))) τ hsτ h
                        · exact absurd (ic_ge.mpr (by decide)) hp51
                      · skip
                        have er44 := ro2_run rfl r44
                        rw [er44] at e r44
                        have p45 := x140 hsτ.1 r44
                        cases e
                        exact Or.inr ⟨b, p45, rfl, rfl⟩
                    · skip
                      have er40 := ro2_run rfl r40
                      rw [er40] at e r40
                      have p41 := x144 hsτ.1 r40
                      cases e
                      exact Or.inr ⟨b, p41, rfl, rfl⟩
                · skip
                  have er30 := ro2_run rfl r30
                  rw [er30] at e r30
                  have p31 := x140 hsτ.1 r30
                  cases e
                  exact Or.inr ⟨b, p31, rfl, rfl⟩
              · skip
                have er26 := ro2_run rfl r26
                rw [er26] at e r26
                have p27 := x144 hsτ.1 r26
                cases e
                exact Or.inr ⟨b, p27, rfl, rfl⟩
          · skip
            have er16 := ro2_run rfl r16
            rw [er16] at e r16
            have p17 := x140 hsτ.1 r16
            cases e
            exact Or.inr ⟨b, p17, rfl, rfl⟩
        · skip
          have er12 := ro2_run rfl r12
          rw [er12] at e r12
          have p13 := x144 hsτ.1 r12
          cases e
          exact Or.inr ⟨b, p13, rfl, rfl⟩
def P178 (σ : mS) (x4 : Int32) (w : mX) (σ' : mS) : Prop := ((∃ v1, P145 σ (x4) (Int32.ofInt 0) (.inl (some (.inr (.inl v1)))) σ ∧ ((∃ v5, P145 σ (x4) (Int32.ofInt 1) (.inl (some (.inr (.inl v5)))) σ ∧ (((∃ v10, P144 σ (x4) (Int32.ofInt 0) (.inl (some (.inr (.inl v10)))) σ ∧ ((∃ v14, P140 σ (Int32.ofInt 0) (.inl (some (.inl v14))) σ ∧ ∃ n19, n19 = ((v1) + (v5)) + ((v10) * (((v14) / (Int32.ofInt 10)).toInt64)) ∧ (((∃ v22, P144 σ (x4) (Int32.ofInt 1) (.inl (some (.inr (.inl v22)))) σ ∧ ((∃ v26, P140 σ (Int32.ofInt 1) (.inl (some (.inl v26))) σ ∧ ∃ n31, n31 = (n19) + ((v22) * (((v26) / (Int32.ofInt 10)).toInt64)) ∧ (((∃ v34, P144 σ (x4) (Int32.ofInt 2) (.inl (some (.inr (.inl v34)))) σ ∧ ((∃ v38, P140 σ (Int32.ofInt 2) (.inl (some (.inl v38))) σ ∧ ∃ n43, n43 = (n31) + ((v34) * (((v38) / (Int32.ofInt 10)).toInt64)) ∧ (∃ n, Q178_59 (x4) (n43) n (Int64.ofNat 0) (Int32.ofInt 0) σ w σ')) ∨ (∃ b, P140 σ (Int32.ofInt 2) (.inr b) σ ∧ w = .inr b ∧ σ' = σ))) ∨ (∃ b, P144 σ (x4) (Int32.ofInt 2) (.inr b) σ ∧ w = .inr b ∧ σ' = σ)))) ∨ (∃ b, P140 σ (Int32.ofInt 1) (.inr b) σ ∧ w = .inr b ∧ σ' = σ))) ∨ (∃ b, P144 σ (x4) (Int32.ofInt 1) (.inr b) σ ∧ w = .inr b ∧ σ' = σ)))) ∨ (∃ b, P140 σ (Int32.ofInt 0) (.inr b) σ ∧ w = .inr b ∧ σ' = σ))) ∨ (∃ b, P144 σ (x4) (Int32.ofInt 0) (.inr b) σ ∧ w = .inr b ∧ σ' = σ)))) ∨ (∃ b, P145 σ (x4) (Int32.ofInt 1) (.inr b) σ ∧ w = .inr b ∧ σ' = σ))) ∨ (∃ b, P145 σ (x4) (Int32.ofInt 0) (.inr b) σ ∧ w = .inr b ∧ σ' = σ))
set_option maxRecDepth 100000 in
theorem x178 {σ σ' : mS} {x4 : Int32} {w : mX} (hs : HL σ) (h : ev_run sm_all 178 [rf 11 (0), rf 13 (16), rf 13 (17), .inl (x4)] σ (w) σ') : P178 σ x4 w σ' := by
  unfold P178
  obtain ⟨F, f, h⟩ := ei_go h z178_at
  replace h : EV F f 178 z178 0 [some (rf 11 (0)), some (rf 13 (16)), some (rf 13 (17)), some (.inl (x4)), none, none, none, none, none, none, none, none] [] σ (w, σ') := h
  replace h := ei_p h rfl rfl rfl rfl
  obtain ⟨f, g, h⟩ := h
  clear g
  replace h : EV F f 178 z178 1 [some (rf 11 (0)), some (rf 13 (16)), some (rf 13 (17)), some (.inl (x4)), none, none, none, none, none, none, none, none] [rf 11 (0)] σ (w, σ') := h
  replace h := ei_p h rfl rfl rfl rfl
  obtain ⟨f, g, h⟩ := h
  clear g
  replace h : EV F f 178 z178 2 [some (rf 11 (0)), some (rf 13 (16)), some (rf 13 (17)), some (.inl (x4)), none, none, none, none, none, none, none, none] [.inl (x4), rf 11 (0)] σ (w, σ') := h
  replace h := ei_p h rfl rfl rfl rfl
  obtain ⟨f, g, h⟩ := h
  clear g
  replace h : EV F f 178 z178 3 [some (rf 11 (0)), some (rf 13 (16)), some (rf 13 (17)), some (.inl (x4)), none, none, none, none, none, none, none, none] [.inl (Int32.ofInt 0), .inl (x4), rf 11 (0)] σ (w, σ') := h
  replace h := bx_L (ei_v (as := [.inl (Int32.ofInt 0), .inl (x4)]) h rfl rfl rfl) z145_at rfl
  rcases h with ⟨v1, σ2, r3, f, g, h⟩ | ⟨b, σ2, r3, e⟩
  · skip
    have er3 := ro2_run rfl r3
    rw [er3] at h r3
    clear g
    have p4 := x145 hs.1 r3
    refine Or.inl ⟨v1, p4, ?_⟩
    replace h : EV F f 178 z178 6 [some (rf 11 (0)), some (rf 13 (16)), some (rf 13 (17)), some (.inl (x4)), none, none, none, none, none, none, none, none] [.inr (.inl (v1))] σ (w, σ') := h
    replace h := ei_p h rfl rfl rfl rfl
    obtain ⟨f, g, h⟩ := h
    clear g
    replace h : EV F f 178 z178 7 [some (rf 11 (0)), some (rf 13 (16)), some (rf 13 (17)), some (.inl (x4)), none, none, none, none, none, none, none, none] [rf 11 (0), .inr (.inl (v1))] σ (w, σ') := h
    replace h := ei_p h rfl rfl rfl rfl
    obtain ⟨f, g, h⟩ := h
    clear g
    replace h : EV F f 178 z178 8 [some (rf 11 (0)), some (rf 13 (16)), some (rf 13 (17)), some (.inl (x4)), none, none, none, none, none, none, none, none] [.inl (x4), rf 11 (0), .inr (.inl (v1))] σ (w, σ') := h
    replace h := ei_p h rfl rfl rfl rfl
    obtain ⟨f, g, h⟩ := h
    clear g
    replace h : EV F f 178 z178 9 [some (rf 11 (0)), some (rf 13 (16)), some (rf 13 (17)), some (.inl (x4)), none, none, none, none, none, none, none, none] [.inl (Int32.ofInt 1), .inl (x4), rf 11 (0), .inr (.inl (v1))] σ (w, σ') := h
    replace h := bx_L (ei_v (as := [.inl (Int32.ofInt 1), .inl (x4)]) h rfl rfl rfl) z145_at rfl
    rcases h with ⟨v5, σ6, r7, f, g, h⟩ | ⟨b, σ6, r7, e⟩
    · skip
      have er7 := ro2_run rfl r7
      rw [er7] at h r7
      clear g
      have p8 := x145 hs.1 r7
      refine Or.inl ⟨v5, p8, ?_⟩
      replace h : EV F f 178 z178 12 [some (rf 11 (0)), some (rf 13 (16)), some (rf 13 (17)), some (.inl (x4)), none, none, none, none, none, none, none, none] [.inr (.inl (v5)), .inr (.inl (v1))] σ (w, σ') := h
      replace h := ei_p h rfl rfl rfl rfl
      obtain ⟨f, g, h⟩ := h
      clear g
      replace h : EV F f 178 z178 13 [some (rf 11 (0)), some (rf 13 (16)), some (rf 13 (17)), some (.inl (x4)), none, none, none, none, none, none, none, none] [.inr (.inl ((v1) + (v5)))] σ (w, σ') := h
      replace h := ei_p h rfl rfl rfl rfl
      obtain ⟨f, g, h⟩ := h
      clear g
      replace h : EV F f 178 z178 15 [some (rf 11 (0)), some (rf 13 (16)), some (rf 13 (17)), some (.inl (x4)), some (.inr (.inl ((v1) + (v5)))), none, none, none, none, none, none, none] [] σ (w, σ') := h
      replace h := ei_p h rfl rfl rfl rfl
      obtain ⟨f, g, h⟩ := h
      clear g
      replace h : EV F f 178 z178 16 [some (rf 11 (0)), some (rf 13 (16)), some (rf 13 (17)), some (.inl (x4)), some (.inr (.inl ((v1) + (v5)))), none, none, none, none, none, none, none] [.inr (.inl (Int64.ofNat 0))] σ (w, σ') := h
      replace h := ei_p h rfl rfl rfl rfl
      obtain ⟨f, g, h⟩ := h
      clear g
      replace h : EV F f 178 z178 18 [some (rf 11 (0)), some (rf 13 (16)), some (rf 13 (17)), some (.inl (x4)), some (.inr (.inl ((v1) + (v5)))), none, some (.inr (.inl (Int64.ofNat 0))), none, none, none, none, none] [] σ (w, σ') := h
      replace h := ei_p h rfl rfl rfl rfl
      obtain ⟨f, g, h⟩ := h
      clear g
      replace h : EV F f 178 z178 19 [some (rf 11 (0)), some (rf 13 (16)), some (rf 13 (17)), some (.inl (x4)), some (.inr (.inl ((v1) + (v5)))), none, some (.inr (.inl (Int64.ofNat 0))), none, none, none, none, none] [.inl (Int32.ofInt 0)] σ (w, σ') := h
      replace h := ei_p h rfl rfl rfl rfl
      obtain ⟨f, g, h⟩ := h
      clear g
      replace h : EV F f 178 z178 21 [some (rf 11 (0)), some (rf 13 (16)), some (rf 13 (17)), some (.inl (x4)), some (.inr (.inl ((v1) + (v5)))), none, some (.inr (.inl (Int64.ofNat 0))), none, some (.inl (Int32.ofInt 0)), none, none, none] [] σ (w, σ') := h
      replace h := ei_p h rfl rfl rfl rfl
      obtain ⟨f, g, h⟩ := h
      clear g
      replace h : EV F f 178 z178 23 [some (rf 11 (0)), some (rf 13 (16)), some (rf 13 (17)), some (.inl (x4)), some (.inr (.inl ((v1) + (v5)))), none, some (.inr (.inl (Int64.ofNat 0))), none, some (.inl (Int32.ofInt 0)), none, none, none] [.inl (Int32.ofInt 0)] σ (w, σ') := h
      replace h := ei_p h rfl rfl rfl rfl
      obtain ⟨f, g, h⟩ := h
      clear g
      replace h : EV F f 178 z178 24 [some (rf 11 (0)), some (rf 13 (16)), some (rf 13 (17)), some (.inl (x4)), some (.inr (.inl ((v1) + (v5)))), none, some (.inr (.inl (Int64.ofNat 0))), none, some (.inl (Int32.ofInt 0)), none, none, none] [.inl (Int32.ofInt 3), .inl (Int32.ofInt 0)] σ (w, σ') := h
      replace h := ei_c h rfl rfl rfl
      rcases h with ⟨hp9, f, g, h⟩ | ⟨hp9, f, g, h⟩
      · exact absurd (ic_ge.mp hp9) (by decide)
      · skip
        clear g
        replace h : EV F f 178 z178 27 [some (rf 11 (0)), some (rf 13 (16)), some (rf 13 (17)), some (.inl (x4)), some (.inr (.inl ((v1) + (v5)))), none, some (.inr (.inl (Int64.ofNat 0))), none, some (.inl (Int32.ofInt 0)), none, none, none] [] σ (w, σ') := h
        replace h := ei_p h rfl rfl rfl rfl
        obtain ⟨f, g, h⟩ := h
        clear g
        replace h : EV F f 178 z178 29 [some (rf 11 (0)), some (rf 13 (16)), some (rf 13 (17)), some (.inl (x4)), some (.inr (.inl ((v1) + (v5)))), none, some (.inr (.inl (Int64.ofNat 0))), none, some (.inl (Int32.ofInt 0)), none, none, none] [.inr (.inl ((v1) + (v5)))] σ (w, σ') := h
        replace h := ei_p h rfl rfl rfl rfl
        obtain ⟨f, g, h⟩ := h
        clear g
        replace h : EV F f 178 z178 30 [some (rf 11 (0)), some (rf 13 (16)), some (rf 13 (17)), some (.inl (x4)), some (.inr (.inl ((v1) + (v5)))), none, some (.inr (.inl (Int64.ofNat 0))), none, some (.inl (Int32.ofInt 0)), none, none, none] [rf 11 (0), .inr (.inl ((v1) + (v5)))] σ (w, σ') := h
        replace h := ei_p h rfl rfl rfl rfl
        obtain ⟨f, g, h⟩ := h
        clear g
        replace h : EV F f 178 z178 31 [some (rf 11 (0)), some (rf 13 (16)), some (rf 13 (17)), some (.inl (x4)), some (.inr (.inl ((v1) + (v5)))), none, some (.inr (.inl (Int64.ofNat 0))), none, some (.inl (Int32.ofInt 0)), none, none, none] [.inl (x4), rf 11 (0), .inr (.inl ((v1) + (v5)))] σ (w, σ') := h
        replace h := ei_p h rfl rfl rfl rfl
        obtain ⟨f, g, h⟩ := h
        clear g
        replace h : EV F f 178 z178 33 [some (rf 11 (0)), some (rf 13 (16)), some (rf 13 (17)), some (.inl (x4)), some (.inr (.inl ((v1) + (v5)))), none, some (.inr (.inl (Int64.ofNat 0))), none, some (.inl (Int32.ofInt 0)), none, none, none] [.inl (Int32.ofInt 0), .inl (x4), rf 11 (0), .inr (.inl ((v1) + (v5)))] σ (w, σ') := h
        replace h := bx_L (ei_v (as := [.inl (Int32.ofInt 0), .inl (x4)]) h rfl rfl rfl) z144_at rfl
        rcases h with ⟨v10, σ11, r12, f, g, h⟩ | ⟨b, σ11, r12, e⟩
        · skip
          have er12 := ro2_run rfl r12
          rw [er12] at h r12
          clear g
          have p13 := x144 hs.1 r12
          refine Or.inl ⟨v10, p13, ?_⟩
          replace h : EV F f 178 z178 36 [some (rf 11 (0)), some (rf 13 (16)), some (rf 13 (17)), some (.inl (x4)), some (.inr (.inl ((v1) + (v5)))), none, some (.inr (.inl (Int64.ofNat 0))), none, some (.inl (Int32.ofInt 0)), none, none, none] [.inr (.inl (v10)), .inr (.inl ((v1) + (v5)))] σ (w, σ') := h
          replace h := ei_p h rfl rfl rfl rfl
          obtain ⟨f, g, h⟩ := h
          clear g
          replace h : EV F f 178 z178 37 [some (rf 11 (0)), some (rf 13 (16)), some (rf 13 (17)), some (.inl (x4)), some (.inr (.inl ((v1) + (v5)))), none, some (.inr (.inl (Int64.ofNat 0))), none, some (.inl (Int32.ofInt 0)), none, none, none] [rf 11 (0), .inr (.inl (v10)), .inr (.inl ((v1) + (v5)))] σ (w, σ') := h
          replace h := ei_p h rfl rfl rfl rfl
          obtain ⟨f, g, h⟩ := h
          clear g
          replace h : EV F f 178 z178 39 [some (rf 11 (0)), some (rf 13 (16)), some (rf 13 (17)), some (.inl (x4)), some (.inr (.inl ((v1) + (v5)))), none, some (.inr (.inl (Int64.ofNat 0))), none, some (.inl (Int32.ofInt 0)), none, none, none] [.inl (Int32.ofInt 0), rf 11 (0), .inr (.inl (v10)), .inr (.inl ((v1) + (v5)))] σ (w, σ') := h
          replace h := bx_I (ei_v (as := [.inl (Int32.ofInt 0)]) h rfl rfl rfl) z140_at (Or.inl rfl)
          rcases h with ⟨v14, σ15, r16, f, g, h⟩ | ⟨b, σ15, r16, e⟩
          · skip
            have er16 := ro2_run rfl r16
            rw [er16] at h r16
            clear g
            have p17 := x140 hs.1 r16
            refine Or.inl ⟨v14, p17, ?_⟩
            replace h : EV F f 178 z178 42 [some (rf 11 (0)), some (rf 13 (16)), some (rf 13 (17)), some (.inl (x4)), some (.inr (.inl ((v1) + (v5)))), none, some (.inr (.inl (Int64.ofNat 0))), none, some (.inl (Int32.ofInt 0)), none, none, none] [.inl (v14), .inr (.inl (v10)), .inr (.inl ((v1) + (v5)))] σ (w, σ') := h
            replace h := ei_p h rfl rfl rfl rfl
            obtain ⟨f, g, h⟩ := h
            clear g
            replace h : EV F f 178 z178 44 [some (rf 11 (0)), some (rf 13 (16)), some (rf 13 (17)), some (.inl (x4)), some (.inr (.inl ((v1) + (v5)))), none, some (.inr (.inl (Int64.ofNat 0))), none, some (.inl (Int32.ofInt 0)), none, none, none] [.inl (Int32.ofInt 10), .inl (v14), .inr (.inl (v10)), .inr (.inl ((v1) + (v5)))] σ (w, σ') := h
            replace h := ei_idiv h rfl
            obtain ⟨hd18, f, g, h⟩ := h
            clear g
            replace h : EV F f 178 z178 45 [some (rf 11 (0)), some (rf 13 (16)), some (rf 13 (17)), some (.inl (x4)), some (.inr (.inl ((v1) + (v5)))), none, some (.inr (.inl (Int64.ofNat 0))), none, some (.inl (Int32.ofInt 0)), none, none, none] [.inl ((v14) / (Int32.ofInt 10)), .inr (.inl (v10)), .inr (.inl ((v1) + (v5)))] σ (w, σ') := h
            replace h := ei_p h rfl rfl rfl rfl
            obtain ⟨f, g, h⟩ := h
            clear g
            replace h : EV F f 178 z178 46 [some (rf 11 (0)), some (rf 13 (16)), some (rf 13 (17)), some (.inl (x4)), some (.inr (.inl ((v1) + (v5)))), none, some (.inr (.inl (Int64.ofNat 0))), none, some (.inl (Int32.ofInt 0)), none, none, none] [.inr (.inl (((v14) / (Int32.ofInt 10)).toInt64)), .inr (.inl (v10)), .inr (.inl ((v1) + (v5)))] σ (w, σ') := h
            replace h := ei_p h rfl rfl rfl rfl
            obtain ⟨f, g, h⟩ := h
            clear g
            replace h : EV F f 178 z178 47 [some (rf 11 (0)), some (rf 13 (16)), some (rf 13 (17)), some (.inl (x4)), some (.inr (.inl ((v1) + (v5)))), none, some (.inr (.inl (Int64.ofNat 0))), none, some (.inl (Int32.ofInt 0)), none, none, none] [.inr (.inl ((v10) * (((v14) / (Int32.ofInt 10)).toInt64))), .inr (.inl ((v1) + (v5)))] σ (w, σ') := h
            replace h := ei_p h rfl rfl rfl rfl
            obtain ⟨f, g, h⟩ := h
            clear g
            replace h : EV F f 178 z178 48 [some (rf 11 (0)), some (rf 13 (16)), some (rf 13 (17)), some (.inl (x4)), some (.inr (.inl ((v1) + (v5)))), none, some (.inr (.inl (Int64.ofNat 0))), none, some (.inl (Int32.ofInt 0)), none, none, none] [.inr (.inl (((v1) + (v5)) + ((v10) * (((v14) / (Int32.ofInt 10)).toInt64))))] σ (w, σ') := h
            replace h := ei_p h rfl rfl rfl rfl
            obtain ⟨f, g, h⟩ := h
            clear g
            replace h : EV F f 178 z178 50 [some (rf 11 (0)), some (rf 13 (16)), some (rf 13 (17)), some (.inl (x4)), some (.inr (.inl (((v1) + (v5)) + ((v10) * (((v14) / (Int32.ofInt 10)).toInt64))))), none, some (.inr (.inl (Int64.ofNat 0))), none, some (.inl (Int32.ofInt 0)), none, none, none] [] σ (w, σ') := h
            obtain ⟨n19, e20⟩ : ∃ s, s = ((v1) + (v5)) + ((v10) * (((v14) / (Int32.ofInt 10)).toInt64)) := ⟨_, rfl⟩
            rw [← e20] at h
            refine ⟨n19, e20, ?_⟩
            replace h : EV F f 178 z178 50 [some (rf 11 (0)), some (rf 13 (16)), some (rf 13 (17)), some (.inl (x4)), some (.inr (.inl (n19))), none, some (.inr (.inl (Int64.ofNat 0))), none, some (.inl (Int32.ofInt 0)), none, none, none] [] σ (w, σ') := h
            replace h := ei_p h rfl rfl rfl rfl
            obtain ⟨f, g, h⟩ := h
            clear g
            replace h : EV F f 178 z178 53 [some (rf 11 (0)), some (rf 13 (16)), some (rf 13 (17)), some (.inl (x4)), some (.inr (.inl (n19))), none, some (.inr (.inl (Int64.ofNat 0))), none, some (.inl ((Int32.ofInt 0) + Int32.ofInt 1)), none, none, none] [] σ (w, σ') := h
            rw [show (Int32.ofInt 0) + Int32.ofInt 1 = Int32.ofInt 1 from by decide] at h
            replace h : EV F f 178 z178 53 [some (rf 11 (0)), some (rf 13 (16)), some (rf 13 (17)), some (.inl (x4)), some (.inr (.inl (n19))), none, some (.inr (.inl (Int64.ofNat 0))), none, some (.inl (Int32.ofInt 1)), none, none, none] [] σ (w, σ') := h
            replace h := ei_p h rfl rfl rfl rfl
            obtain ⟨f, g, h⟩ := h
            clear g
            replace h : EV F f 178 z178 21 [some (rf 11 (0)), some (rf 13 (16)), some (rf 13 (17)), some (.inl (x4)), some (.inr (.inl (n19))), none, some (.inr (.inl (Int64.ofNat 0))), none, some (.inl (Int32.ofInt 1)), none, none, none] [] σ (w, σ') := h
            replace h := ei_p h rfl rfl rfl rfl
            obtain ⟨f, g, h⟩ := h
            clear g
            replace h : EV F f 178 z178 23 [some (rf 11 (0)), some (rf 13 (16)), some (rf 13 (17)), some (.inl (x4)), some (.inr (.inl (n19))), none, some (.inr (.inl (Int64.ofNat 0))), none, some (.inl (Int32.ofInt 1)), none, none, none] [.inl (Int32.ofInt 1)] σ (w, σ') := h
            replace h := ei_p h rfl rfl rfl rfl
            obtain ⟨f, g, h⟩ := h
            clear g
            replace h : EV F f 178 z178 24 [some (rf 11 (0)), some (rf 13 (16)), some (rf 13 (17)), some (.inl (x4)), some (.inr (.inl (n19))), none, some (.inr (.inl (Int64.ofNat 0))), none, some (.inl (Int32.ofInt 1)), none, none, none] [.inl (Int32.ofInt 3), .inl (Int32.ofInt 1)] σ (w, σ') := h
            replace h := ei_c h rfl rfl rfl
            rcases h with ⟨hp21, f, g, h⟩ | ⟨hp21, f, g, h⟩
            · exact absurd (ic_ge.mp hp21) (by decide)
            · skip
              clear g
              replace h : EV F f 178 z178 27 [some (rf 11 (0)), some (rf 13 (16)), some (rf 13 (17)), some (.inl (x4)), some (.inr (.inl (n19))), none, some (.inr (.inl (Int64.ofNat 0))), none, some (.inl (Int32.ofInt 1)), none, none, none] [] σ (w, σ') := h
              replace h := ei_p h rfl rfl rfl rfl
              obtain ⟨f, g, h⟩ := h
              clear g
              replace h : EV F f 178 z178 29 [some (rf 11 (0)), some (rf 13 (16)), some (rf 13 (17)), some (.inl (x4)), some (.inr (.inl (n19))), none, some (.inr (.inl (Int64.ofNat 0))), none, some (.inl (Int32.ofInt 1)), none, none, none] [.inr (.inl (n19))] σ (w, σ') := h
              replace h := ei_p h rfl rfl rfl rfl
              obtain ⟨f, g, h⟩ := h
              clear g
              replace h : EV F f 178 z178 30 [some (rf 11 (0)), some (rf 13 (16)), some (rf 13 (17)), some (.inl (x4)), some (.inr (.inl (n19))), none, some (.inr (.inl (Int64.ofNat 0))), none, some (.inl (Int32.ofInt 1)), none, none, none] [rf 11 (0), .inr (.inl (n19))] σ (w, σ') := h
              replace h := ei_p h rfl rfl rfl rfl
              obtain ⟨f, g, h⟩ := h
              clear g
              replace h : EV F f 178 z178 31 [some (rf 11 (0)), some (rf 13 (16)), some (rf 13 (17)), some (.inl (x4)), some (.inr (.inl (n19))), none, some (.inr (.inl (Int64.ofNat 0))), none, some (.inl (Int32.ofInt 1)), none, none, none] [.inl (x4), rf 11 (0), .inr (.inl (n19))] σ (w, σ') := h
              replace h := ei_p h rfl rfl rfl rfl
              obtain ⟨f, g, h⟩ := h
              clear g
              replace h : EV F f 178 z178 33 [some (rf 11 (0)), some (rf 13 (16)), some (rf 13 (17)), some (.inl (x4)), some (.inr (.inl (n19))), none, some (.inr (.inl (Int64.ofNat 0))), none, some (.inl (Int32.ofInt 1)), none, none, none] [.inl (Int32.ofInt 1), .inl (x4), rf 11 (0), .inr (.inl (n19))] σ (w, σ') := h
              replace h := bx_L (ei_v (as := [.inl (Int32.ofInt 1), .inl (x4)]) h rfl rfl rfl) z144_at rfl
              rcases h with ⟨v22, σ23, r24, f, g, h⟩ | ⟨b, σ23, r24, e⟩
              · skip
                have er24 := ro2_run rfl r24
                rw [er24] at h r24
                clear g
                have p25 := x144 hs.1 r24
                refine Or.inl ⟨v22, p25, ?_⟩
                replace h : EV F f 178 z178 36 [some (rf 11 (0)), some (rf 13 (16)), some (rf 13 (17)), some (.inl (x4)), some (.inr (.inl (n19))), none, some (.inr (.inl (Int64.ofNat 0))), none, some (.inl (Int32.ofInt 1)), none, none, none] [.inr (.inl (v22)), .inr (.inl (n19))] σ (w, σ') := h
                replace h := ei_p h rfl rfl rfl rfl
                obtain ⟨f, g, h⟩ := h
                clear g
                replace h : EV F f 178 z178 37 [some (rf 11 (0)), some (rf 13 (16)), some (rf 13 (17)), some (.inl (x4)), some (.inr (.inl (n19))), none, some (.inr (.inl (Int64.ofNat 0))), none, some (.inl (Int32.ofInt 1)), none, none, none] [rf 11 (0), .inr (.inl (v22)), .inr (.inl (n19))] σ (w, σ') := h
                replace h := ei_p h rfl rfl rfl rfl
                obtain ⟨f, g, h⟩ := h
                clear g
                replace h : EV F f 178 z178 39 [some (rf 11 (0)), some (rf 13 (16)), some (rf 13 (17)), some (.inl (x4)), some (.inr (.inl (n19))), none, some (.inr (.inl (Int64.ofNat 0))), none, some (.inl (Int32.ofInt 1)), none, none, none] [.inl (Int32.ofInt 1), rf 11 (0), .inr (.inl (v22)), .inr (.inl (n19))] σ (w, σ') := h
                replace h := bx_I (ei_v (as := [.inl (Int32.ofInt 1)]) h rfl rfl rfl) z140_at (Or.inl rfl)
                rcases h with ⟨v26, σ27, r28, f, g, h⟩ | ⟨b, σ27, r28, e⟩
                · skip
                  have er28 := ro2_run rfl r28
                  rw [er28] at h r28
                  clear g
                  have p29 := x140 hs.1 r28
                  refine Or.inl ⟨v26, p29, ?_⟩
                  replace h : EV F f 178 z178 42 [some (rf 11 (0)), some (rf 13 (16)), some (rf 13 (17)), some (.inl (x4)), some (.inr (.inl (n19))), none, some (.inr (.inl (Int64.ofNat 0))), none, some (.inl (Int32.ofInt 1)), none, none, none] [.inl (v26), .inr (.inl (v22)), .inr (.inl (n19))] σ (w, σ') := h
                  replace h := ei_p h rfl rfl rfl rfl
                  obtain ⟨f, g, h⟩ := h
                  clear g
                  replace h : EV F f 178 z178 44 [some (rf 11 (0)), some (rf 13 (16)), some (rf 13 (17)), some (.inl (x4)), some (.inr (.inl (n19))), none, some (.inr (.inl (Int64.ofNat 0))), none, some (.inl (Int32.ofInt 1)), none, none, none] [.inl (Int32.ofInt 10), .inl (v26), .inr (.inl (v22)), .inr (.inl (n19))] σ (w, σ') := h
                  replace h := ei_idiv h rfl
                  obtain ⟨hd30, f, g, h⟩ := h
                  clear g
                  replace h : EV F f 178 z178 45 [some (rf 11 (0)), some (rf 13 (16)), some (rf 13 (17)), some (.inl (x4)), some (.inr (.inl (n19))), none, some (.inr (.inl (Int64.ofNat 0))), none, some (.inl (Int32.ofInt 1)), none, none, none] [.inl ((v26) / (Int32.ofInt 10)), .inr (.inl (v22)), .inr (.inl (n19))] σ (w, σ') := h
                  replace h := ei_p h rfl rfl rfl rfl
                  obtain ⟨f, g, h⟩ := h
                  clear g
                  replace h : EV F f 178 z178 46 [some (rf 11 (0)), some (rf 13 (16)), some (rf 13 (17)), some (.inl (x4)), some (.inr (.inl (n19))), none, some (.inr (.inl (Int64.ofNat 0))), none, some (.inl (Int32.ofInt 1)), none, none, none] [.inr (.inl (((v26) / (Int32.ofInt 10)).toInt64)), .inr (.inl (v22)), .inr (.inl (n19))] σ (w, σ') := h
                  replace h := ei_p h rfl rfl rfl rfl
                  obtain ⟨f, g, h⟩ := h
                  clear g
                  replace h : EV F f 178 z178 47 [some (rf 11 (0)), some (rf 13 (16)), some (rf 13 (17)), some (.inl (x4)), some (.inr (.inl (n19))), none, some (.inr (.inl (Int64.ofNat 0))), none, some (.inl (Int32.ofInt 1)), none, none, none] [.inr (.inl ((v22) * (((v26) / (Int32.ofInt 10)).toInt64))), .inr (.inl (n19))] σ (w, σ') := h
                  replace h := ei_p h rfl rfl rfl rfl
                  obtain ⟨f, g, h⟩ := h
                  clear g
                  replace h : EV F f 178 z178 48 [some (rf 11 (0)), some (rf 13 (16)), some (rf 13 (17)), some (.inl (x4)), some (.inr (.inl (n19))), none, some (.inr (.inl (Int64.ofNat 0))), none, some (.inl (Int32.ofInt 1)), none, none, none] [.inr (.inl ((n19) + ((v22) * (((v26) / (Int32.ofInt 10)).toInt64))))] σ (w, σ') := h
                  replace h := ei_p h rfl rfl rfl rfl
                  obtain ⟨f, g, h⟩ := h
                  clear g
                  replace h : EV F f 178 z178 50 [some (rf 11 (0)), some (rf 13 (16)), some (rf 13 (17)), some (.inl (x4)), some (.inr (.inl ((n19) + ((v22) * (((v26) / (Int32.ofInt 10)).toInt64))))), none, some (.inr (.inl (Int64.ofNat 0))), none, some (.inl (Int32.ofInt 1)), none, none, none] [] σ (w, σ') := h
                  obtain ⟨n31, e32⟩ : ∃ s, s = (n19) + ((v22) * (((v26) / (Int32.ofInt 10)).toInt64)) := ⟨_, rfl⟩
                  rw [← e32] at h
                  refine ⟨n31, e32, ?_⟩
                  replace h : EV F f 178 z178 50 [some (rf 11 (0)), some (rf 13 (16)), some (rf 13 (17)), some (.inl (x4)), some (.inr (.inl (n31))), none, some (.inr (.inl (Int64.ofNat 0))), none, some (.inl (Int32.ofInt 1)), none, none, none] [] σ (w, σ') := h
                  replace h := ei_p h rfl rfl rfl rfl
                  obtain ⟨f, g, h⟩ := h
                  clear g
                  replace h : EV F f 178 z178 53 [some (rf 11 (0)), some (rf 13 (16)), some (rf 13 (17)), some (.inl (x4)), some (.inr (.inl (n31))), none, some (.inr (.inl (Int64.ofNat 0))), none, some (.inl ((Int32.ofInt 1) + Int32.ofInt 1)), none, none, none] [] σ (w, σ') := h
                  rw [show (Int32.ofInt 1) + Int32.ofInt 1 = Int32.ofInt 2 from by decide] at h
                  replace h : EV F f 178 z178 53 [some (rf 11 (0)), some (rf 13 (16)), some (rf 13 (17)), some (.inl (x4)), some (.inr (.inl (n31))), none, some (.inr (.inl (Int64.ofNat 0))), none, some (.inl (Int32.ofInt 2)), none, none, none] [] σ (w, σ') := h
                  replace h := ei_p h rfl rfl rfl rfl
                  obtain ⟨f, g, h⟩ := h
                  clear g
                  replace h : EV F f 178 z178 21 [some (rf 11 (0)), some (rf 13 (16)), some (rf 13 (17)), some (.inl (x4)), some (.inr (.inl (n31))), none, some (.inr (.inl (Int64.ofNat 0))), none, some (.inl (Int32.ofInt 2)), none, none, none] [] σ (w, σ') := h
                  replace h := ei_p h rfl rfl rfl rfl
                  obtain ⟨f, g, h⟩ := h
                  clear g
                  replace h : EV F f 178 z178 23 [some (rf 11 (0)), some (rf 13 (16)), some (rf 13 (17)), some (.inl (x4)), some (.inr (.inl (n31))), none, some (.inr (.inl (Int64.ofNat 0))), none, some (.inl (Int32.ofInt 2)), none, none, none] [.inl (Int32.ofInt 2)] σ (w, σ') := h
                  replace h := ei_p h rfl rfl rfl rfl
                  obtain ⟨f, g, h⟩ := h
                  clear g
                  replace h : EV F f 178 z178 24 [some (rf 11 (0)), some (rf 13 (16)), some (rf 13 (17)), some (.inl (x4)), some (.inr (.inl (n31))), none, some (.inr (.inl (Int64.ofNat 0))), none, some (.inl (Int32.ofInt 2)), none, none, none] [.inl (Int32.ofInt 3), .inl (Int32.ofInt 2)] σ (w, σ') := h
                  replace h := ei_c h rfl rfl rfl
                  rcases h with ⟨hp33, f, g, h⟩ | ⟨hp33, f, g, h⟩
                  · exact absurd (ic_ge.mp hp33) (by decide)
                  · skip
                    clear g
                    replace h : EV F f 178 z178 27 [some (rf 11 (0)), some (rf 13 (16)), some (rf 13 (17)), some (.inl (x4)), some (.inr (.inl (n31))), none, some (.inr (.inl (Int64.ofNat 0))), none, some (.inl (Int32.ofInt 2)), none, none, none] [] σ (w, σ') := h
                    replace h := ei_p h rfl rfl rfl rfl
                    obtain ⟨f, g, h⟩ := h
                    clear g
                    replace h : EV F f 178 z178 29 [some (rf 11 (0)), some (rf 13 (16)), some (rf 13 (17)), some (.inl (x4)), some (.inr (.inl (n31))), none, some (.inr (.inl (Int64.ofNat 0))), none, some (.inl (Int32.ofInt 2)), none, none, none] [.inr (.inl (n31))] σ (w, σ') := h
                    replace h := ei_p h rfl rfl rfl rfl
                    obtain ⟨f, g, h⟩ := h
                    clear g
                    replace h : EV F f 178 z178 30 [some (rf 11 (0)), some (rf 13 (16)), some (rf 13 (17)), some (.inl (x4)), some (.inr (.inl (n31))), none, some (.inr (.inl (Int64.ofNat 0))), none, some (.inl (Int32.ofInt 2)), none, none, none] [rf 11 (0), .inr (.inl (n31))] σ (w, σ') := h
                    replace h := ei_p h rfl rfl rfl rfl
                    obtain ⟨f, g, h⟩ := h
                    clear g
                    replace h : EV F f 178 z178 31 [some (rf 11 (0)), some (rf 13 (16)), some (rf 13 (17)), some (.inl (x4)), some (.inr (.inl (n31))), none, some (.inr (.inl (Int64.ofNat 0))), none, some (.inl (Int32.ofInt 2)), none, none, none] [.inl (x4), rf 11 (0), .inr (.inl (n31))] σ (w, σ') := h
                    replace h := ei_p h rfl rfl rfl rfl
                    obtain ⟨f, g, h⟩ := h
                    clear g
                    replace h : EV F f 178 z178 33 [some (rf 11 (0)), some (rf 13 (16)), some (rf 13 (17)), some (.inl (x4)), some (.inr (.inl (n31))), none, some (.inr (.inl (Int64.ofNat 0))), none, some (.inl (Int32.ofInt 2)), none, none, none] [.inl (Int32.ofInt 2), .inl (x4), rf 11 (0), .inr (.inl (n31))] σ (w, σ') := h
                    replace h := bx_L (ei_v (as := [.inl (Int32.ofInt 2), .inl (x4)]) h rfl rfl rfl) z144_at rfl
                    rcases h with ⟨v34, σ35, r36, f, g, h⟩ | ⟨b, σ35, r36, e⟩
                    · skip
                      have er36 := ro2_run rfl r36
                      rw [er36] at h r36
                      clear g
                      have p37 := x144 hs.1 r36
                      refine Or.inl ⟨v34, p37, ?_⟩
                      replace h : EV F f 178 z178 36 [some (rf 11 (0)), some (rf 13 (16)), some (rf 13 (17)), some (.inl (x4)), some (.inr (.inl (n31))), none, some (.inr (.inl (Int64.ofNat 0))), none, some (.inl (Int32.ofInt 2)), none, none, none] [.inr (.inl (v34)), .inr (.inl (n31))] σ (w, σ') := h
                      replace h := ei_p h rfl rfl rfl rfl
                      obtain ⟨f, g, h⟩ := h
                      clear g
                      replace h : EV F f 178 z178 37 [some (rf 11 (0)), some (rf 13 (16)), some (rf 13 (17)), some (.inl (x4)), some (.inr (.inl (n31))), none, some (.inr (.inl (Int64.ofNat 0))), none, some (.inl (Int32.ofInt 2)), none, none, none] [rf 11 (0), .inr (.inl (v34)), .inr (.inl (n31))] σ (w, σ') := h
                      replace h := ei_p h rfl rfl rfl rfl
                      obtain ⟨f, g, h⟩ := h
                      clear g
                      replace h : EV F f 178 z178 39 [some (rf 11 (0)), some (rf 13 (16)), some (rf 13 (17)), some (.inl (x4)), some (.inr (.inl (n31))), none, some (.inr (.inl (Int64.ofNat 0))), none, some (.inl (Int32.ofInt 2)), none, none, none] [.inl (Int32.ofInt 2), rf 11 (0), .inr (.inl (v34)), .inr (.inl (n31))] σ (w, σ') := h
                      replace h := bx_I (ei_v (as := [.inl (Int32.ofInt 2)]) h rfl rfl rfl) z140_at (Or.inl rfl)
                      rcases h with ⟨v38, σ39, r40, f, g, h⟩ | ⟨b, σ39, r40, e⟩
                      · skip
                        have er40 := ro2_run rfl r40
                        rw [er40] at h r40
                        clear g
                        have p41 := x140 hs.1 r40
                        refine Or.inl ⟨v38, p41, ?_⟩
                        replace h : EV F f 178 z178 42 [some (rf 11 (0)), some (rf 13 (16)), some (rf 13 (17)), some (.inl (x4)), some (.inr (.inl (n31))), none, some (.inr (.inl (Int64.ofNat 0))), none, some (.inl (Int32.ofInt 2)), none, none, none] [.inl (v38), .inr (.inl (v34)), .inr (.inl (n31))] σ (w, σ') := h
                        replace h := ei_p h rfl rfl rfl rfl
                        obtain ⟨f, g, h⟩ := h
                        clear g
                        replace h : EV F f 178 z178 44 [some (rf 11 (0)), some (rf 13 (16)), some (rf 13 (17)), some (.inl (x4)), some (.inr (.inl (n31))), none, some (.inr (.inl (Int64.ofNat 0))), none, some (.inl (Int32.ofInt 2)), none, none, none] [.inl (Int32.ofInt 10), .inl (v38), .inr (.inl (v34)), .inr (.inl (n31))] σ (w, σ') := h
                        replace h := ei_idiv h rfl
                        obtain ⟨hd42, f, g, h⟩ := h
                        clear g
                        replace h : EV F f 178 z178 45 [some (rf 11 (0)), some (rf 13 (16)), some (rf 13 (17)), some (.inl (x4)), some (.inr (.inl (n31))), none, some (.inr (.inl (Int64.ofNat 0))), none, some (.inl (Int32.ofInt 2)), none, none, none] [.inl ((v38) / (Int32.ofInt 10)), .inr (.inl (v34)), .inr (.inl (n31))] σ (w, σ') := h
                        replace h := ei_p h rfl rfl rfl rfl
                        obtain ⟨f, g, h⟩ := h
                        clear g
                        replace h : EV F f 178 z178 46 [some (rf 11 (0)), some (rf 13 (16)), some (rf 13 (17)), some (.inl (x4)), some (.inr (.inl (n31))), none, some (.inr (.inl (Int64.ofNat 0))), none, some (.inl (Int32.ofInt 2)), none, none, none] [.inr (.inl (((v38) / (Int32.ofInt 10)).toInt64)), .inr (.inl (v34)), .inr (.inl (n31))] σ (w, σ') := h
                        replace h := ei_p h rfl rfl rfl rfl
                        obtain ⟨f, g, h⟩ := h
                        clear g
                        replace h : EV F f 178 z178 47 [some (rf 11 (0)), some (rf 13 (16)), some (rf 13 (17)), some (.inl (x4)), some (.inr (.inl (n31))), none, some (.inr (.inl (Int64.ofNat 0))), none, some (.inl (Int32.ofInt 2)), none, none, none] [.inr (.inl ((v34) * (((v38) / (Int32.ofInt 10)).toInt64))), .inr (.inl (n31))] σ (w, σ') := h
                        replace h := ei_p h rfl rfl rfl rfl
                        obtain ⟨f, g, h⟩ := h
                        clear g
                        replace h : EV F f 178 z178 48 [some (rf 11 (0)), some (rf 13 (16)), some (rf 13 (17)), some (.inl (x4)), some (.inr (.inl (n31))), none, some (.inr (.inl (Int64.ofNat 0))), none, some (.inl (Int32.ofInt 2)), none, none, none] [.inr (.inl ((n31) + ((v34) * (((v38) / (Int32.ofInt 10)).toInt64))))] σ (w, σ') := h
                        replace h := ei_p h rfl rfl rfl rfl
                        obtain ⟨f, g, h⟩ := h
                        clear g
                        replace h : EV F f 178 z178 50 [some (rf 11 (0)), some (rf 13 (16)), some (rf 13 (17)), some (.inl (x4)), some (.inr (.inl ((n31) + ((v34) * (((v38) / (Int32.ofInt 10)).toInt64))))), none, some (.inr (.inl (Int64.ofNat 0))), none, some (.inl (Int32.ofInt 2)), none, none, none] [] σ (w, σ') := h
                        obtain ⟨n43, e44⟩ : ∃ s, s = (n31) + ((v34) * (((v38) / (Int32.ofInt 10)).toInt64)) := ⟨_, rfl⟩
                        rw [← e44] at h
                        refine ⟨n43, e44, ?_⟩
                        replace h : EV F f 178 z178 50 [some (rf 11 (0)), some (rf 13 (16)), some (rf 13 (17)), some (.inl (x4)), some (.inr (.inl (n43))), none, some (.inr (.inl (Int64.ofNat 0))), none, some (.inl (Int32.ofInt 2)), none, none, none] [] σ (w, σ') := h
                        replace h := ei_p h rfl rfl rfl rfl
                        obtain ⟨f, g, h⟩ := h
                        clear g
                        replace h : EV F f 178 z178 53 [some (rf 11 (0)), some (rf 13 (16)), some (rf 13 (17)), some (.inl (x4)), some (.inr (.inl (n43))), none, some (.inr (.inl (Int64.ofNat 0))), none, some (.inl ((Int32.ofInt 2) + Int32.ofInt 1)), none, none, none] [] σ (w, σ') := h
                        rw [show (Int32.ofInt 2) + Int32.ofInt 1 = Int32.ofInt 3 from by decide] at h
                        replace h : EV F f 178 z178 53 [some (rf 11 (0)), some (rf 13 (16)), some (rf 13 (17)), some (.inl (x4)), some (.inr (.inl (n43))), none, some (.inr (.inl (Int64.ofNat 0))), none, some (.inl (Int32.ofInt 3)), none, none, none] [] σ (w, σ') := h
                        replace h := ei_p h rfl rfl rfl rfl
                        obtain ⟨f, g, h⟩ := h
                        clear g
                        replace h : EV F f 178 z178 21 [some (rf 11 (0)), some (rf 13 (16)), some (rf 13 (17)), some (.inl (x4)), some (.inr (.inl (n43))), none, some (.inr (.inl (Int64.ofNat 0))), none, some (.inl (Int32.ofInt 3)), none, none, none] [] σ (w, σ') := h
                        replace h := ei_p h rfl rfl rfl rfl
                        obtain ⟨f, g, h⟩ := h
                        clear g
                        replace h : EV F f 178 z178 23 [some (rf 11 (0)), some (rf 13 (16)), some (rf 13 (17)), some (.inl (x4)), some (.inr (.inl (n43))), none, some (.inr (.inl (Int64.ofNat 0))), none, some (.inl (Int32.ofInt 3)), none, none, none] [.inl (Int32.ofInt 3)] σ (w, σ') := h
                        replace h := ei_p h rfl rfl rfl rfl
                        obtain ⟨f, g, h⟩ := h
                        clear g
                        replace h : EV F f 178 z178 24 [some (rf 11 (0)), some (rf 13 (16)), some (rf 13 (17)), some (.inl (x4)), some (.inr (.inl (n43))), none, some (.inr (.inl (Int64.ofNat 0))), none, some (.inl (Int32.ofInt 3)), none, none, none] [.inl (Int32.ofInt 3), .inl (Int32.ofInt 3)] σ (w, σ') := h
                        replace h := ei_c h rfl rfl rfl
                        rcases h with ⟨hp45, f, g, h⟩ | ⟨hp45, f, g, h⟩
                        · skip
                          clear g
                          replace h : EV F f 178 z178 56 [some (rf 11 (0)), some (rf 13 (16)), some (rf 13 (17)), some (.inl (x4)), some (.inr (.inl (n43))), none, some (.inr (.inl (Int64.ofNat 0))), none, some (.inl (Int32.ofInt 3)), none, none, none] [] σ (w, σ') := h
                          replace h := ei_p h rfl rfl rfl rfl
                          obtain ⟨f, g, h⟩ := h
                          clear g
                          replace h : EV F f 178 z178 57 [some (rf 11 (0)), some (rf 13 (16)), some (rf 13 (17)), some (.inl (x4)), some (.inr (.inl (n43))), none, some (.inr (.inl (Int64.ofNat 0))), none, some (.inl (Int32.ofInt 3)), none, none, none] [.inl (Int32.ofInt 0)] σ (w, σ') := h
                          replace h := ei_p h rfl rfl rfl rfl
                          obtain ⟨f, g, h⟩ := h
                          clear g
                          replace h : EV F f 178 z178 59 [some (rf 11 (0)), some (rf 13 (16)), some (rf 13 (17)), some (.inl (x4)), some (.inr (.inl (n43))), none, some (.inr (.inl (Int64.ofNat 0))), none, some (.inl (Int32.ofInt 0)), none, none, none] [] σ (w, σ') := h
                          exact ⟨f + 1, q178_59 (f + 1) f (Nat.lt_succ_self f) (Int64.ofNat 0) (Int32.ofInt 0) _ _ _ σ hs h⟩
                        · exact absurd (ic_ge.mpr (by decide)) hp45
                      · skip
                        have er40 := ro2_run rfl r40
                        rw [er40] at e r40
                        have p41 := x140 hs.1 r40
                        cases e
                        exact Or.inr ⟨b, p41, rfl, rfl⟩
                    · skip
                      have er36 := ro2_run rfl r36
                      rw [er36] at e r36
                      have p37 := x144 hs.1 r36
                      cases e
                      exact Or.inr ⟨b, p37, rfl, rfl⟩
                · skip
                  have er28 := ro2_run rfl r28
                  rw [er28] at e r28
                  have p29 := x140 hs.1 r28
                  cases e
                  exact Or.inr ⟨b, p29, rfl, rfl⟩
              · skip
                have er24 := ro2_run rfl r24
                rw [er24] at e r24
                have p25 := x144 hs.1 r24
                cases e
                exact Or.inr ⟨b, p25, rfl, rfl⟩
          · skip
            have er16 := ro2_run rfl r16
            rw [er16] at e r16
            have p17 := x140 hs.1 r16
            cases e
            exact Or.inr ⟨b, p17, rfl, rfl⟩
        · skip
          have er12 := ro2_run rfl r12
          rw [er12] at e r12
          have p13 := x144 hs.1 r12
          cases e
          exact Or.inr ⟨b, p13, rfl, rfl⟩
    · skip
      have er7 := ro2_run rfl r7
      rw [er7] at e r7
      have p8 := x145 hs.1 r7
      cases e
      exact Or.inr ⟨b, p8, rfl, rfl⟩
  · skip
    have er3 := ro2_run rfl r3
    rw [er3] at e r3
    have p4 := x145 hs.1 r3
    cases e
    exact Or.inr ⟨b, p4, rfl, rfl⟩
