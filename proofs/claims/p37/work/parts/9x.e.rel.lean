/-! the law: hasFailed, areTrades -/
def z182 : mAl := ((yL_hasFailed, cL_hasFailed, 2, (some .boolean), { frames := 7, cells := 1, slots := 6, locals := 112 }, []), rw_L_hasFailed, false)
theorem z182_at : m_alF[182]? = some z182 := rfl
def J182_25 (τ : mS) (w : mX) (σ' : mS) : Prop := w = .inl (some (.inl (Int32.ofInt 0))) ∧ σ' = τ
set_option maxRecDepth 100000 in
theorem j182_25 {F f : Nat} {σ' τ : mS} {y0 : Option mV} {y1 : Option mV} {w : mX} (hsτ : HL τ) (h : EV F f 182 z182 25 [y0, y1] [] τ (w, σ')) : J182_25 τ w σ' := by
  unfold J182_25
  replace h := ei_p h rfl rfl rfl rfl
  obtain ⟨f, g, h⟩ := h
  clear g
  replace h : EV F f 182 z182 26 [y0, y1] [.inl (Int32.ofInt 0)] τ (w, σ') := h
  have e := ei_iret h rfl
  cases e
  exact ⟨rfl, rfl⟩
def P182 (σ : mS) (x2 : Int32) (w : mX) (σ' : mS) : Prop := (((x2).toInt < (0 : Int) ∧ J182_25 σ w σ') ∨ (¬ ((x2).toInt < (0 : Int)) ∧ (((5 : Int) ≤ (x2).toInt ∧ J182_25 σ w σ') ∨ (¬ ((5 : Int) ≤ (x2).toInt) ∧ ((∃ v3, P149 σ (x2) (.inl (some (.inl v3))) σ ∧ ((((v3) - (v3) / (Int32.ofInt 10) * (Int32.ofInt 10)).toInt ≤ (1 : Int) ∧ J182_25 σ w σ') ∨ (¬ (((v3) - (v3) / (Int32.ofInt 10) * (Int32.ofInt 10)).toInt ≤ (1 : Int)) ∧ w = .inl (some (.inl (Int32.ofInt 1))) ∧ σ' = σ))) ∨ (∃ b, P149 σ (x2) (.inr b) σ ∧ w = .inr b ∧ σ' = σ))))))
set_option maxRecDepth 100000 in
theorem x182 {σ σ' : mS} {x2 : Int32} {w : mX} (hs : HL σ) (h : ev_run sm_all 182 [rf 11 (0), .inl (x2)] σ (w) σ') : P182 σ x2 w σ' := by
  unfold P182
  obtain ⟨F, f, h⟩ := ei_go h z182_at
  replace h : EV F f 182 z182 0 [some (rf 11 (0)), some (.inl (x2))] [] σ (w, σ') := h
  replace h := ei_p h rfl rfl rfl rfl
  obtain ⟨f, g, h⟩ := h
  clear g
  replace h : EV F f 182 z182 1 [some (rf 11 (0)), some (.inl (x2))] [.inl (x2)] σ (w, σ') := h
  replace h := ei_c h rfl rfl rfl
  rcases h with ⟨hp1, f, g, h⟩ | ⟨hp1, f, g, h⟩
  · skip
    replace hp1 : (x2).toInt < (0 : Int) := ic_lt.mp hp1
    refine Or.inl ⟨hp1, ?_⟩
    clear g
    replace h : EV F f 182 z182 25 [some (rf 11 (0)), some (.inl (x2))] [] σ (w, σ') := h
    exact j182_25 hs h
  · skip
    replace hp1 : ¬ ((x2).toInt < (0 : Int)) := (not_congr ic_lt).mp hp1
    refine Or.inr ⟨hp1, ?_⟩
    clear g
    replace h : EV F f 182 z182 4 [some (rf 11 (0)), some (.inl (x2))] [] σ (w, σ') := h
    replace h := ei_p h rfl rfl rfl rfl
    obtain ⟨f, g, h⟩ := h
    clear g
    replace h : EV F f 182 z182 5 [some (rf 11 (0)), some (.inl (x2))] [.inl (x2)] σ (w, σ') := h
    replace h := ei_p h rfl rfl rfl rfl
    obtain ⟨f, g, h⟩ := h
    clear g
    replace h : EV F f 182 z182 6 [some (rf 11 (0)), some (.inl (x2))] [.inl (Int32.ofInt 5), .inl (x2)] σ (w, σ') := h
    replace h := ei_c h rfl rfl rfl
    rcases h with ⟨hp2, f, g, h⟩ | ⟨hp2, f, g, h⟩
    · skip
      replace hp2 : (5 : Int) ≤ (x2).toInt := ic_ge.mp hp2
      refine Or.inl ⟨hp2, ?_⟩
      clear g
      replace h : EV F f 182 z182 25 [some (rf 11 (0)), some (.inl (x2))] [] σ (w, σ') := h
      exact j182_25 hs h
    · skip
      replace hp2 : ¬ ((5 : Int) ≤ (x2).toInt) := (not_congr ic_ge).mp hp2
      refine Or.inr ⟨hp2, ?_⟩
      clear g
      replace h : EV F f 182 z182 9 [some (rf 11 (0)), some (.inl (x2))] [] σ (w, σ') := h
      replace h := ei_p h rfl rfl rfl rfl
      obtain ⟨f, g, h⟩ := h
      clear g
      replace h : EV F f 182 z182 10 [some (rf 11 (0)), some (.inl (x2))] [rf 11 (0)] σ (w, σ') := h
      replace h := ei_p h rfl rfl rfl rfl
      obtain ⟨f, g, h⟩ := h
      clear g
      replace h : EV F f 182 z182 11 [some (rf 11 (0)), some (.inl (x2))] [.inl (x2), rf 11 (0)] σ (w, σ') := h
      replace h := bx_I (ei_v (as := [.inl (x2)]) h rfl rfl rfl) z149_at (Or.inl rfl)
      rcases h with ⟨v3, σ4, r5, f, g, h⟩ | ⟨b, σ4, r5, e⟩
      · skip
        have er5 := ro2_run rfl r5
        rw [er5] at h r5
        clear g
        have p6 := x149 hs.1 r5
        refine Or.inl ⟨v3, p6, ?_⟩
        replace h : EV F f 182 z182 14 [some (rf 11 (0)), some (.inl (x2))] [.inl (v3)] σ (w, σ') := h
        replace h := ei_p h rfl rfl rfl rfl
        obtain ⟨f, g, h⟩ := h
        clear g
        replace h : EV F f 182 z182 16 [some (rf 11 (0)), some (.inl (x2))] [.inl (Int32.ofInt 10), .inl (v3)] σ (w, σ') := h
        replace h := ei_irem h rfl
        obtain ⟨hd7, f, g, h⟩ := h
        clear g
        replace h : EV F f 182 z182 17 [some (rf 11 (0)), some (.inl (x2))] [.inl ((v3) - (v3) / (Int32.ofInt 10) * (Int32.ofInt 10))] σ (w, σ') := h
        replace h := ei_p h rfl rfl rfl rfl
        obtain ⟨f, g, h⟩ := h
        clear g
        replace h : EV F f 182 z182 18 [some (rf 11 (0)), some (.inl (x2))] [.inl (Int32.ofInt 1), .inl ((v3) - (v3) / (Int32.ofInt 10) * (Int32.ofInt 10))] σ (w, σ') := h
        replace h := ei_c h rfl rfl rfl
        rcases h with ⟨hp8, f, g, h⟩ | ⟨hp8, f, g, h⟩
        · skip
          replace hp8 : ((v3) - (v3) / (Int32.ofInt 10) * (Int32.ofInt 10)).toInt ≤ (1 : Int) := ic_le.mp hp8
          refine Or.inl ⟨hp8, ?_⟩
          clear g
          replace h : EV F f 182 z182 25 [some (rf 11 (0)), some (.inl (x2))] [] σ (w, σ') := h
          exact j182_25 hs h
        · skip
          replace hp8 : ¬ (((v3) - (v3) / (Int32.ofInt 10) * (Int32.ofInt 10)).toInt ≤ (1 : Int)) := (not_congr ic_le).mp hp8
          refine Or.inr ⟨hp8, ?_⟩
          clear g
          replace h : EV F f 182 z182 21 [some (rf 11 (0)), some (.inl (x2))] [] σ (w, σ') := h
          replace h := ei_p h rfl rfl rfl rfl
          obtain ⟨f, g, h⟩ := h
          clear g
          replace h : EV F f 182 z182 22 [some (rf 11 (0)), some (.inl (x2))] [.inl (Int32.ofInt 1)] σ (w, σ') := h
          replace h := ei_p h rfl rfl rfl rfl
          obtain ⟨f, g, h⟩ := h
          clear g
          replace h : EV F f 182 z182 26 [some (rf 11 (0)), some (.inl (x2))] [.inl (Int32.ofInt 1)] σ (w, σ') := h
          have e := ei_iret h rfl
          cases e
          exact ⟨rfl, rfl⟩
      · skip
        have er5 := ro2_run rfl r5
        rw [er5] at e r5
        have p6 := x149 hs.1 r5
        cases e
        exact Or.inr ⟨b, p6, rfl, rfl⟩
def z181 : mAl := ((yL_areTrades, cL_areTrades, 5, (some .boolean), { frames := 8, cells := 2100, slots := 18900, locals := 133 }, []), rw_L_areTrades, false)
theorem z181_at : m_alF[181]? = some z181 := rfl
def J181_122 (u2 : Int32) (τ : mS) (w : mX) (σ' : mS) : Prop := ∃ v1, P141 τ v1 τ ∧ ∃ σ6, σ6 = m_set τ 13 (17) ((Int32.ofInt 3).toNatClampNeg) (.inl (v1)) ∧ (0 ≤ (3 : Int) ∧ (3 : Int) < (τ.2.1 13 (17) : Int)) ∧ w = .inl (some (.inl (u2))) ∧ σ' = σ6
set_option maxRecDepth 100000 in
theorem j181_122 {F f : Nat} {σ' τ : mS} {u2 : Int32} {y3 : Option mV} {y4 : Option mV} {w : mX} (hsτ : HL τ) (h : EV F f 181 z181 122 [some (rf 11 (0)), some (rf 13 (17)), some (.inl (u2)), y3, y4] [] τ (w, σ')) : J181_122 u2 τ w σ' := by
  unfold J181_122
  replace h := ei_p h rfl rfl rfl rfl
  obtain ⟨f, g, h⟩ := h
  clear g
  replace h : EV F f 181 z181 123 [some (rf 11 (0)), some (rf 13 (17)), some (.inl (u2)), y3, y4] [rf 13 (17)] τ (w, σ') := h
  replace h := ei_p h rfl rfl rfl rfl
  obtain ⟨f, g, h⟩ := h
  clear g
  replace h : EV F f 181 z181 124 [some (rf 11 (0)), some (rf 13 (17)), some (.inl (u2)), y3, y4] [.inl (Int32.ofInt 3), rf 13 (17)] τ (w, σ') := h
  replace h := ei_p h rfl rfl rfl rfl
  obtain ⟨f, g, h⟩ := h
  clear g
  replace h : EV F f 181 z181 125 [some (rf 11 (0)), some (rf 13 (17)), some (.inl (u2)), y3, y4] [rf 11 (0), .inl (Int32.ofInt 3), rf 13 (17)] τ (w, σ') := h
  replace h := bk_I (ei_v (as := []) h rfl rfl rfl) rfl z141_at (Or.inl rfl)
  obtain ⟨v1, σ2, r3, f, g, h⟩ := h
  clear g
  have er3 := ro2_run rfl r3
  rw [er3] at h r3
  have p4 := x141 hsτ.1 r3
  refine ⟨v1, p4, ?_⟩
  replace h : EV F f 181 z181 128 [some (rf 11 (0)), some (rf 13 (17)), some (.inl (u2)), y3, y4] [.inl (v1), .inl (Int32.ofInt 3), rf 13 (17)] τ (w, σ') := h
  replace h := ei_iast h rfl
  obtain ⟨ht5, f, g, h⟩ := h
  clear g
  obtain ⟨σ6, e7⟩ : ∃ s, s = m_set τ 13 (17) ((Int32.ofInt 3).toNatClampNeg) (.inl (v1)) := ⟨_, rfl⟩
  rw [← e7] at h
  have hsσ6 : HL σ6 := by rw [e7]; exact HL_set hsτ rfl
  refine ⟨σ6, e7, ?_⟩
  replace h : EV F f 181 z181 129 [some (rf 11 (0)), some (rf 13 (17)), some (.inl (u2)), y3, y4] [] σ6 (w, σ') := h
  refine ⟨vp_2 ht5, ?_⟩
  replace h := ei_p h rfl rfl rfl rfl
  obtain ⟨f, g, h⟩ := h
  clear g
  replace h : EV F f 181 z181 130 [some (rf 11 (0)), some (rf 13 (17)), some (.inl (u2)), y3, y4] [.inl (u2)] σ6 (w, σ') := h
  have e := ei_iret h rfl
  cases e
  exact ⟨rfl, rfl⟩
abbrev B181_20 (ih : Int32 → Int32 → mS → mX → mS → Prop) (u2 : Int32) (u3 : Int32) (τ : mS) (w : mX) (σ' : mS) : Prop := ∃ v1, P141 τ v1 τ ∧ (((v1).toInt ≤ (u3).toInt ∧ J181_122 (u2) τ w σ') ∨ (¬ ((v1).toInt ≤ (u3).toInt) ∧ (((u2).toInt = (0 : Int) ∧ J181_122 (u2) τ w σ') ∨ (¬ ((u2).toInt = (0 : Int)) ∧ ((∃ v7, P142 τ (u3) (Int32.ofInt 2) (.inl (some (.inl v7))) τ ∧ ((∃ v11, P142 τ (u3) (Int32.ofInt 0) (.inl (some (.inl v11))) τ ∧ (((v11).toInt ≤ (0 : Int) ∧ ih (Int32.ofInt 0) ((u3) + Int32.ofInt 1) τ w σ') ∨ (¬ ((v11).toInt ≤ (0 : Int)) ∧ ((∃ v16, P142 τ (u3) (Int32.ofInt 0) (.inl (some (.inl v16))) τ ∧ (((10000 : Int) ≤ (v16).toInt ∧ ih (Int32.ofInt 0) ((u3) + Int32.ofInt 1) τ w σ') ∨ (¬ ((10000 : Int) ≤ (v16).toInt) ∧ ((∃ v21, P142 τ (u3) (Int32.ofInt 1) (.inl (some (.inl v21))) τ ∧ (((v21).toInt ≤ (0 : Int) ∧ ih (Int32.ofInt 0) ((u3) + Int32.ofInt 1) τ w σ') ∨ (¬ ((v21).toInt ≤ (0 : Int)) ∧ (((5 : Int) ≤ ((v7) / (Int32.ofInt 10)).toInt ∧ ih (Int32.ofInt 0) ((u3) + Int32.ofInt 1) τ w σ') ∨ (¬ ((5 : Int) ≤ ((v7) / (Int32.ofInt 10)).toInt) ∧ (((5 : Int) ≤ ((v7) - (v7) / (Int32.ofInt 10) * (Int32.ofInt 10)).toInt ∧ ih (Int32.ofInt 0) ((u3) + Int32.ofInt 1) τ w σ') ∨ (¬ ((5 : Int) ≤ ((v7) - (v7) / (Int32.ofInt 10) * (Int32.ofInt 10)).toInt) ∧ ((((v7) / (Int32.ofInt 10)).toInt = ((v7) - (v7) / (Int32.ofInt 10) * (Int32.ofInt 10)).toInt ∧ ih (Int32.ofInt 0) ((u3) + Int32.ofInt 1) τ w σ') ∨ (¬ (((v7) / (Int32.ofInt 10)).toInt = ((v7) - (v7) / (Int32.ofInt 10) * (Int32.ofInt 10)).toInt) ∧ ((∃ v33, P142 τ (u3) (Int32.ofInt 3) (.inl (some (.inl v33))) τ ∧ (((v33).toInt ≠ (0 : Int) ∧ ih (Int32.ofInt 0) ((u3) + Int32.ofInt 1) τ w σ') ∨ (¬ ((v33).toInt ≠ (0 : Int)) ∧ ih (Int32.ofInt 1) ((u3) + Int32.ofInt 1) τ w σ'))) ∨ (∃ b, P142 τ (u3) (Int32.ofInt 3) (.inr b) τ ∧ w = .inr b ∧ σ' = τ))))))))))) ∨ (∃ b, P142 τ (u3) (Int32.ofInt 1) (.inr b) τ ∧ w = .inr b ∧ σ' = τ))))) ∨ (∃ b, P142 τ (u3) (Int32.ofInt 0) (.inr b) τ ∧ w = .inr b ∧ σ' = τ))))) ∨ (∃ b, P142 τ (u3) (Int32.ofInt 0) (.inr b) τ ∧ w = .inr b ∧ σ' = τ))) ∨ (∃ b, P142 τ (u3) (Int32.ofInt 2) (.inr b) τ ∧ w = .inr b ∧ σ' = τ))))))
def Q181_20 : Nat → Int32 → Int32 → mS → mX → mS → Prop
  | 0 => fun _ _ _ _ _ => False
  | n + 1 => B181_20  (Q181_20  n)
set_option maxRecDepth 100000 in
theorem q181_20 {F : Nat} {σ' : mS} {w : mX} : ∀ N f, f < N → ∀ (u2 : Int32) (u3 : Int32) (y4 : Option mV) (τ : mS), HL τ → EV F f 181 z181 20 [some (rf 11 (0)), some (rf 13 (17)), some (.inl (u2)), some (.inl (u3)), y4] [] τ (w, σ') → Q181_20  N u2 u3 τ w σ' := by
  intro N
  induction N with
  | zero => intro f hf; omega
  | succ N IH =>
    intro f hf0 u2 u3 y4 τ hsτ h
    have hf : f < N + 1 := hf0
    clear hf0
    show B181_20  (Q181_20  N) u2 u3 τ w σ'
    replace h := ei_p h rfl rfl rfl rfl
    obtain ⟨f, g, h⟩ := h
    replace hf := Nat.lt_of_lt_of_le g (Nat.le_of_lt_succ hf)
    clear g
    replace h : EV F f 181 z181 21 [some (rf 11 (0)), some (rf 13 (17)), some (.inl (u2)), some (.inl (u3)), y4] [.inl (u3)] τ (w, σ') := h
    replace h := ei_p h rfl rfl rfl rfl
    obtain ⟨f, g, h⟩ := h
    replace hf := Nat.lt_trans g hf
    clear g
    replace h : EV F f 181 z181 22 [some (rf 11 (0)), some (rf 13 (17)), some (.inl (u2)), some (.inl (u3)), y4] [rf 11 (0), .inl (u3)] τ (w, σ') := h
    replace h := bk_I (ei_v (as := []) h rfl rfl rfl) rfl z141_at (Or.inl rfl)
    obtain ⟨v1, σ2, r3, f, g, h⟩ := h
    replace hf := Nat.lt_trans g hf
    clear g
    have er3 := ro2_run rfl r3
    rw [er3] at h r3
    have p4 := x141 hsτ.1 r3
    refine ⟨v1, p4, ?_⟩
    replace h : EV F f 181 z181 25 [some (rf 11 (0)), some (rf 13 (17)), some (.inl (u2)), some (.inl (u3)), y4] [.inl (v1), .inl (u3)] τ (w, σ') := h
    replace h := ei_c h rfl rfl rfl
    rcases h with ⟨hp5, f, g, h⟩ | ⟨hp5, f, g, h⟩
    · skip
      replace hp5 : (v1).toInt ≤ (u3).toInt := ic_ge.mp hp5
      refine Or.inl ⟨hp5, ?_⟩
      replace hf := Nat.lt_trans g hf
      clear g
      replace h : EV F f 181 z181 122 [some (rf 11 (0)), some (rf 13 (17)), some (.inl (u2)), some (.inl (u3)), y4] [] τ (w, σ') := h
      exact j181_122 hsτ h
    · skip
      replace hp5 : ¬ ((v1).toInt ≤ (u3).toInt) := (not_congr ic_ge).mp hp5
      refine Or.inr ⟨hp5, ?_⟩
      replace hf := Nat.lt_trans g hf
      clear g
      replace h : EV F f 181 z181 28 [some (rf 11 (0)), some (rf 13 (17)), some (.inl (u2)), some (.inl (u3)), y4] [] τ (w, σ') := h
      replace h := ei_p h rfl rfl rfl rfl
      obtain ⟨f, g, h⟩ := h
      replace hf := Nat.lt_trans g hf
      clear g
      replace h : EV F f 181 z181 29 [some (rf 11 (0)), some (rf 13 (17)), some (.inl (u2)), some (.inl (u3)), y4] [.inl (u2)] τ (w, σ') := h
      replace h := ei_c h rfl rfl rfl
      rcases h with ⟨hp6, f, g, h⟩ | ⟨hp6, f, g, h⟩
      · skip
        replace hp6 : (u2).toInt = (0 : Int) := ic_eq.mp hp6
        refine Or.inl ⟨hp6, ?_⟩
        replace hf := Nat.lt_trans g hf
        clear g
        replace h : EV F f 181 z181 122 [some (rf 11 (0)), some (rf 13 (17)), some (.inl (u2)), some (.inl (u3)), y4] [] τ (w, σ') := h
        exact j181_122 hsτ h
      · skip
        replace hp6 : ¬ ((u2).toInt = (0 : Int)) := (not_congr ic_eq).mp hp6
        refine Or.inr ⟨hp6, ?_⟩
        replace hf := Nat.lt_trans g hf
        clear g
        replace h : EV F f 181 z181 32 [some (rf 11 (0)), some (rf 13 (17)), some (.inl (u2)), some (.inl (u3)), y4] [] τ (w, σ') := h
        replace h := ei_p h rfl rfl rfl rfl
        obtain ⟨f, g, h⟩ := h
        replace hf := Nat.lt_trans g hf
        clear g
        replace h : EV F f 181 z181 33 [some (rf 11 (0)), some (rf 13 (17)), some (.inl (u2)), some (.inl (u3)), y4] [rf 11 (0)] τ (w, σ') := h
        replace h := ei_p h rfl rfl rfl rfl
        obtain ⟨f, g, h⟩ := h
        replace hf := Nat.lt_trans g hf
        clear g
        replace h : EV F f 181 z181 34 [some (rf 11 (0)), some (rf 13 (17)), some (.inl (u2)), some (.inl (u3)), y4] [.inl (u3), rf 11 (0)] τ (w, σ') := h
        replace h := ei_p h rfl rfl rfl rfl
        obtain ⟨f, g, h⟩ := h
        replace hf := Nat.lt_trans g hf
        clear g
        replace h : EV F f 181 z181 35 [some (rf 11 (0)), some (rf 13 (17)), some (.inl (u2)), some (.inl (u3)), y4] [.inl (Int32.ofInt 2), .inl (u3), rf 11 (0)] τ (w, σ') := h
        replace h := bx_I (ei_v (as := [.inl (Int32.ofInt 2), .inl (u3)]) h rfl rfl rfl) z142_at (Or.inl rfl)
        rcases h with ⟨v7, σ8, r9, f, g, h⟩ | ⟨b, σ8, r9, e⟩
        · skip
          have er9 := ro2_run rfl r9
          rw [er9] at h r9
          replace hf := Nat.lt_trans g hf
          clear g
          have p10 := x142 hsτ.1 r9
          refine Or.inl ⟨v7, p10, ?_⟩
          replace h : EV F f 181 z181 38 [some (rf 11 (0)), some (rf 13 (17)), some (.inl (u2)), some (.inl (u3)), y4] [.inl (v7)] τ (w, σ') := h
          replace h := ei_p h rfl rfl rfl rfl
          obtain ⟨f, g, h⟩ := h
          replace hf := Nat.lt_trans g hf
          clear g
          replace h : EV F f 181 z181 40 [some (rf 11 (0)), some (rf 13 (17)), some (.inl (u2)), some (.inl (u3)), some (.inl (v7))] [] τ (w, σ') := h
          replace h := ei_p h rfl rfl rfl rfl
          obtain ⟨f, g, h⟩ := h
          replace hf := Nat.lt_trans g hf
          clear g
          replace h : EV F f 181 z181 41 [some (rf 11 (0)), some (rf 13 (17)), some (.inl (u2)), some (.inl (u3)), some (.inl (v7))] [rf 11 (0)] τ (w, σ') := h
          replace h := ei_p h rfl rfl rfl rfl
          obtain ⟨f, g, h⟩ := h
          replace hf := Nat.lt_trans g hf
          clear g
          replace h : EV F f 181 z181 42 [some (rf 11 (0)), some (rf 13 (17)), some (.inl (u2)), some (.inl (u3)), some (.inl (v7))] [.inl (u3), rf 11 (0)] τ (w, σ') := h
          replace h := ei_p h rfl rfl rfl rfl
          obtain ⟨f, g, h⟩ := h
          replace hf := Nat.lt_trans g hf
          clear g
          replace h : EV F f 181 z181 43 [some (rf 11 (0)), some (rf 13 (17)), some (.inl (u2)), some (.inl (u3)), some (.inl (v7))] [.inl (Int32.ofInt 0), .inl (u3), rf 11 (0)] τ (w, σ') := h
          replace h := bx_I (ei_v (as := [.inl (Int32.ofInt 0), .inl (u3)]) h rfl rfl rfl) z142_at (Or.inl rfl)
          rcases h with ⟨v11, σ12, r13, f, g, h⟩ | ⟨b, σ12, r13, e⟩
          · skip
            have er13 := ro2_run rfl r13
            rw [er13] at h r13
            replace hf := Nat.lt_trans g hf
            clear g
            have p14 := x142 hsτ.1 r13
            refine Or.inl ⟨v11, p14, ?_⟩
            replace h : EV F f 181 z181 46 [some (rf 11 (0)), some (rf 13 (17)), some (.inl (u2)), some (.inl (u3)), some (.inl (v7))] [.inl (v11)] τ (w, σ') := h
            replace h := ei_c h rfl rfl rfl
            rcases h with ⟨hp15, f, g, h⟩ | ⟨hp15, f, g, h⟩
            · skip
              replace hp15 : (v11).toInt ≤ (0 : Int) := ic_le.mp hp15
              refine Or.inl ⟨hp15, ?_⟩
              replace hf := Nat.lt_trans g hf
              clear g
              replace h : EV F f 181 z181 114 [some (rf 11 (0)), some (rf 13 (17)), some (.inl (u2)), some (.inl (u3)), some (.inl (v7))] [] τ (w, σ') := h
              replace h := ei_p h rfl rfl rfl rfl
              obtain ⟨f, g, h⟩ := h
              replace hf := Nat.lt_trans g hf
              clear g
              replace h : EV F f 181 z181 115 [some (rf 11 (0)), some (rf 13 (17)), some (.inl (u2)), some (.inl (u3)), some (.inl (v7))] [.inl (Int32.ofInt 0)] τ (w, σ') := h
              replace h := ei_p h rfl rfl rfl rfl
              obtain ⟨f, g, h⟩ := h
              replace hf := Nat.lt_trans g hf
              clear g
              replace h : EV F f 181 z181 116 [some (rf 11 (0)), some (rf 13 (17)), some (.inl (Int32.ofInt 0)), some (.inl (u3)), some (.inl (v7))] [] τ (w, σ') := h
              replace h := ei_p h rfl rfl rfl rfl
              obtain ⟨f, g, h⟩ := h
              replace hf := Nat.lt_trans g hf
              clear g
              replace h : EV F f 181 z181 119 [some (rf 11 (0)), some (rf 13 (17)), some (.inl (Int32.ofInt 0)), some (.inl ((u3) + Int32.ofInt 1)), some (.inl (v7))] [] τ (w, σ') := h
              replace h := ei_p h rfl rfl rfl rfl
              obtain ⟨f, g, h⟩ := h
              replace hf := Nat.lt_trans g hf
              clear g
              replace h : EV F f 181 z181 20 [some (rf 11 (0)), some (rf 13 (17)), some (.inl (Int32.ofInt 0)), some (.inl ((u3) + Int32.ofInt 1)), some (.inl (v7))] [] τ (w, σ') := h
              exact IH f hf (Int32.ofInt 0) ((u3) + Int32.ofInt 1) (some (.inl (v7))) τ hsτ h
            · skip
              replace hp15 : ¬ ((v11).toInt ≤ (0 : Int)) := (not_congr ic_le).mp hp15
              refine Or.inr ⟨hp15, ?_⟩
              replace hf := Nat.lt_trans g hf
              clear g
              replace h : EV F f 181 z181 49 [some (rf 11 (0)), some (rf 13 (17)), some (.inl (u2)), some (.inl (u3)), some (.inl (v7))] [] τ (w, σ') := h
              replace h := ei_p h rfl rfl rfl rfl
              obtain ⟨f, g, h⟩ := h
              replace hf := Nat.lt_trans g hf
              clear g
              replace h : EV F f 181 z181 50 [some (rf 11 (0)), some (rf 13 (17)), some (.inl (u2)), some (.inl (u3)), some (.inl (v7))] [rf 11 (0)] τ (w, σ') := h
              replace h := ei_p h rfl rfl rfl rfl
              obtain ⟨f, g, h⟩ := h
              replace hf := Nat.lt_trans g hf
              clear g
              replace h : EV F f 181 z181 51 [some (rf 11 (0)), some (rf 13 (17)), some (.inl (u2)), some (.inl (u3)), some (.inl (v7))] [.inl (u3), rf 11 (0)] τ (w, σ') := h
              replace h := ei_p h rfl rfl rfl rfl
              obtain ⟨f, g, h⟩ := h
              replace hf := Nat.lt_trans g hf
              clear g
              replace h : EV F f 181 z181 52 [some (rf 11 (0)), some (rf 13 (17)), some (.inl (u2)), some (.inl (u3)), some (.inl (v7))] [.inl (Int32.ofInt 0), .inl (u3), rf 11 (0)] τ (w, σ') := h
              replace h := bx_I (ei_v (as := [.inl (Int32.ofInt 0), .inl (u3)]) h rfl rfl rfl) z142_at (Or.inl rfl)
              rcases h with ⟨v16, σ17, r18, f, g, h⟩ | ⟨b, σ17, r18, e⟩
              · skip
                have er18 := ro2_run rfl r18
                rw [er18] at h r18
                replace hf := Nat.lt_trans g hf
                clear g
                have p19 := x142 hsτ.1 r18
                refine Or.inl ⟨v16, p19, ?_⟩
                replace h : EV F f 181 z181 55 [some (rf 11 (0)), some (rf 13 (17)), some (.inl (u2)), some (.inl (u3)), some (.inl (v7))] [.inl (v16)] τ (w, σ') := h
                replace h := ei_p h rfl rfl rfl rfl
                obtain ⟨f, g, h⟩ := h
                replace hf := Nat.lt_trans g hf
                clear g
                replace h : EV F f 181 z181 58 [some (rf 11 (0)), some (rf 13 (17)), some (.inl (u2)), some (.inl (u3)), some (.inl (v7))] [.inl (Int32.ofInt 10000), .inl (v16)] τ (w, σ') := h
                replace h := ei_c h rfl rfl rfl
                rcases h with ⟨hp20, f, g, h⟩ | ⟨hp20, f, g, h⟩
                · skip
                  replace hp20 : (10000 : Int) ≤ (v16).toInt := ic_ge.mp hp20
                  refine Or.inl ⟨hp20, ?_⟩
                  replace hf := Nat.lt_trans g hf
                  clear g
                  replace h : EV F f 181 z181 114 [some (rf 11 (0)), some (rf 13 (17)), some (.inl (u2)), some (.inl (u3)), some (.inl (v7))] [] τ (w, σ') := h
                  replace h := ei_p h rfl rfl rfl rfl
                  obtain ⟨f, g, h⟩ := h
                  replace hf := Nat.lt_trans g hf
                  clear g
                  replace h : EV F f 181 z181 115 [some (rf 11 (0)), some (rf 13 (17)), some (.inl (u2)), some (.inl (u3)), some (.inl (v7))] [.inl (Int32.ofInt 0)] τ (w, σ') := h
                  replace h := ei_p h rfl rfl rfl rfl
                  obtain ⟨f, g, h⟩ := h
                  replace hf := Nat.lt_trans g hf
                  clear g
                  replace h : EV F f 181 z181 116 [some (rf 11 (0)), some (rf 13 (17)), some (.inl (Int32.ofInt 0)), some (.inl (u3)), some (.inl (v7))] [] τ (w, σ') := h
                  replace h := ei_p h rfl rfl rfl rfl
                  obtain ⟨f, g, h⟩ := h
                  replace hf := Nat.lt_trans g hf
                  clear g
                  replace h : EV F f 181 z181 119 [some (rf 11 (0)), some (rf 13 (17)), some (.inl (Int32.ofInt 0)), some (.inl ((u3) + Int32.ofInt 1)), some (.inl (v7))] [] τ (w, σ') := h
                  replace h := ei_p h rfl rfl rfl rfl
                  obtain ⟨f, g, h⟩ := h
                  replace hf := Nat.lt_trans g hf
                  clear g
                  replace h : EV F f 181 z181 20 [some (rf 11 (0)), some (rf 13 (17)), some (.inl (Int32.ofInt 0)), some (.inl ((u3) + Int32.ofInt 1)), some (.inl (v7))] [] τ (w, σ') := h
                  exact IH f hf (Int32.ofInt 0) ((u3) + Int32.ofInt 1) (some (.inl (v7))) τ hsτ h
                · skip
                  replace hp20 : ¬ ((10000 : Int) ≤ (v16).toInt) := (not_congr ic_ge).mp hp20
                  refine Or.inr ⟨hp20, ?_⟩
                  replace hf := Nat.lt_trans g hf
                  clear g
                  replace h : EV F f 181 z181 61 [some (rf 11 (0)), some (rf 13 (17)), some (.inl (u2)), some (.inl (u3)), some (.inl (v7))] [] τ (w, σ') := h
                  replace h := ei_p h rfl rfl rfl rfl
                  obtain ⟨f, g, h⟩ := h
                  replace hf := Nat.lt_trans g hf
                  clear g
                  replace h : EV F f 181 z181 62 [some (rf 11 (0)), some (rf 13 (17)), some (.inl (u2)), some (.inl (u3)), some (.inl (v7))] [rf 11 (0)] τ (w, σ') := h
                  replace h := ei_p h rfl rfl rfl rfl
                  obtain ⟨f, g, h⟩ := h
                  replace hf := Nat.lt_trans g hf
                  clear g
                  replace h : EV F f 181 z181 63 [some (rf 11 (0)), some (rf 13 (17)), some (.inl (u2)), some (.inl (u3)), some (.inl (v7))] [.inl (u3), rf 11 (0)] τ (w, σ') := h
                  replace h := ei_p h rfl rfl rfl rfl
                  obtain ⟨f, g, h⟩ := h
                  replace hf := Nat.lt_trans g hf
                  clear g
                  replace h : EV F f 181 z181 64 [some (rf 11 (0)), some (rf 13 (17)), some (.inl (u2)), some (.inl (u3)), some (.inl (v7))] [.inl (Int32.ofInt 1), .inl (u3), rf 11 (0)] τ (w, σ') := h
                  replace h := bx_I (ei_v (as := [.inl (Int32.ofInt 1), .inl (u3)]) h rfl rfl rfl) z142_at (Or.inl rfl)
                  rcases h with ⟨v21, σ22, r23, f, g, h⟩ | ⟨b, σ22, r23, e⟩
                  · skip
                    have er23 := ro2_run rfl r23
                    rw [er23] at h r23
                    replace hf := Nat.lt_trans g hf
                    clear g
                    have p24 := x142 hsτ.1 r23
                    refine Or.inl ⟨v21, p24, ?_⟩
                    replace h : EV F f 181 z181 67 [some (rf 11 (0)), some (rf 13 (17)), some (.inl (u2)), some (.inl (u3)), some (.inl (v7))] [.inl (v21)] τ (w, σ') := h
                    replace h := ei_c h rfl rfl rfl
                    rcases h with ⟨hp25, f, g, h⟩ | ⟨hp25, f, g, h⟩
                    · skip
                      replace hp25 : (v21).toInt ≤ (0 : Int) := ic_le.mp hp25
                      refine Or.inl ⟨hp25, ?_⟩
                      replace hf := Nat.lt_trans g hf
                      clear g
                      replace h : EV F f 181 z181 114 [some (rf 11 (0)), some (rf 13 (17)), some (.inl (u2)), some (.inl (u3)), some (.inl (v7))] [] τ (w, σ') := h
                      replace h := ei_p h rfl rfl rfl rfl
                      obtain ⟨f, g, h⟩ := h
                      replace hf := Nat.lt_trans g hf
                      clear g
                      replace h : EV F f 181 z181 115 [some (rf 11 (0)), some (rf 13 (17)), some (.inl (u2)), some (.inl (u3)), some (.inl (v7))] [.inl (Int32.ofInt 0)] τ (w, σ') := h
                      replace h := ei_p h rfl rfl rfl rfl
                      obtain ⟨f, g, h⟩ := h
                      replace hf := Nat.lt_trans g hf
                      clear g
                      replace h : EV F f 181 z181 116 [some (rf 11 (0)), some (rf 13 (17)), some (.inl (Int32.ofInt 0)), some (.inl (u3)), some (.inl (v7))] [] τ (w, σ') := h
                      replace h := ei_p h rfl rfl rfl rfl
                      obtain ⟨f, g, h⟩ := h
                      replace hf := Nat.lt_trans g hf
                      clear g
                      replace h : EV F f 181 z181 119 [some (rf 11 (0)), some (rf 13 (17)), some (.inl (Int32.ofInt 0)), some (.inl ((u3) + Int32.ofInt 1)), some (.inl (v7))] [] τ (w, σ') := h
                      replace h := ei_p h rfl rfl rfl rfl
                      obtain ⟨f, g, h⟩ := h
                      replace hf := Nat.lt_trans g hf
                      clear g
                      replace h : EV F f 181 z181 20 [some (rf 11 (0)), some (rf 13 (17)), some (.inl (Int32.ofInt 0)), some (.inl ((u3) + Int32.ofInt 1)), some (.inl (v7))] [] τ (w, σ') := h
                      exact IH f hf (Int32.ofInt 0) ((u3) + Int32.ofInt 1) (some (.inl (v7))) τ hsτ h
                    · skip
                      replace hp25 : ¬ ((v21).toInt ≤ (0 : Int)) := (not_congr ic_le).mp hp25
                      refine Or.inr ⟨hp25, ?_⟩
                      replace hf := Nat.lt_trans g hf
                      clear g
                      replace h : EV F f 181 z181 70 [some (rf 11 (0)), some (rf 13 (17)), some (.inl (u2)), some (.inl (u3)), some (.inl (v7))] [] τ (w, σ') := h
                      replace h := ei_p h rfl rfl rfl rfl
                      obtain ⟨f, g, h⟩ := h
                      replace hf := Nat.lt_trans g hf
                      clear g
                      replace h : EV F f 181 z181 72 [some (rf 11 (0)), some (rf 13 (17)), some (.inl (u2)), some (.inl (u3)), some (.inl (v7))] [.inl (v7)] τ (w, σ') := h
                      replace h := ei_p h rfl rfl rfl rfl
                      obtain ⟨f, g, h⟩ := h
                      replace hf := Nat.lt_trans g hf
                      clear g
                      replace h : EV F f 181 z181 74 [some (rf 11 (0)), some (rf 13 (17)), some (.inl (u2)), some (.inl (u3)), some (.inl (v7))] [.inl (Int32.ofInt 10), .inl (v7)] τ (w, σ') := h
                      replace h := ei_idiv h rfl
                      obtain ⟨hd26, f, g, h⟩ := h
                      replace hf := Nat.lt_trans g hf
                      clear g
                      replace h : EV F f 181 z181 75 [some (rf 11 (0)), some (rf 13 (17)), some (.inl (u2)), some (.inl (u3)), some (.inl (v7))] [.inl ((v7) / (Int32.ofInt 10))] τ (w, σ') := h
                      replace h := ei_p h rfl rfl rfl rfl
                      obtain ⟨f, g, h⟩ := h
                      replace hf := Nat.lt_trans g hf
                      clear g
                      replace h : EV F f 181 z181 76 [some (rf 11 (0)), some (rf 13 (17)), some (.inl (u2)), some (.inl (u3)), some (.inl (v7))] [.inl (Int32.ofInt 5), .inl ((v7) / (Int32.ofInt 10))] τ (w, σ') := h
                      replace h := ei_c h rfl rfl rfl
                      rcases h with ⟨hp27, f, g, h⟩ | ⟨hp27, f, g, h⟩
                      · skip
                        replace hp27 : (5 : Int) ≤ ((v7) / (Int32.ofInt 10)).toInt := ic_ge.mp hp27
                        refine Or.inl ⟨hp27, ?_⟩
                        replace hf := Nat.lt_trans g hf
                        clear g
                        replace h : EV F f 181 z181 114 [some (rf 11 (0)), some (rf 13 (17)), some (.inl (u2)), some (.inl (u3)), some (.inl (v7))] [] τ (w, σ') := h
                        replace h := ei_p h rfl rfl rfl rfl
                        obtain ⟨f, g, h⟩ := h
                        replace hf := Nat.lt_trans g hf
                        clear g
                        replace h : EV F f 181 z181 115 [some (rf 11 (0)), some (rf 13 (17)), some (.inl (u2)), some (.inl (u3)), some (.inl (v7))] [.inl (Int32.ofInt 0)] τ (w, σ') := h
                        replace h := ei_p h rfl rfl rfl rfl
                        obtain ⟨f, g, h⟩ := h
                        replace hf := Nat.lt_trans g hf
                        clear g
                        replace h : EV F f 181 z181 116 [some (rf 11 (0)), some (rf 13 (17)), some (.inl (Int32.ofInt 0)), some (.inl (u3)), some (.inl (v7))] [] τ (w, σ') := h
                        replace h := ei_p h rfl rfl rfl rfl
                        obtain ⟨f, g, h⟩ := h
                        replace hf := Nat.lt_trans g hf
                        clear g
                        replace h : EV F f 181 z181 119 [some (rf 11 (0)), some (rf 13 (17)), some (.inl (Int32.ofInt 0)), some (.inl ((u3) + Int32.ofInt 1)), some (.inl (v7))] [] τ (w, σ') := h
                        replace h := ei_p h rfl rfl rfl rfl
                        obtain ⟨f, g, h⟩ := h
                        replace hf := Nat.lt_trans g hf
                        clear g
                        replace h : EV F f 181 z181 20 [some (rf 11 (0)), some (rf 13 (17)), some (.inl (Int32.ofInt 0)), some (.inl ((u3) + Int32.ofInt 1)), some (.inl (v7))] [] τ (w, σ') := h
                        exact IH f hf (Int32.ofInt 0) ((u3) + Int32.ofInt 1) (some (.inl (v7))) τ hsτ h
                      · skip
                        replace hp27 : ¬ ((5 : Int) ≤ ((v7) / (Int32.ofInt 10)).toInt) := (not_congr ic_ge).mp hp27
                        refine Or.inr ⟨hp27, ?_⟩
                        replace hf := Nat.lt_trans g hf
                        clear g
                        replace h : EV F f 181 z181 79 [some (rf 11 (0)), some (rf 13 (17)), some (.inl (u2)), some (.inl (u3)), some (.inl (v7))] [] τ (w, σ') := h
                        replace h := ei_p h rfl rfl rfl rfl
                        obtain ⟨f, g, h⟩ := h
                        replace hf := Nat.lt_trans g hf
                        clear g
                        replace h : EV F f 181 z181 81 [some (rf 11 (0)), some (rf 13 (17)), some (.inl (u2)), some (.inl (u3)), some (.inl (v7))] [.inl (v7)] τ (w, σ') := h
                        replace h := ei_p h rfl rfl rfl rfl
                        obtain ⟨f, g, h⟩ := h
                        replace hf := Nat.lt_trans g hf
                        clear g
                        replace h : EV F f 181 z181 83 [some (rf 11 (0)), some (rf 13 (17)), some (.inl (u2)), some (.inl (u3)), some (.inl (v7))] [.inl (Int32.ofInt 10), .inl (v7)] τ (w, σ') := h
                        replace h := ei_irem h rfl
                        obtain ⟨hd28, f, g, h⟩ := h
                        replace hf := Nat.lt_trans g hf
                        clear g
                        replace h : EV F f 181 z181 84 [some (rf 11 (0)), some (rf 13 (17)), some (.inl (u2)), some (.inl (u3)), some (.inl (v7))] [.inl ((v7) - (v7) / (Int32.ofInt 10) * (Int32.ofInt 10))] τ (w, σ') := h
                        replace h := ei_p h rfl rfl rfl rfl
                        obtain ⟨f, g, h⟩ := h
                        replace hf := Nat.lt_trans g hf
                        clear g
                        replace h : EV F f 181 z181 85 [some (rf 11 (0)), some (rf 13 (17)), some (.inl (u2)), some (.inl (u3)), some (.inl (v7))] [.inl (Int32.ofInt 5), .inl ((v7) - (v7) / (Int32.ofInt 10) * (Int32.ofInt 10))] τ (w, σ') := h
                        replace h := ei_c h rfl rfl rfl
                        rcases h with ⟨hp29, f, g, h⟩ | ⟨hp29, f, g, h⟩
                        · skip
                          replace hp29 : (5 : Int) ≤ ((v7) - (v7) / (Int32.ofInt 10) * (Int32.ofInt 10)).toInt := ic_ge.mp hp29
                          refine Or.inl ⟨hp29, ?_⟩
                          replace hf := Nat.lt_trans g hf
                          clear g
                          replace h : EV F f 181 z181 114 [some (rf 11 (0)), some (rf 13 (17)), some (.inl (u2)), some (.inl (u3)), some (.inl (v7))] [] τ (w, σ') := h
                          replace h := ei_p h rfl rfl rfl rfl
                          obtain ⟨f, g, h⟩ := h
                          replace hf := Nat.lt_trans g hf
                          clear g
                          replace h : EV F f 181 z181 115 [some (rf 11 (0)), some (rf 13 (17)), some (.inl (u2)), some (.inl (u3)), some (.inl (v7))] [.inl (Int32.ofInt 0)] τ (w, σ') := h
                          replace h := ei_p h rfl rfl rfl rfl
                          obtain ⟨f, g, h⟩ := h
                          replace hf := Nat.lt_trans g hf
                          clear g
                          replace h : EV F f 181 z181 116 [some (rf 11 (0)), some (rf 13 (17)), some (.inl (Int32.ofInt 0)), some (.inl (u3)), some (.inl (v7))] [] τ (w, σ') := h
                          replace h := ei_p h rfl rfl rfl rfl
                          obtain ⟨f, g, h⟩ := h
                          replace hf := Nat.lt_trans g hf
                          clear g
                          replace h : EV F f 181 z181 119 [some (rf 11 (0)), some (rf 13 (17)), some (.inl (Int32.ofInt 0)), some (.inl ((u3) + Int32.ofInt 1)), some (.inl (v7))] [] τ (w, σ') := h
                          replace h := ei_p h rfl rfl rfl rfl
                          obtain ⟨f, g, h⟩ := h
                          replace hf := Nat.lt_trans g hf
                          clear g
                          replace h : EV F f 181 z181 20 [some (rf 11 (0)), some (rf 13 (17)), some (.inl (Int32.ofInt 0)), some (.inl ((u3) + Int32.ofInt 1)), some (.inl (v7))] [] τ (w, σ') := h
                          exact IH f hf (Int32.ofInt 0) ((u3) + Int32.ofInt 1) (some (.inl (v7))) τ hsτ h
                        · skip
                          replace hp29 : ¬ ((5 : Int) ≤ ((v7) - (v7) / (Int32.ofInt 10) * (Int32.ofInt 10)).toInt) := (not_congr ic_ge).mp hp29
                          refine Or.inr ⟨hp29, ?_⟩
                          replace hf := Nat.lt_trans g hf
                          clear g
                          replace h : EV F f 181 z181 88 [some (rf 11 (0)), some (rf 13 (17)), some (.inl (u2)), some (.inl (u3)), some (.inl (v7))] [] τ (w, σ') := h
                          replace h := ei_p h rfl rfl rfl rfl
                          obtain ⟨f, g, h⟩ := h
                          replace hf := Nat.lt_trans g hf
                          clear g
                          replace h : EV F f 181 z181 90 [some (rf 11 (0)), some (rf 13 (17)), some (.inl (u2)), some (.inl (u3)), some (.inl (v7))] [.inl (v7)] τ (w, σ') := h
                          replace h := ei_p h rfl rfl rfl rfl
                          obtain ⟨f, g, h⟩ := h
                          replace hf := Nat.lt_trans g hf
                          clear g
                          replace h : EV F f 181 z181 92 [some (rf 11 (0)), some (rf 13 (17)), some (.inl (u2)), some (.inl (u3)), some (.inl (v7))] [.inl (Int32.ofInt 10), .inl (v7)] τ (w, σ') := h
                          replace h := ei_idiv h rfl
                          obtain ⟨hd30, f, g, h⟩ := h
                          replace hf := Nat.lt_trans g hf
                          clear g
                          replace h : EV F f 181 z181 93 [some (rf 11 (0)), some (rf 13 (17)), some (.inl (u2)), some (.inl (u3)), some (.inl (v7))] [.inl ((v7) / (Int32.ofInt 10))] τ (w, σ') := h
                          replace h := ei_p h rfl rfl rfl rfl
                          obtain ⟨f, g, h⟩ := h
                          replace hf := Nat.lt_trans g hf
                          clear g
                          replace h : EV F f 181 z181 95 [some (rf 11 (0)), some (rf 13 (17)), some (.inl (u2)), some (.inl (u3)), some (.inl (v7))] [.inl (v7), .inl ((v7) / (Int32.ofInt 10))] τ (w, σ') := h
                          replace h := ei_p h rfl rfl rfl rfl
                          obtain ⟨f, g, h⟩ := h
                          replace hf := Nat.lt_trans g hf
                          clear g
                          replace h : EV F f 181 z181 97 [some (rf 11 (0)), some (rf 13 (17)), some (.inl (u2)), some (.inl (u3)), some (.inl (v7))] [.inl (Int32.ofInt 10), .inl (v7), .inl ((v7) / (Int32.ofInt 10))] τ (w, σ') := h
                          replace h := ei_irem h rfl
                          obtain ⟨hd31, f, g, h⟩ := h
                          replace hf := Nat.lt_trans g hf
                          clear g
                          replace h : EV F f 181 z181 98 [some (rf 11 (0)), some (rf 13 (17)), some (.inl (u2)), some (.inl (u3)), some (.inl (v7))] [.inl ((v7) - (v7) / (Int32.ofInt 10) * (Int32.ofInt 10)), .inl ((v7) / (Int32.ofInt 10))] τ (w, σ') := h
                          replace h := ei_c h rfl rfl rfl
                          rcases h with ⟨hp32, f, g, h⟩ | ⟨hp32, f, g, h⟩
                          · skip
                            replace hp32 : ((v7) / (Int32.ofInt 10)).toInt = ((v7) - (v7) / (Int32.ofInt 10) * (Int32.ofInt 10)).toInt := ic_eq.mp hp32
                            refine Or.inl ⟨hp32, ?_⟩
                            replace hf := Nat.lt_trans g hf
                            clear g
                            replace h : EV F f 181 z181 114 [some (rf 11 (0)), some (rf 13 (17)), some (.inl (u2)), some (.inl (u3)), some (.inl (v7))] [] τ (w, σ') := h
                            replace h := ei_p h rfl rfl rfl rfl
                            obtain ⟨f, g, h⟩ := h
                            replace hf := Nat.lt_trans g hf
                            clear g
                            replace h : EV F f 181 z181 115 [some (rf 11 (0)), some (rf 13 (17)), some (.inl (u2)), some (.inl (u3)), some (.inl (v7))] [.inl (Int32.ofInt 0)] τ (w, σ') := h
                            replace h := ei_p h rfl rfl rfl rfl
                            obtain ⟨f, g, h⟩ := h
                            replace hf := Nat.lt_trans g hf
                            clear g
                            replace h : EV F f 181 z181 116 [some (rf 11 (0)), some (rf 13 (17)), some (.inl (Int32.ofInt 0)), some (.inl (u3)), some (.inl (v7))] [] τ (w, σ') := h
                            replace h := ei_p h rfl rfl rfl rfl
                            obtain ⟨f, g, h⟩ := h
                            replace hf := Nat.lt_trans g hf
                            clear g
                            replace h : EV F f 181 z181 119 [some (rf 11 (0)), some (rf 13 (17)), some (.inl (Int32.ofInt 0)), some (.inl ((u3) + Int32.ofInt 1)), some (.inl (v7))] [] τ (w, σ') := h
                            replace h := ei_p h rfl rfl rfl rfl
                            obtain ⟨f, g, h⟩ := h
                            replace hf := Nat.lt_trans g hf
                            clear g
                            replace h : EV F f 181 z181 20 [some (rf 11 (0)), some (rf 13 (17)), some (.inl (Int32.ofInt 0)), some (.inl ((u3) + Int32.ofInt 1)), some (.inl (v7))] [] τ (w, σ') := h
                            exact IH f hf (Int32.ofInt 0) ((u3) + Int32.ofInt 1) (some (.inl (v7))) τ hsτ h
                          · skip
                            replace hp32 : ¬ (((v7) / (Int32.ofInt 10)).toInt = ((v7) - (v7) / (Int32.ofInt 10) * (Int32.ofInt 10)).toInt) := (not_congr ic_eq).mp hp32
                            refine Or.inr ⟨hp32, ?_⟩
                            replace hf := Nat.lt_trans g hf
                            clear g
                            replace h : EV F f 181 z181 101 [some (rf 11 (0)), some (rf 13 (17)), some (.inl (u2)), some (.inl (u3)), some (.inl (v7))] [] τ (w, σ') := h
                            replace h := ei_p h rfl rfl rfl rfl
                            obtain ⟨f, g, h⟩ := h
                            replace hf := Nat.lt_trans g hf
                            clear g
                            replace h : EV F f 181 z181 102 [some (rf 11 (0)), some (rf 13 (17)), some (.inl (u2)), some (.inl (u3)), some (.inl (v7))] [rf 11 (0)] τ (w, σ') := h
                            replace h := ei_p h rfl rfl rfl rfl
                            obtain ⟨f, g, h⟩ := h
                            replace hf := Nat.lt_trans g hf
                            clear g
                            replace h : EV F f 181 z181 103 [some (rf 11 (0)), some (rf 13 (17)), some (.inl (u2)), some (.inl (u3)), some (.inl (v7))] [.inl (u3), rf 11 (0)] τ (w, σ') := h
                            replace h := ei_p h rfl rfl rfl rfl
                            obtain ⟨f, g, h⟩ := h
                            replace hf := Nat.lt_trans g hf
                            clear g
                            replace h : EV F f 181 z181 104 [some (rf 11 (0)), some (rf 13 (17)), some (.inl (u2)), some (.inl (u3)), some (.inl (v7))] [.inl (Int32.ofInt 3), .inl (u3), rf 11 (0)] τ (w, σ') := h
                            replace h := bx_I (ei_v (as := [.inl (Int32.ofInt 3), .inl (u3)]) h rfl rfl rfl) z142_at (Or.inl rfl)
                            rcases h with ⟨v33, σ34, r35, f, g, h⟩ | ⟨b, σ34, r35, e⟩
                            · skip
                              have er35 := ro2_run rfl r35
                              rw [er35] at h r35
                              replace hf := Nat.lt_trans g hf
                              clear g
                              have p36 := x142 hsτ.1 r35
                              refine Or.inl ⟨v33, p36, ?_⟩
                              replace h : EV F f 181 z181 107 [some (rf 11 (0)), some (rf 13 (17)), some (.inl (u2)), some (.inl (u3)), some (.inl (v7))] [.inl (v33)] τ (w, σ') := h
                              replace h := ei_c h rfl rfl rfl
                              rcases h with ⟨hp37, f, g, h⟩ | ⟨hp37, f, g, h⟩
                              · skip
                                replace hp37 : (v33).toInt ≠ (0 : Int) := ic_ne.mp hp37
                                refine Or.inl ⟨hp37, ?_⟩
                                replace hf := Nat.lt_trans g hf
                                clear g
                                replace h : EV F f 181 z181 114 [some (rf 11 (0)), some (rf 13 (17)), some (.inl (u2)), some (.inl (u3)), some (.inl (v7))] [] τ (w, σ') := h
                                replace h := ei_p h rfl rfl rfl rfl
                                obtain ⟨f, g, h⟩ := h
                                replace hf := Nat.lt_trans g hf
                                clear g
                                replace h : EV F f 181 z181 115 [some (rf 11 (0)), some (rf 13 (17)), some (.inl (u2)), some (.inl (u3)), some (.inl (v7))] [.inl (Int32.ofInt 0)] τ (w, σ') := h
                                replace h := ei_p h rfl rfl rfl rfl
                                obtain ⟨f, g, h⟩ := h
                                replace hf := Nat.lt_trans g hf
                                clear g
                                replace h : EV F f 181 z181 116 [some (rf 11 (0)), some (rf 13 (17)), some (.inl (Int32.ofInt 0)), some (.inl (u3)), some (.inl (v7))] [] τ (w, σ') := h
                                replace h := ei_p h rfl rfl rfl rfl
                                obtain ⟨f, g, h⟩ := h
                                replace hf := Nat.lt_trans g hf
                                clear g
                                replace h : EV F f 181 z181 119 [some (rf 11 (0)), some (rf 13 (17)), some (.inl (Int32.ofInt 0)), some (.inl ((u3) + Int32.ofInt 1)), some (.inl (v7))] [] τ (w, σ') := h
                                replace h := ei_p h rfl rfl rfl rfl
                                obtain ⟨f, g, h⟩ := h
                                replace hf := Nat.lt_trans g hf
                                clear g
                                replace h : EV F f 181 z181 20 [some (rf 11 (0)), some (rf 13 (17)), some (.inl (Int32.ofInt 0)), some (.inl ((u3) + Int32.ofInt 1)), some (.inl (v7))] [] τ (w, σ') := h
                                exact IH f hf (Int32.ofInt 0) ((u3) + Int32.ofInt 1) (some (.inl (v7))) τ hsτ h
                              · skip
                                replace hp37 : ¬ ((v33).toInt ≠ (0 : Int)) := (not_congr ic_ne).mp hp37
                                refine Or.inr ⟨hp37, ?_⟩
                                replace hf := Nat.lt_trans g hf
                                clear g
                                replace h : EV F f 181 z181 110 [some (rf 11 (0)), some (rf 13 (17)), some (.inl (u2)), some (.inl (u3)), some (.inl (v7))] [] τ (w, σ') := h
                                replace h := ei_p h rfl rfl rfl rfl
                                obtain ⟨f, g, h⟩ := h
                                replace hf := Nat.lt_trans g hf
                                clear g
                                replace h : EV F f 181 z181 111 [some (rf 11 (0)), some (rf 13 (17)), some (.inl (u2)), some (.inl (u3)), some (.inl (v7))] [.inl (Int32.ofInt 1)] τ (w, σ') := h
                                replace h := ei_p h rfl rfl rfl rfl
                                obtain ⟨f, g, h⟩ := h
                                replace hf := Nat.lt_trans g hf
                                clear g
                                replace h : EV F f 181 z181 115 [some (rf 11 (0)), some (rf 13 (17)), some (.inl (u2)), some (.inl (u3)), some (.inl (v7))] [.inl (Int32.ofInt 1)] τ (w, σ') := h
                                replace h := ei_p h rfl rfl rfl rfl
                                obtain ⟨f, g, h⟩ := h
                                replace hf := Nat.lt_trans g hf
                                clear g
                                replace h : EV F f 181 z181 116 [some (rf 11 (0)), some (rf 13 (17)), some (.inl (Int32.ofInt 1)), some (.inl (u3)), some (.inl (v7))] [] τ (w, σ') := h
                                replace h := ei_p h rfl rfl rfl rfl
                                obtain ⟨f, g, h⟩ := h
                                replace hf := Nat.lt_trans g hf
                                clear g
                                replace h : EV F f 181 z181 119 [some (rf 11 (0)), some (rf 13 (17)), some (.inl (Int32.ofInt 1)), some (.inl ((u3) + Int32.ofInt 1)), some (.inl (v7))] [] τ (w, σ') := h
                                replace h := ei_p h rfl rfl rfl rfl
                                obtain ⟨f, g, h⟩ := h
                                replace hf := Nat.lt_trans g hf
                                clear g
                                replace h : EV F f 181 z181 20 [some (rf 11 (0)), some (rf 13 (17)), some (.inl (Int32.ofInt 1)), some (.inl ((u3) + Int32.ofInt 1)), some (.inl (v7))] [] τ (w, σ') := h
                                exact IH f hf (Int32.ofInt 1) ((u3) + Int32.ofInt 1) (some (.inl (v7))) τ hsτ h
                            · skip
                              have er35 := ro2_run rfl r35
                              rw [er35] at e r35
                              have p36 := x142 hsτ.1 r35
                              cases e
                              exact Or.inr ⟨b, p36, rfl, rfl⟩
                  · skip
                    have er23 := ro2_run rfl r23
                    rw [er23] at e r23
                    have p24 := x142 hsτ.1 r23
                    cases e
                    exact Or.inr ⟨b, p24, rfl, rfl⟩
              · skip
                have er18 := ro2_run rfl r18
                rw [er18] at e r18
                have p19 := x142 hsτ.1 r18
                cases e
                exact Or.inr ⟨b, p19, rfl, rfl⟩
          · skip
            have er13 := ro2_run rfl r13
            rw [er13] at e r13
            have p14 := x142 hsτ.1 r13
            cases e
            exact Or.inr ⟨b, p14, rfl, rfl⟩
        · skip
          have er9 := ro2_run rfl r9
          rw [er9] at e r9
          have p10 := x142 hsτ.1 r9
          cases e
          exact Or.inr ⟨b, p10, rfl, rfl⟩
def J181_15 (t0 : Int32) (τ : mS) (w : mX) (σ' : mS) : Prop := (0 ≤ (3 : Int) ∧ (3 : Int) < (τ.2.1 13 (17) : Int)) ∧ ∃ n2, n2 = m_i τ 13 (17) (Int32.ofInt 3).toNatClampNeg ∧ ∃ n, Q181_20  n (t0) (n2) τ w σ'
set_option maxRecDepth 100000 in
theorem j181_15 {F f : Nat} {σ' τ : mS} {t0 : Int32} {y2 : Option mV} {y3 : Option mV} {y4 : Option mV} {w : mX} (hsτ : HL τ) (h : EV F f 181 z181 15 [some (rf 11 (0)), some (rf 13 (17)), y2, y3, y4] [.inl (t0)] τ (w, σ')) : J181_15 t0 τ w σ' := by
  unfold J181_15
  replace h := ei_p h rfl rfl rfl rfl
  obtain ⟨f, g, h⟩ := h
  clear g
  replace h : EV F f 181 z181 16 [some (rf 11 (0)), some (rf 13 (17)), some (.inl (t0)), y3, y4] [] τ (w, σ') := h
  replace h := ei_p h rfl rfl rfl rfl
  obtain ⟨f, g, h⟩ := h
  clear g
  replace h : EV F f 181 z181 17 [some (rf 11 (0)), some (rf 13 (17)), some (.inl (t0)), y3, y4] [rf 13 (17)] τ (w, σ') := h
  replace h := ei_p h rfl rfl rfl rfl
  obtain ⟨f, g, h⟩ := h
  clear g
  replace h : EV F f 181 z181 18 [some (rf 11 (0)), some (rf 13 (17)), some (.inl (t0)), y3, y4] [.inl (Int32.ofInt 3), rf 13 (17)] τ (w, σ') := h
  replace h := ei_iald h rfl (fun _ => rfl)
  obtain ⟨vp1, f, g, h⟩ := h
  clear g
  replace h : EV F f 181 z181 19 [some (rf 11 (0)), some (rf 13 (17)), some (.inl (t0)), y3, y4] [.inl (m_i τ 13 (17) (Int32.ofInt 3).toNatClampNeg)] τ (w, σ') := h
  refine ⟨vp_2 vp1, ?_⟩
  replace h := ei_p h rfl rfl rfl rfl
  obtain ⟨f, g, h⟩ := h
  clear g
  replace h : EV F f 181 z181 20 [some (rf 11 (0)), some (rf 13 (17)), some (.inl (t0)), some (.inl (m_i τ 13 (17) (Int32.ofInt 3).toNatClampNeg)), y4] [] τ (w, σ') := h
  obtain ⟨n2, e3⟩ : ∃ s, s = m_i τ 13 (17) (Int32.ofInt 3).toNatClampNeg := ⟨_, rfl⟩
  rw [← e3] at h
  refine ⟨n2, e3, ?_⟩
  replace h : EV F f 181 z181 20 [some (rf 11 (0)), some (rf 13 (17)), some (.inl (t0)), some (.inl (n2)), y4] [] τ (w, σ') := h
  exact ⟨f + 1, q181_20 (f + 1) f (Nat.lt_succ_self f) (t0) (n2) _ τ hsτ h⟩
def P181 (σ : mS) (w : mX) (σ' : mS) : Prop := ∃ v1, P141 σ v1 σ ∧ (0 ≤ (3 : Int) ∧ (3 : Int) < (σ.2.1 13 (17) : Int)) ∧ (((v1).toInt < (m_i σ 13 (17) (Int32.ofInt 3).toNatClampNeg).toInt ∧ J181_15 (Int32.ofInt 0) σ w σ') ∨ (¬ ((v1).toInt < (m_i σ 13 (17) (Int32.ofInt 3).toNatClampNeg).toInt) ∧ J181_15 (Int32.ofInt 1) σ w σ'))
set_option maxRecDepth 100000 in
theorem x181 {σ σ' : mS} {w : mX} (hs : HL σ) (h : ev_run sm_all 181 [rf 11 (0), rf 13 (17)] σ (w) σ') : P181 σ w σ' := by
  unfold P181
  obtain ⟨F, f, h⟩ := ei_go h z181_at
  replace h : EV F f 181 z181 0 [some (rf 11 (0)), some (rf 13 (17)), none, none, none] [] σ (w, σ') := h
  replace h := ei_p h rfl rfl rfl rfl
  obtain ⟨f, g, h⟩ := h
  clear g
  replace h : EV F f 181 z181 1 [some (rf 11 (0)), some (rf 13 (17)), none, none, none] [rf 11 (0)] σ (w, σ') := h
  replace h := bk_I (ei_v (as := []) h rfl rfl rfl) rfl z141_at (Or.inl rfl)
  obtain ⟨v1, σ2, r3, f, g, h⟩ := h
  clear g
  have er3 := ro2_run rfl r3
  rw [er3] at h r3
  have p4 := x141 hs.1 r3
  refine ⟨v1, p4, ?_⟩
  replace h : EV F f 181 z181 4 [some (rf 11 (0)), some (rf 13 (17)), none, none, none] [.inl (v1)] σ (w, σ') := h
  replace h := ei_p h rfl rfl rfl rfl
  obtain ⟨f, g, h⟩ := h
  clear g
  replace h : EV F f 181 z181 5 [some (rf 11 (0)), some (rf 13 (17)), none, none, none] [rf 13 (17), .inl (v1)] σ (w, σ') := h
  replace h := ei_p h rfl rfl rfl rfl
  obtain ⟨f, g, h⟩ := h
  clear g
  replace h : EV F f 181 z181 6 [some (rf 11 (0)), some (rf 13 (17)), none, none, none] [.inl (Int32.ofInt 3), rf 13 (17), .inl (v1)] σ (w, σ') := h
  replace h := ei_iald h rfl (fun _ => rfl)
  obtain ⟨vp5, f, g, h⟩ := h
  clear g
  replace h : EV F f 181 z181 7 [some (rf 11 (0)), some (rf 13 (17)), none, none, none] [.inl (m_i σ 13 (17) (Int32.ofInt 3).toNatClampNeg), .inl (v1)] σ (w, σ') := h
  refine ⟨vp_2 vp5, ?_⟩
  replace h := ei_c h rfl rfl rfl
  rcases h with ⟨hp6, f, g, h⟩ | ⟨hp6, f, g, h⟩
  · skip
    replace hp6 : (v1).toInt < (m_i σ 13 (17) (Int32.ofInt 3).toNatClampNeg).toInt := ic_lt.mp hp6
    refine Or.inl ⟨hp6, ?_⟩
    clear g
    replace h : EV F f 181 z181 14 [some (rf 11 (0)), some (rf 13 (17)), none, none, none] [] σ (w, σ') := h
    replace h := ei_p h rfl rfl rfl rfl
    obtain ⟨f, g, h⟩ := h
    clear g
    replace h : EV F f 181 z181 15 [some (rf 11 (0)), some (rf 13 (17)), none, none, none] [.inl (Int32.ofInt 0)] σ (w, σ') := h
    exact j181_15 hs h
  · skip
    replace hp6 : ¬ ((v1).toInt < (m_i σ 13 (17) (Int32.ofInt 3).toNatClampNeg).toInt) := (not_congr ic_lt).mp hp6
    refine Or.inr ⟨hp6, ?_⟩
    clear g
    replace h : EV F f 181 z181 10 [some (rf 11 (0)), some (rf 13 (17)), none, none, none] [] σ (w, σ') := h
    replace h := ei_p h rfl rfl rfl rfl
    obtain ⟨f, g, h⟩ := h
    clear g
    replace h : EV F f 181 z181 11 [some (rf 11 (0)), some (rf 13 (17)), none, none, none] [.inl (Int32.ofInt 1)] σ (w, σ') := h
    replace h := ei_p h rfl rfl rfl rfl
    obtain ⟨f, g, h⟩ := h
    clear g
    replace h : EV F f 181 z181 15 [some (rf 11 (0)), some (rf 13 (17)), none, none, none] [.inl (Int32.ofInt 1)] σ (w, σ') := h
    exact j181_15 hs h
