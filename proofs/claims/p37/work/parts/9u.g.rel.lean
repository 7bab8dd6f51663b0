/-! the class's methods as relations: 66 enter, 64 letOrderCome, 65 letStopWait, 70 tieOrders, 71 cancelOrder, 73 tradeSpread -/
def z66 : mAl := ((yX4_enter, cX4_enter, 7, none, { frames := 3, cells := 0, slots := 0, locals := 87 }, []), rw_X4_enter, false)
theorem z66_at : m_alF[66]? = some z66 := rfl
abbrev L66 : List (Nat × Nat) := [(0, 2), (2, 5), (6, 2), (6, 5), (7, 6), (7, 7), (7, 9), (7, 11), (7, 12), (8, 1), (8, 2), (8, 3), (8, 7), (10, 0), (10, 1), (10, 2), (10, 3), (10, 4), (10, 5), (10, 6), (10, 7), (10, 8), (10, 9), (14, 0)]
abbrev w66 : Nat → Nat → Bool := wl L66
def S66 : List Nat := [5, 6, 12, 22, 24, 28, 32, 66, 67, 68, 91, 95, 100, 102, 103, 105, 106, 113, 114]
theorem W66 : fw_S w66 S66 = true := by decide +kernel
def J66_208 (u1 : mR) (τ : mS) (σ' : mS) : Prop := ∃ i1, u1 = some (7, i1) ∧ ∃ σ4, fw_e w106 τ σ4 ∧ P106 τ (i1) σ4 ∧ σ' = σ4
theorem j66_208 {F f : Nat} {σ' τ : mS} {u1 : mR} {y0 : Option mV} {y2 : Option mV} {y3 : Option mV} {y4 : Option mV} {y5 : Option mV} {y6 : Option mV} (hsτ : HS τ) (h : EV F f 66 z66 208 [y0, some (.inr (.inr (u1))), y2, y3, y4, y5, y6] [] τ (.inl none, σ')) : J66_208 u1 τ σ' := by
  unfold J66_208
  replace h := ei_p h rfl rfl rfl rfl
  obtain ⟨f, g, h⟩ := h
  clear g
  replace h : EV F f 66 z66 209 [y0, some (.inr (.inr (u1))), y2, y3, y4, y5, y6] [.inr (.inr (u1))] τ (.inl none, σ') := h
  obtain ⟨i1, e2⟩ := ei_vp (as := []) h rfl rfl
  rw [e2] at h
  refine ⟨i1, e2, ?_⟩
  replace h : EV F f 66 z66 209 [y0, some (rf 7 (i1)), y2, y3, y4, y5, y6] [rf 7 (i1)] τ (.inl none, σ') := h
  replace h := bk_0 (ei_v (as := []) h rfl rfl rfl) rfl z106_at rfl
  obtain ⟨σ4, r5, f, g, h⟩ := h
  clear g
  have p6 := x106 hsτ r5
  have hsσ4 : HS σ4 := HS_run rfl r5 hsτ
  refine ⟨σ4, fw_run W106 rfl r5, p6, ?_⟩
  replace h : EV F f 66 z66 212 [y0, some (rf 7 (i1)), y2, y3, y4, y5, y6] [] σ4 (.inl none, σ') := h
  have e := ei_ret h rfl
  cases e
  exact rfl
def J66_186 (u1 : mR) (u2 : Int32) (τ : mS) (σ' : mS) : Prop := ∃ i1, u1 = some (7, i1) ∧ (((m_i τ 7 (i1) 6).toInt ≤ (0 : Int) ∧ J66_208 (some (7, i1)) τ σ') ∨ (¬ ((m_i τ 7 (i1) 6).toInt ≤ (0 : Int)) ∧ (((u2).toInt = (0 : Int) ∧ J66_208 (some (7, i1)) τ σ') ∨ (¬ ((u2).toInt = (0 : Int)) ∧ ∃ σ6, fw_e w5 τ σ6 ∧ P5 τ (some (7, i1)) σ6 ∧ σ' = σ6))))
theorem j66_186 {F f : Nat} {σ' τ : mS} {u1 : mR} {u2 : Int32} {y3 : Option mV} {y4 : Option mV} {y5 : Option mV} {y6 : Option mV} (hsτ : HS τ) (h : EV F f 66 z66 186 [some (rf 4 (0)), some (.inr (.inr (u1))), some (.inl (u2)), y3, y4, y5, y6] [] τ (.inl none, σ')) : J66_186 u1 u2 τ σ' := by
  unfold J66_186
  replace h := ei_p h rfl rfl rfl rfl
  obtain ⟨f, g, h⟩ := h
  clear g
  replace h : EV F f 66 z66 187 [some (rf 4 (0)), some (.inr (.inr (u1))), some (.inl (u2)), y3, y4, y5, y6] [.inr (.inr (u1))] τ (.inl none, σ') := h
  obtain ⟨i1, e2⟩ := ei_gp h rfl
  rw [e2] at h
  refine ⟨i1, e2, ?_⟩
  replace h : EV F f 66 z66 187 [some (rf 4 (0)), some (rf 7 (i1)), some (.inl (u2)), y3, y4, y5, y6] [rf 7 (i1)] τ (.inl none, σ') := h
  replace h := ei_get h rfl rfl
  obtain ⟨f, g, h⟩ := h
  clear g
  replace h : EV F f 66 z66 190 [some (rf 4 (0)), some (rf 7 (i1)), some (.inl (u2)), y3, y4, y5, y6] [.inl (m_i τ 7 (i1) 6)] τ (.inl none, σ') := h
  replace h := ei_c h rfl rfl rfl
  rcases h with ⟨hp3, f, g, h⟩ | ⟨hp3, f, g, h⟩
  · skip
    replace hp3 : (m_i τ 7 (i1) 6).toInt ≤ (0 : Int) := ic_le.mp hp3
    refine Or.inl ⟨hp3, ?_⟩
    clear g
    replace h : EV F f 66 z66 208 [some (rf 4 (0)), some (rf 7 (i1)), some (.inl (u2)), y3, y4, y5, y6] [] τ (.inl none, σ') := h
    exact j66_208 hsτ h
  · skip
    replace hp3 : ¬ ((m_i τ 7 (i1) 6).toInt ≤ (0 : Int)) := (not_congr ic_le).mp hp3
    refine Or.inr ⟨hp3, ?_⟩
    clear g
    replace h : EV F f 66 z66 193 [some (rf 4 (0)), some (rf 7 (i1)), some (.inl (u2)), y3, y4, y5, y6] [] τ (.inl none, σ') := h
    replace h := ei_p h rfl rfl rfl rfl
    obtain ⟨f, g, h⟩ := h
    clear g
    replace h : EV F f 66 z66 194 [some (rf 4 (0)), some (rf 7 (i1)), some (.inl (u2)), y3, y4, y5, y6] [.inl (u2)] τ (.inl none, σ') := h
    replace h := ei_c h rfl rfl rfl
    rcases h with ⟨hp4, f, g, h⟩ | ⟨hp4, f, g, h⟩
    · skip
      replace hp4 : (u2).toInt = (0 : Int) := ic_eq.mp hp4
      refine Or.inl ⟨hp4, ?_⟩
      clear g
      replace h : EV F f 66 z66 208 [some (rf 4 (0)), some (rf 7 (i1)), some (.inl (u2)), y3, y4, y5, y6] [] τ (.inl none, σ') := h
      exact j66_208 hsτ h
    · skip
      replace hp4 : ¬ ((u2).toInt = (0 : Int)) := (not_congr ic_eq).mp hp4
      refine Or.inr ⟨hp4, ?_⟩
      clear g
      replace h : EV F f 66 z66 197 [some (rf 4 (0)), some (rf 7 (i1)), some (.inl (u2)), y3, y4, y5, y6] [] τ (.inl none, σ') := h
      replace h := ei_p h rfl rfl rfl rfl
      obtain ⟨f, g, h⟩ := h
      clear g
      replace h : EV F f 66 z66 198 [some (rf 4 (0)), some (rf 7 (i1)), some (.inl (u2)), y3, y4, y5, y6] [rf 4 (0)] τ (.inl none, σ') := h
      replace h := ei_get h rfl (HS_g4_0 hsτ)
      obtain ⟨f, g, h⟩ := h
      clear g
      replace h : EV F f 66 z66 201 [some (rf 4 (0)), some (rf 7 (i1)), some (.inl (u2)), y3, y4, y5, y6] [rf 0 (0)] τ (.inl none, σ') := h
      replace h := ei_p h rfl rfl rfl rfl
      obtain ⟨f, g, h⟩ := h
      clear g
      replace h : EV F f 66 z66 202 [some (rf 4 (0)), some (rf 7 (i1)), some (.inl (u2)), y3, y4, y5, y6] [rf 7 (i1), rf 0 (0)] τ (.inl none, σ') := h
      replace h := bk_0 (ei_v (as := [rf 7 (i1)]) h rfl rfl rfl) rfl z5_at rfl
      obtain ⟨σ6, r7, f, g, h⟩ := h
      clear g
      have p8 := x5 hsτ r7
      have hsσ6 : HS σ6 := HS_run rfl r7 hsτ
      refine ⟨σ6, fw_run W5 rfl r7, p8, ?_⟩
      replace h : EV F f 66 z66 205 [some (rf 4 (0)), some (rf 7 (i1)), some (.inl (u2)), y3, y4, y5, y6] [] σ6 (.inl none, σ') := h
      replace h := ei_p h rfl rfl rfl rfl
      obtain ⟨f, g, h⟩ := h
      clear g
      replace h : EV F f 66 z66 212 [some (rf 4 (0)), some (rf 7 (i1)), some (.inl (u2)), y3, y4, y5, y6] [] σ6 (.inl none, σ') := h
      have e := ei_ret h rfl
      cases e
      exact rfl
abbrev B66_15 (c1 : Nat) (c2 : Int32) (c3 : mR) (ih : Int32 → mS → mS → Prop) (u4 : Int32) (τ : mS) (σ' : mS) : Prop := (((1000 : Int) ≤ (u4).toInt ∧ J66_186 (some (7, c1)) (c2) τ σ') ∨ (¬ ((1000 : Int) ≤ (u4).toInt) ∧ (((m_i τ 7 (c1) 6).toInt ≤ (0 : Int) ∧ J66_186 (some (7, c1)) (c2) τ σ') ∨ (¬ ((m_i τ 7 (c1) 6).toInt ≤ (0 : Int)) ∧ ((c3 = none ∧ J66_186 (some (7, c1)) (c2) τ σ') ∨ (∃ q4, c3 = some q4 ∧ ∃ i7, (some q4 : mR) = some (8, i7) ∧ (((m_i τ 8 (i7) 1).toInt ≠ (0 : Int) ∧ J66_186 (some (7, c1)) (c2) τ σ') ∨ (¬ ((m_i τ 8 (i7) 1).toInt ≠ (0 : Int)) ∧ ∃ v10, P28 τ (Int32.ofInt 1) v10 ∧ (((v10).toInt ≠ (0 : Int) ∧ ∃ v15, P6 τ (m_i τ 7 (c1) 2) ((Int32.ofInt 1) - (m_i τ 7 (c1) 3)) v15 ∧ ((v15 = none ∧ J66_186 (some (7, c1)) (c2) τ σ') ∨ (∃ q20, v15 = some q20 ∧ ∃ i23, (some q20 : mR) = some (7, i23) ∧ ∃ v25, P103 τ (i23) (m_i τ 7 (c1) 4) v25 ∧ (((v25).toInt ≠ (0 : Int) ∧ (((m_i τ 7 (i23) 1).toInt ≠ (m_i τ 7 (c1) 1).toInt ∧ ∃ v31, P113 τ (i7) (m_i τ 7 (i23) 4) v31 ∧ (((v31).toInt = (0 : Int) ∧ ∃ n36, n36 = jmin (m_i τ 7 (c1) 6) (m_i τ 7 (i23) 7) ∧ ∃ σ39, fw_e w67 τ σ39 ∧ P67 τ (some (7, c1)) (some (7, i23)) (some (8, i7)) (n36) σ39 ∧ ∃ σ43, σ43 = m_set σ39 7 (c1) (6) (.inl ((m_i σ39 7 (c1) 6) - (n36))) ∧ ∃ σ46, fw_e w12 σ43 σ46 ∧ P12 σ43 (some (7, i23)) (n36) σ46 ∧ ih ((u4) + Int32.ofInt 1) σ46 σ') ∨ (¬ ((v31).toInt = (0 : Int)) ∧ ∃ σ50, σ50 = m_set τ 8 (i7) (1) (.inl (Int32.ofInt 1)) ∧ ih ((u4) + Int32.ofInt 1) σ50 σ'))) ∨ (¬ ((m_i τ 7 (i23) 1).toInt ≠ (m_i τ 7 (c1) 1).toInt) ∧ ∃ σ53, fw_e w106 τ σ53 ∧ P106 τ (i23) σ53 ∧ ih ((u4) + Int32.ofInt 1) σ53 σ'))) ∨ (¬ ((v25).toInt ≠ (0 : Int)) ∧ J66_186 (some (7, c1)) (c2) τ σ'))))) ∨ (¬ ((v10).toInt ≠ (0 : Int)) ∧ J66_186 (some (7, c1)) (c2) τ σ'))))))))))
def Q66_15 (c1 : Nat) (c2 : Int32) (c3 : mR) : Nat → Int32 → mS → mS → Prop
  | 0 => fun _ _ _ => False
  | n + 1 => B66_15 c1 c2 c3 (Q66_15 c1 c2 c3 n)
theorem q66_15 {F : Nat} {σ' : mS} {c1 : Nat} {c2 : Int32} {c3 : mR} : ∀ N f, f < N → ∀ (u4 : Int32) (y5 : Option mV) (y6 : Option mV) (τ : mS), HS τ → EV F f 66 z66 15 [some (rf 4 (0)), some (rf 7 (c1)), some (.inl (c2)), some (.inr (.inr (c3))), some (.inl (u4)), y5, y6] [] τ (.inl none, σ') → Q66_15 c1 c2 c3 N u4 τ σ' := by
  intro N
  induction N with
  | zero => intro f hf; omega
  | succ N IH =>
    intro f hf0 u4 y5 y6 τ hsτ h
    have hf : f < N + 1 := hf0
    clear hf0
    show B66_15 c1 c2 c3 (Q66_15 c1 c2 c3 N) u4 τ σ'
    replace h := ei_p h rfl rfl rfl rfl
    obtain ⟨f, g, h⟩ := h
    replace hf := Nat.lt_of_lt_of_le g (Nat.le_of_lt_succ hf)
    clear g
    replace h : EV F f 66 z66 17 [some (rf 4 (0)), some (rf 7 (c1)), some (.inl (c2)), some (.inr (.inr (c3))), some (.inl (u4)), y5, y6] [.inl (u4)] τ (.inl none, σ') := h
    replace h := ei_p h rfl rfl rfl rfl
    obtain ⟨f, g, h⟩ := h
    replace hf := Nat.lt_trans g hf
    clear g
    replace h : EV F f 66 z66 20 [some (rf 4 (0)), some (rf 7 (c1)), some (.inl (c2)), some (.inr (.inr (c3))), some (.inl (u4)), y5, y6] [.inl (Int32.ofInt 1000), .inl (u4)] τ (.inl none, σ') := h
    replace h := ei_c h rfl rfl rfl
    rcases h with ⟨hp1, f, g, h⟩ | ⟨hp1, f, g, h⟩
    · skip
      replace hp1 : (1000 : Int) ≤ (u4).toInt := ic_ge.mp hp1
      refine Or.inl ⟨hp1, ?_⟩
      replace hf := Nat.lt_trans g hf
      clear g
      replace h : EV F f 66 z66 186 [some (rf 4 (0)), some (rf 7 (c1)), some (.inl (c2)), some (.inr (.inr (c3))), some (.inl (u4)), y5, y6] [] τ (.inl none, σ') := h
      exact j66_186 hsτ h
    · skip
      replace hp1 : ¬ ((1000 : Int) ≤ (u4).toInt) := (not_congr ic_ge).mp hp1
      refine Or.inr ⟨hp1, ?_⟩
      replace hf := Nat.lt_trans g hf
      clear g
      replace h : EV F f 66 z66 23 [some (rf 4 (0)), some (rf 7 (c1)), some (.inl (c2)), some (.inr (.inr (c3))), some (.inl (u4)), y5, y6] [] τ (.inl none, σ') := h
      replace h := ei_p h rfl rfl rfl rfl
      obtain ⟨f, g, h⟩ := h
      replace hf := Nat.lt_trans g hf
      clear g
      replace h : EV F f 66 z66 24 [some (rf 4 (0)), some (rf 7 (c1)), some (.inl (c2)), some (.inr (.inr (c3))), some (.inl (u4)), y5, y6] [rf 7 (c1)] τ (.inl none, σ') := h
      replace h := ei_get h rfl rfl
      obtain ⟨f, g, h⟩ := h
      replace hf := Nat.lt_trans g hf
      clear g
      replace h : EV F f 66 z66 27 [some (rf 4 (0)), some (rf 7 (c1)), some (.inl (c2)), some (.inr (.inr (c3))), some (.inl (u4)), y5, y6] [.inl (m_i τ 7 (c1) 6)] τ (.inl none, σ') := h
      replace h := ei_c h rfl rfl rfl
      rcases h with ⟨hp2, f, g, h⟩ | ⟨hp2, f, g, h⟩
      · skip
        replace hp2 : (m_i τ 7 (c1) 6).toInt ≤ (0 : Int) := ic_le.mp hp2
        refine Or.inl ⟨hp2, ?_⟩
        replace hf := Nat.lt_trans g hf
        clear g
        replace h : EV F f 66 z66 186 [some (rf 4 (0)), some (rf 7 (c1)), some (.inl (c2)), some (.inr (.inr (c3))), some (.inl (u4)), y5, y6] [] τ (.inl none, σ') := h
        exact j66_186 hsτ h
      · skip
        replace hp2 : ¬ ((m_i τ 7 (c1) 6).toInt ≤ (0 : Int)) := (not_congr ic_le).mp hp2
        refine Or.inr ⟨hp2, ?_⟩
        replace hf := Nat.lt_trans g hf
        clear g
        replace h : EV F f 66 z66 30 [some (rf 4 (0)), some (rf 7 (c1)), some (.inl (c2)), some (.inr (.inr (c3))), some (.inl (u4)), y5, y6] [] τ (.inl none, σ') := h
        replace h := ei_p h rfl rfl rfl rfl
        obtain ⟨f, g, h⟩ := h
        replace hf := Nat.lt_trans g hf
        clear g
        replace h : EV F f 66 z66 31 [some (rf 4 (0)), some (rf 7 (c1)), some (.inl (c2)), some (.inr (.inr (c3))), some (.inl (u4)), y5, y6] [.inr (.inr (c3))] τ (.inl none, σ') := h
        rcases r_cs (c3) with e3 | ⟨q4, e3⟩
        · skip
          rw [e3] at h
          refine Or.inl ⟨e3, ?_⟩
          replace h : EV F f 66 z66 31 [some (rf 4 (0)), some (rf 7 (c1)), some (.inl (c2)), some (.inr (.inr none)), some (.inl (u4)), y5, y6] [.inr (.inr none)] τ (.inl none, σ') := h
          replace h := ei_c h rfl rfl rfl
          rcases h with ⟨hp5, f, g, h⟩ | ⟨hp5, f, g, h⟩
          · skip
            replace hf := Nat.lt_trans g hf
            clear g
            replace h : EV F f 66 z66 186 [some (rf 4 (0)), some (rf 7 (c1)), some (.inl (c2)), some (.inr (.inr none)), some (.inl (u4)), y5, y6] [] τ (.inl none, σ') := h
            exact j66_186 hsτ h
          · exact absurd rfl hp5
        · skip
          rw [e3] at h
          refine Or.inr ⟨q4, e3, ?_⟩
          replace h : EV F f 66 z66 31 [some (rf 4 (0)), some (rf 7 (c1)), some (.inl (c2)), some (.inr (.inr (some q4))), some (.inl (u4)), y5, y6] [.inr (.inr (some q4))] τ (.inl none, σ') := h
          replace h := ei_c h rfl rfl rfl
          rcases h with ⟨hp6, f, g, h⟩ | ⟨hp6, f, g, h⟩
          · exact absurd hp6 (fun z => by cases z)
          · skip
            replace hf := Nat.lt_trans g hf
            clear g
            replace h : EV F f 66 z66 34 [some (rf 4 (0)), some (rf 7 (c1)), some (.inl (c2)), some (.inr (.inr (some q4))), some (.inl (u4)), y5, y6] [] τ (.inl none, σ') := h
            replace h := ei_p h rfl rfl rfl rfl
            obtain ⟨f, g, h⟩ := h
            replace hf := Nat.lt_trans g hf
            clear g
            replace h : EV F f 66 z66 35 [some (rf 4 (0)), some (rf 7 (c1)), some (.inl (c2)), some (.inr (.inr (some q4))), some (.inl (u4)), y5, y6] [.inr (.inr (some q4))] τ (.inl none, σ') := h
            obtain ⟨i7, e8⟩ := ei_gp h rfl
            rw [Option.some.inj e8] at h
            refine ⟨i7, e8, ?_⟩
            replace h : EV F f 66 z66 35 [some (rf 4 (0)), some (rf 7 (c1)), some (.inl (c2)), some (rf 8 (i7)), some (.inl (u4)), y5, y6] [rf 8 (i7)] τ (.inl none, σ') := h
            replace h := ei_get h rfl rfl
            obtain ⟨f, g, h⟩ := h
            replace hf := Nat.lt_trans g hf
            clear g
            replace h : EV F f 66 z66 38 [some (rf 4 (0)), some (rf 7 (c1)), some (.inl (c2)), some (rf 8 (i7)), some (.inl (u4)), y5, y6] [.inl (m_i τ 8 (i7) 1)] τ (.inl none, σ') := h
            replace h := ei_c h rfl rfl rfl
            rcases h with ⟨hp9, f, g, h⟩ | ⟨hp9, f, g, h⟩
            · skip
              replace hp9 : (m_i τ 8 (i7) 1).toInt ≠ (0 : Int) := ic_ne.mp hp9
              refine Or.inl ⟨hp9, ?_⟩
              replace hf := Nat.lt_trans g hf
              clear g
              replace h : EV F f 66 z66 186 [some (rf 4 (0)), some (rf 7 (c1)), some (.inl (c2)), some (rf 8 (i7)), some (.inl (u4)), y5, y6] [] τ (.inl none, σ') := h
              exact j66_186 hsτ h
            · skip
              replace hp9 : ¬ ((m_i τ 8 (i7) 1).toInt ≠ (0 : Int)) := (not_congr ic_ne).mp hp9
              refine Or.inr ⟨hp9, ?_⟩
              replace hf := Nat.lt_trans g hf
              clear g
              replace h : EV F f 66 z66 41 [some (rf 4 (0)), some (rf 7 (c1)), some (.inl (c2)), some (rf 8 (i7)), some (.inl (u4)), y5, y6] [] τ (.inl none, σ') := h
              replace h := ei_p h rfl rfl rfl rfl
              obtain ⟨f, g, h⟩ := h
              replace hf := Nat.lt_trans g hf
              clear g
              replace h : EV F f 66 z66 42 [some (rf 4 (0)), some (rf 7 (c1)), some (.inl (c2)), some (rf 8 (i7)), some (.inl (u4)), y5, y6] [rf 4 (0)] τ (.inl none, σ') := h
              replace h := ei_get h rfl (HS_g4_1 hsτ)
              obtain ⟨f, g, h⟩ := h
              replace hf := Nat.lt_trans g hf
              clear g
              replace h : EV F f 66 z66 45 [some (rf 4 (0)), some (rf 7 (c1)), some (.inl (c2)), some (rf 8 (i7)), some (.inl (u4)), y5, y6] [rf 2 (0)] τ (.inl none, σ') := h
              replace h := ei_p h rfl rfl rfl rfl
              obtain ⟨f, g, h⟩ := h
              replace hf := Nat.lt_trans g hf
              clear g
              replace h : EV F f 66 z66 46 [some (rf 4 (0)), some (rf 7 (c1)), some (.inl (c2)), some (rf 8 (i7)), some (.inl (u4)), y5, y6] [.inl (Int32.ofInt 1), rf 2 (0)] τ (.inl none, σ') := h
              replace h := bk_I (ei_v (as := [.inl (Int32.ofInt 1)]) h rfl rfl rfl) rfl z28_at (Or.inr rfl)
              obtain ⟨v10, σ11, r12, f, g, h⟩ := h
              replace hf := Nat.lt_trans g hf
              clear g
              have er12 := ro_run rfl r12
              rw [er12] at h r12
              have p13 := x28 hsτ r12
              refine ⟨v10, p13, ?_⟩
              replace h : EV F f 66 z66 49 [some (rf 4 (0)), some (rf 7 (c1)), some (.inl (c2)), some (rf 8 (i7)), some (.inl (u4)), y5, y6] [.inl (v10)] τ (.inl none, σ') := h
              replace h := ei_c h rfl rfl rfl
              rcases h with ⟨hp14, f, g, h⟩ | ⟨hp14, f, g, h⟩
              · skip
                replace hp14 : (v10).toInt ≠ (0 : Int) := ic_ne.mp hp14
                refine Or.inl ⟨hp14, ?_⟩
                replace hf := Nat.lt_trans g hf
                clear g
                replace h : EV F f 66 z66 55 [some (rf 4 (0)), some (rf 7 (c1)), some (.inl (c2)), some (rf 8 (i7)), some (.inl (u4)), y5, y6] [] τ (.inl none, σ') := h
                replace h := ei_p h rfl rfl rfl rfl
                obtain ⟨f, g, h⟩ := h
                replace hf := Nat.lt_trans g hf
                clear g
                replace h : EV F f 66 z66 56 [some (rf 4 (0)), some (rf 7 (c1)), some (.inl (c2)), some (rf 8 (i7)), some (.inl (u4)), y5, y6] [rf 4 (0)] τ (.inl none, σ') := h
                replace h := ei_get h rfl (HS_g4_0 hsτ)
                obtain ⟨f, g, h⟩ := h
                replace hf := Nat.lt_trans g hf
                clear g
                replace h : EV F f 66 z66 59 [some (rf 4 (0)), some (rf 7 (c1)), some (.inl (c2)), some (rf 8 (i7)), some (.inl (u4)), y5, y6] [rf 0 (0)] τ (.inl none, σ') := h
                replace h := ei_p h rfl rfl rfl rfl
                obtain ⟨f, g, h⟩ := h
                replace hf := Nat.lt_trans g hf
                clear g
                replace h : EV F f 66 z66 60 [some (rf 4 (0)), some (rf 7 (c1)), some (.inl (c2)), some (rf 8 (i7)), some (.inl (u4)), y5, y6] [rf 7 (c1), rf 0 (0)] τ (.inl none, σ') := h
                replace h := ei_get h rfl rfl
                obtain ⟨f, g, h⟩ := h
                replace hf := Nat.lt_trans g hf
                clear g
                replace h : EV F f 66 z66 63 [some (rf 4 (0)), some (rf 7 (c1)), some (.inl (c2)), some (rf 8 (i7)), some (.inl (u4)), y5, y6] [.inl (m_i τ 7 (c1) 2), rf 0 (0)] τ (.inl none, σ') := h
                replace h := ei_p h rfl rfl rfl rfl
                obtain ⟨f, g, h⟩ := h
                replace hf := Nat.lt_trans g hf
                clear g
                replace h : EV F f 66 z66 64 [some (rf 4 (0)), some (rf 7 (c1)), some (.inl (c2)), some (rf 8 (i7)), some (.inl (u4)), y5, y6] [.inl (Int32.ofInt 1), .inl (m_i τ 7 (c1) 2), rf 0 (0)] τ (.inl none, σ') := h
                replace h := ei_p h rfl rfl rfl rfl
                obtain ⟨f, g, h⟩ := h
                replace hf := Nat.lt_trans g hf
                clear g
                replace h : EV F f 66 z66 65 [some (rf 4 (0)), some (rf 7 (c1)), some (.inl (c2)), some (rf 8 (i7)), some (.inl (u4)), y5, y6] [rf 7 (c1), .inl (Int32.ofInt 1), .inl (m_i τ 7 (c1) 2), rf 0 (0)] τ (.inl none, σ') := h
                replace h := ei_get h rfl rfl
                obtain ⟨f, g, h⟩ := h
                replace hf := Nat.lt_trans g hf
                clear g
                replace h : EV F f 66 z66 68 [some (rf 4 (0)), some (rf 7 (c1)), some (.inl (c2)), some (rf 8 (i7)), some (.inl (u4)), y5, y6] [.inl (m_i τ 7 (c1) 3), .inl (Int32.ofInt 1), .inl (m_i τ 7 (c1) 2), rf 0 (0)] τ (.inl none, σ') := h
                replace h := ei_p h rfl rfl rfl rfl
                obtain ⟨f, g, h⟩ := h
                replace hf := Nat.lt_trans g hf
                clear g
                replace h : EV F f 66 z66 69 [some (rf 4 (0)), some (rf 7 (c1)), some (.inl (c2)), some (rf 8 (i7)), some (.inl (u4)), y5, y6] [.inl ((Int32.ofInt 1) - (m_i τ 7 (c1) 3)), .inl (m_i τ 7 (c1) 2), rf 0 (0)] τ (.inl none, σ') := h
                replace h := bk_R (ei_v (as := [.inl ((Int32.ofInt 1) - (m_i τ 7 (c1) 3)), .inl (m_i τ 7 (c1) 2)]) h rfl rfl rfl) rfl z6_at rfl
                obtain ⟨v15, σ16, r17, f, g, h⟩ := h
                replace hf := Nat.lt_trans g hf
                clear g
                have er17 := ro_run rfl r17
                rw [er17] at h r17
                have p18 := x6 hsτ r17
                refine ⟨v15, p18, ?_⟩
                replace h : EV F f 66 z66 72 [some (rf 4 (0)), some (rf 7 (c1)), some (.inl (c2)), some (rf 8 (i7)), some (.inl (u4)), y5, y6] [.inr (.inr (v15))] τ (.inl none, σ') := h
                replace h := ei_p h rfl rfl rfl rfl
                obtain ⟨f, g, h⟩ := h
                replace hf := Nat.lt_trans g hf
                clear g
                replace h : EV F f 66 z66 74 [some (rf 4 (0)), some (rf 7 (c1)), some (.inl (c2)), some (rf 8 (i7)), some (.inl (u4)), some (.inr (.inr (v15))), y6] [] τ (.inl none, σ') := h
                replace h := ei_p h rfl rfl rfl rfl
                obtain ⟨f, g, h⟩ := h
                replace hf := Nat.lt_trans g hf
                clear g
                replace h : EV F f 66 z66 76 [some (rf 4 (0)), some (rf 7 (c1)), some (.inl (c2)), some (rf 8 (i7)), some (.inl (u4)), some (.inr (.inr (v15))), y6] [.inr (.inr (v15))] τ (.inl none, σ') := h
                rcases r_cs (v15) with e19 | ⟨q20, e19⟩
                · skip
                  rw [e19] at h
                  refine Or.inl ⟨e19, ?_⟩
                  replace h : EV F f 66 z66 76 [some (rf 4 (0)), some (rf 7 (c1)), some (.inl (c2)), some (rf 8 (i7)), some (.inl (u4)), some (.inr (.inr none)), y6] [.inr (.inr none)] τ (.inl none, σ') := h
                  replace h := ei_c h rfl rfl rfl
                  rcases h with ⟨hp21, f, g, h⟩ | ⟨hp21, f, g, h⟩
                  · skip
                    replace hf := Nat.lt_trans g hf
                    clear g
                    replace h : EV F f 66 z66 186 [some (rf 4 (0)), some (rf 7 (c1)), some (.inl (c2)), some (rf 8 (i7)), some (.inl (u4)), some (.inr (.inr none)), y6] [] τ (.inl none, σ') := h
                    exact j66_186 hsτ h
                  · exact absurd rfl hp21
                · skip
                  rw [e19] at h
                  refine Or.inr ⟨q20, e19, ?_⟩
                  replace h : EV F f 66 z66 76 [some (rf 4 (0)), some (rf 7 (c1)), some (.inl (c2)), some (rf 8 (i7)), some (.inl (u4)), some (.inr (.inr (some q20))), y6] [.inr (.inr (some q20))] τ (.inl none, σ') := h
                  replace h := ei_c h rfl rfl rfl
                  rcases h with ⟨hp22, f, g, h⟩ | ⟨hp22, f, g, h⟩
                  · exact absurd hp22 (fun z => by cases z)
                  · skip
                    replace hf := Nat.lt_trans g hf
                    clear g
                    replace h : EV F f 66 z66 79 [some (rf 4 (0)), some (rf 7 (c1)), some (.inl (c2)), some (rf 8 (i7)), some (.inl (u4)), some (.inr (.inr (some q20))), y6] [] τ (.inl none, σ') := h
                    replace h := ei_p h rfl rfl rfl rfl
                    obtain ⟨f, g, h⟩ := h
                    replace hf := Nat.lt_trans g hf
                    clear g
                    replace h : EV F f 66 z66 81 [some (rf 4 (0)), some (rf 7 (c1)), some (.inl (c2)), some (rf 8 (i7)), some (.inl (u4)), some (.inr (.inr (some q20))), y6] [.inr (.inr (some q20))] τ (.inl none, σ') := h
                    replace h := ei_p h rfl rfl rfl rfl
                    obtain ⟨f, g, h⟩ := h
                    replace hf := Nat.lt_trans g hf
                    clear g
                    replace h : EV F f 66 z66 82 [some (rf 4 (0)), some (rf 7 (c1)), some (.inl (c2)), some (rf 8 (i7)), some (.inl (u4)), some (.inr (.inr (some q20))), y6] [rf 7 (c1), .inr (.inr (some q20))] τ (.inl none, σ') := h
                    replace h := ei_get h rfl rfl
                    obtain ⟨f, g, h⟩ := h
                    replace hf := Nat.lt_trans g hf
                    clear g
                    replace h : EV F f 66 z66 85 [some (rf 4 (0)), some (rf 7 (c1)), some (.inl (c2)), some (rf 8 (i7)), some (.inl (u4)), some (.inr (.inr (some q20))), y6] [.inl (m_i τ 7 (c1) 4), .inr (.inr (some q20))] τ (.inl none, σ') := h
                    obtain ⟨i23, e24⟩ := ei_vp (as := [.inl (m_i τ 7 (c1) 4)]) h rfl rfl
                    rw [Option.some.inj e24] at h
                    refine ⟨i23, e24, ?_⟩
                    replace h : EV F f 66 z66 85 [some (rf 4 (0)), some (rf 7 (c1)), some (.inl (c2)), some (rf 8 (i7)), some (.inl (u4)), some (rf 7 (i23)), y6] [.inl (m_i τ 7 (c1) 4), rf 7 (i23)] τ (.inl none, σ') := h
                    replace h := bk_I (ei_v (as := [.inl (m_i τ 7 (c1) 4)]) h rfl rfl rfl) rfl z103_at (Or.inr rfl)
                    obtain ⟨v25, σ26, r27, f, g, h⟩ := h
                    replace hf := Nat.lt_trans g hf
                    clear g
                    have er27 := ro_run rfl r27
                    rw [er27] at h r27
                    have p28 := x103 hsτ r27
                    refine ⟨v25, p28, ?_⟩
                    replace h : EV F f 66 z66 88 [some (rf 4 (0)), some (rf 7 (c1)), some (.inl (c2)), some (rf 8 (i7)), some (.inl (u4)), some (rf 7 (i23)), y6] [.inl (v25)] τ (.inl none, σ') := h
                    replace h := ei_c h rfl rfl rfl
                    rcases h with ⟨hp29, f, g, h⟩ | ⟨hp29, f, g, h⟩
                    · skip
                      replace hp29 : (v25).toInt ≠ (0 : Int) := ic_ne.mp hp29
                      refine Or.inl ⟨hp29, ?_⟩
                      replace hf := Nat.lt_trans g hf
                      clear g
                      replace h : EV F f 66 z66 94 [some (rf 4 (0)), some (rf 7 (c1)), some (.inl (c2)), some (rf 8 (i7)), some (.inl (u4)), some (rf 7 (i23)), y6] [] τ (.inl none, σ') := h
                      replace h := ei_p h rfl rfl rfl rfl
                      obtain ⟨f, g, h⟩ := h
                      replace hf := Nat.lt_trans g hf
                      clear g
                      replace h : EV F f 66 z66 96 [some (rf 4 (0)), some (rf 7 (c1)), some (.inl (c2)), some (rf 8 (i7)), some (.inl (u4)), some (rf 7 (i23)), y6] [rf 7 (i23)] τ (.inl none, σ') := h
                      replace h := ei_get h rfl rfl
                      obtain ⟨f, g, h⟩ := h
                      replace hf := Nat.lt_trans g hf
                      clear g
                      replace h : EV F f 66 z66 99 [some (rf 4 (0)), some (rf 7 (c1)), some (.inl (c2)), some (rf 8 (i7)), some (.inl (u4)), some (rf 7 (i23)), y6] [.inl (m_i τ 7 (i23) 1)] τ (.inl none, σ') := h
                      replace h := ei_p h rfl rfl rfl rfl
                      obtain ⟨f, g, h⟩ := h
                      replace hf := Nat.lt_trans g hf
                      clear g
                      replace h : EV F f 66 z66 100 [some (rf 4 (0)), some (rf 7 (c1)), some (.inl (c2)), some (rf 8 (i7)), some (.inl (u4)), some (rf 7 (i23)), y6] [rf 7 (c1), .inl (m_i τ 7 (i23) 1)] τ (.inl none, σ') := h
                      replace h := ei_get h rfl rfl
                      obtain ⟨f, g, h⟩ := h
                      replace hf := Nat.lt_trans g hf
                      clear g
                      replace h : EV F f 66 z66 103 [some (rf 4 (0)), some (rf 7 (c1)), some (.inl (c2)), some (rf 8 (i7)), some (.inl (u4)), some (rf 7 (i23)), y6] [.inl (m_i τ 7 (c1) 1), .inl (m_i τ 7 (i23) 1)] τ (.inl none, σ') := h
                      replace h := ei_c h rfl rfl rfl
                      rcases h with ⟨hp30, f, g, h⟩ | ⟨hp30, f, g, h⟩
                      · skip
                        replace hp30 : (m_i τ 7 (i23) 1).toInt ≠ (m_i τ 7 (c1) 1).toInt := ic_ne.mp hp30
                        refine Or.inl ⟨hp30, ?_⟩
                        replace hf := Nat.lt_trans g hf
                        clear g
                        replace h : EV F f 66 z66 114 [some (rf 4 (0)), some (rf 7 (c1)), some (.inl (c2)), some (rf 8 (i7)), some (.inl (u4)), some (rf 7 (i23)), y6] [] τ (.inl none, σ') := h
                        replace h := ei_p h rfl rfl rfl rfl
                        obtain ⟨f, g, h⟩ := h
                        replace hf := Nat.lt_trans g hf
                        clear g
                        replace h : EV F f 66 z66 115 [some (rf 4 (0)), some (rf 7 (c1)), some (.inl (c2)), some (rf 8 (i7)), some (.inl (u4)), some (rf 7 (i23)), y6] [rf 8 (i7)] τ (.inl none, σ') := h
                        replace h := ei_p h rfl rfl rfl rfl
                        obtain ⟨f, g, h⟩ := h
                        replace hf := Nat.lt_trans g hf
                        clear g
                        replace h : EV F f 66 z66 117 [some (rf 4 (0)), some (rf 7 (c1)), some (.inl (c2)), some (rf 8 (i7)), some (.inl (u4)), some (rf 7 (i23)), y6] [rf 7 (i23), rf 8 (i7)] τ (.inl none, σ') := h
                        replace h := ei_get h rfl rfl
                        obtain ⟨f, g, h⟩ := h
                        replace hf := Nat.lt_trans g hf
                        clear g
                        replace h : EV F f 66 z66 120 [some (rf 4 (0)), some (rf 7 (c1)), some (.inl (c2)), some (rf 8 (i7)), some (.inl (u4)), some (rf 7 (i23)), y6] [.inl (m_i τ 7 (i23) 4), rf 8 (i7)] τ (.inl none, σ') := h
                        replace h := bk_I (ei_v (as := [.inl (m_i τ 7 (i23) 4)]) h rfl rfl rfl) rfl z113_at (Or.inr rfl)
                        obtain ⟨v31, σ32, r33, f, g, h⟩ := h
                        replace hf := Nat.lt_trans g hf
                        clear g
                        have er33 := ro_run rfl r33
                        rw [er33] at h r33
                        have p34 := x113 hsτ r33
                        refine ⟨v31, p34, ?_⟩
                        replace h : EV F f 66 z66 123 [some (rf 4 (0)), some (rf 7 (c1)), some (.inl (c2)), some (rf 8 (i7)), some (.inl (u4)), some (rf 7 (i23)), y6] [.inl (v31)] τ (.inl none, σ') := h
                        replace h := ei_c h rfl rfl rfl
                        rcases h with ⟨hp35, f, g, h⟩ | ⟨hp35, f, g, h⟩
                        · skip
                          replace hp35 : (v31).toInt = (0 : Int) := ic_eq.mp hp35
                          refine Or.inl ⟨hp35, ?_⟩
                          replace hf := Nat.lt_trans g hf
                          clear g
                          replace h : EV F f 66 z66 134 [some (rf 4 (0)), some (rf 7 (c1)), some (.inl (c2)), some (rf 8 (i7)), some (.inl (u4)), some (rf 7 (i23)), y6] [] τ (.inl none, σ') := h
                          replace h := ei_p h rfl rfl rfl rfl
                          obtain ⟨f, g, h⟩ := h
                          replace hf := Nat.lt_trans g hf
                          clear g
                          replace h : EV F f 66 z66 135 [some (rf 4 (0)), some (rf 7 (c1)), some (.inl (c2)), some (rf 8 (i7)), some (.inl (u4)), some (rf 7 (i23)), y6] [rf 7 (c1)] τ (.inl none, σ') := h
                          replace h := ei_get h rfl rfl
                          obtain ⟨f, g, h⟩ := h
                          replace hf := Nat.lt_trans g hf
                          clear g
                          replace h : EV F f 66 z66 138 [some (rf 4 (0)), some (rf 7 (c1)), some (.inl (c2)), some (rf 8 (i7)), some (.inl (u4)), some (rf 7 (i23)), y6] [.inl (m_i τ 7 (c1) 6)] τ (.inl none, σ') := h
                          replace h := ei_p h rfl rfl rfl rfl
                          obtain ⟨f, g, h⟩ := h
                          replace hf := Nat.lt_trans g hf
                          clear g
                          replace h : EV F f 66 z66 140 [some (rf 4 (0)), some (rf 7 (c1)), some (.inl (c2)), some (rf 8 (i7)), some (.inl (u4)), some (rf 7 (i23)), y6] [rf 7 (i23), .inl (m_i τ 7 (c1) 6)] τ (.inl none, σ') := h
                          replace h := ei_get h rfl rfl
                          obtain ⟨f, g, h⟩ := h
                          replace hf := Nat.lt_trans g hf
                          clear g
                          replace h : EV F f 66 z66 143 [some (rf 4 (0)), some (rf 7 (c1)), some (.inl (c2)), some (rf 8 (i7)), some (.inl (u4)), some (rf 7 (i23)), y6] [.inl (m_i τ 7 (i23) 7), .inl (m_i τ 7 (c1) 6)] τ (.inl none, σ') := h
                          replace h := ei_m (st' := [.inl (jmin (m_i τ 7 (c1) 6) (m_i τ 7 (i23) 7))]) h rfl (Nat.le_of_ble_eq_true rfl) (fun w hw => (Option.some.inj (ev_if_some.mp hw).2).symm)
                          obtain ⟨f, g, h⟩ := h
                          replace hf := Nat.lt_trans g hf
                          clear g
                          replace h : EV F f 66 z66 146 [some (rf 4 (0)), some (rf 7 (c1)), some (.inl (c2)), some (rf 8 (i7)), some (.inl (u4)), some (rf 7 (i23)), y6] [.inl (jmin (m_i τ 7 (c1) 6) (m_i τ 7 (i23) 7))] τ (.inl none, σ') := h
                          replace h := ei_p h rfl rfl rfl rfl
                          obtain ⟨f, g, h⟩ := h
                          replace hf := Nat.lt_trans g hf
                          clear g
                          replace h : EV F f 66 z66 148 [some (rf 4 (0)), some (rf 7 (c1)), some (.inl (c2)), some (rf 8 (i7)), some (.inl (u4)), some (rf 7 (i23)), some (.inl (jmin (m_i τ 7 (c1) 6) (m_i τ 7 (i23) 7)))] [] τ (.inl none, σ') := h
                          obtain ⟨n36, e37⟩ : ∃ s, s = jmin (m_i τ 7 (c1) 6) (m_i τ 7 (i23) 7) := ⟨_, rfl⟩
                          rw [← e37] at h
                          refine ⟨n36, e37, ?_⟩
                          replace h : EV F f 66 z66 148 [some (rf 4 (0)), some (rf 7 (c1)), some (.inl (c2)), some (rf 8 (i7)), some (.inl (u4)), some (rf 7 (i23)), some (.inl (n36))] [] τ (.inl none, σ') := h
                          replace h := ei_p h rfl rfl rfl rfl
                          obtain ⟨f, g, h⟩ := h
                          replace hf := Nat.lt_trans g hf
                          clear g
                          replace h : EV F f 66 z66 149 [some (rf 4 (0)), some (rf 7 (c1)), some (.inl (c2)), some (rf 8 (i7)), some (.inl (u4)), some (rf 7 (i23)), some (.inl (n36))] [rf 4 (0)] τ (.inl none, σ') := h
                          replace h := ei_p h rfl rfl rfl rfl
                          obtain ⟨f, g, h⟩ := h
                          replace hf := Nat.lt_trans g hf
                          clear g
                          replace h : EV F f 66 z66 150 [some (rf 4 (0)), some (rf 7 (c1)), some (.inl (c2)), some (rf 8 (i7)), some (.inl (u4)), some (rf 7 (i23)), some (.inl (n36))] [rf 7 (c1), rf 4 (0)] τ (.inl none, σ') := h
                          replace h := ei_p h rfl rfl rfl rfl
                          obtain ⟨f, g, h⟩ := h
                          replace hf := Nat.lt_trans g hf
                          clear g
                          replace h : EV F f 66 z66 152 [some (rf 4 (0)), some (rf 7 (c1)), some (.inl (c2)), some (rf 8 (i7)), some (.inl (u4)), some (rf 7 (i23)), some (.inl (n36))] [rf 7 (i23), rf 7 (c1), rf 4 (0)] τ (.inl none, σ') := h
                          replace h := ei_p h rfl rfl rfl rfl
                          obtain ⟨f, g, h⟩ := h
                          replace hf := Nat.lt_trans g hf
                          clear g
                          replace h : EV F f 66 z66 153 [some (rf 4 (0)), some (rf 7 (c1)), some (.inl (c2)), some (rf 8 (i7)), some (.inl (u4)), some (rf 7 (i23)), some (.inl (n36))] [rf 8 (i7), rf 7 (i23), rf 7 (c1), rf 4 (0)] τ (.inl none, σ') := h
                          replace h := ei_p h rfl rfl rfl rfl
                          obtain ⟨f, g, h⟩ := h
                          replace hf := Nat.lt_trans g hf
                          clear g
                          replace h : EV F f 66 z66 155 [some (rf 4 (0)), some (rf 7 (c1)), some (.inl (c2)), some (rf 8 (i7)), some (.inl (u4)), some (rf 7 (i23)), some (.inl (n36))] [.inl (n36), rf 8 (i7), rf 7 (i23), rf 7 (c1), rf 4 (0)] τ (.inl none, σ') := h
                          replace h := bk_0 (ei_v (as := [.inl (n36), rf 8 (i7), rf 7 (i23), rf 7 (c1)]) h rfl rfl rfl) rfl z67_at rfl
                          obtain ⟨σ39, r40, f, g, h⟩ := h
                          replace hf := Nat.lt_trans g hf
                          clear g
                          have p41 := x67 hsτ r40
                          have hsσ39 : HS σ39 := HS_run rfl r40 hsτ
                          refine ⟨σ39, fw_run W67 rfl r40, p41, ?_⟩
                          replace h : EV F f 66 z66 158 [some (rf 4 (0)), some (rf 7 (c1)), some (.inl (c2)), some (rf 8 (i7)), some (.inl (u4)), some (rf 7 (i23)), some (.inl (n36))] [] σ39 (.inl none, σ') := h
                          replace h := ei_p h rfl rfl rfl rfl
                          obtain ⟨f, g, h⟩ := h
                          replace hf := Nat.lt_trans g hf
                          clear g
                          replace h : EV F f 66 z66 159 [some (rf 4 (0)), some (rf 7 (c1)), some (.inl (c2)), some (rf 8 (i7)), some (.inl (u4)), some (rf 7 (i23)), some (.inl (n36))] [rf 7 (c1)] σ39 (.inl none, σ') := h
                          replace h := ei_p h rfl rfl rfl rfl
                          obtain ⟨f, g, h⟩ := h
                          replace hf := Nat.lt_trans g hf
                          clear g
                          replace h : EV F f 66 z66 160 [some (rf 4 (0)), some (rf 7 (c1)), some (.inl (c2)), some (rf 8 (i7)), some (.inl (u4)), some (rf 7 (i23)), some (.inl (n36))] [rf 7 (c1), rf 7 (c1)] σ39 (.inl none, σ') := h
                          replace h := ei_get h rfl rfl
                          obtain ⟨f, g, h⟩ := h
                          replace hf := Nat.lt_trans g hf
                          clear g
                          replace h : EV F f 66 z66 163 [some (rf 4 (0)), some (rf 7 (c1)), some (.inl (c2)), some (rf 8 (i7)), some (.inl (u4)), some (rf 7 (i23)), some (.inl (n36))] [.inl (m_i σ39 7 (c1) 6), rf 7 (c1)] σ39 (.inl none, σ') := h
                          replace h := ei_p h rfl rfl rfl rfl
                          obtain ⟨f, g, h⟩ := h
                          replace hf := Nat.lt_trans g hf
                          clear g
                          replace h : EV F f 66 z66 165 [some (rf 4 (0)), some (rf 7 (c1)), some (.inl (c2)), some (rf 8 (i7)), some (.inl (u4)), some (rf 7 (i23)), some (.inl (n36))] [.inl (n36), .inl (m_i σ39 7 (c1) 6), rf 7 (c1)] σ39 (.inl none, σ') := h
                          replace h := ei_p h rfl rfl rfl rfl
                          obtain ⟨f, g, h⟩ := h
                          replace hf := Nat.lt_trans g hf
                          clear g
                          replace h : EV F f 66 z66 166 [some (rf 4 (0)), some (rf 7 (c1)), some (.inl (c2)), some (rf 8 (i7)), some (.inl (u4)), some (rf 7 (i23)), some (.inl (n36))] [.inl ((m_i σ39 7 (c1) 6) - (n36)), rf 7 (c1)] σ39 (.inl none, σ') := h
                          replace h := ei_put h rfl
                          obtain ⟨ht42, f, g, h⟩ := h
                          replace hf := Nat.lt_trans g hf
                          clear g
                          obtain ⟨σ43, e44⟩ : ∃ s, s = m_set σ39 7 (c1) (6) (.inl ((m_i σ39 7 (c1) 6) - (n36))) := ⟨_, rfl⟩
                          rw [← e44] at h
                          have hsσ43 : HS σ43 := by rw [e44]; exact HS_set hsσ39 rfl
                          refine ⟨σ43, e44, ?_⟩
                          replace h : EV F f 66 z66 169 [some (rf 4 (0)), some (rf 7 (c1)), some (.inl (c2)), some (rf 8 (i7)), some (.inl (u4)), some (rf 7 (i23)), some (.inl (n36))] [] σ43 (.inl none, σ') := h
                          replace h := ei_p h rfl rfl rfl rfl
                          obtain ⟨f, g, h⟩ := h
                          replace hf := Nat.lt_trans g hf
                          clear g
                          replace h : EV F f 66 z66 170 [some (rf 4 (0)), some (rf 7 (c1)), some (.inl (c2)), some (rf 8 (i7)), some (.inl (u4)), some (rf 7 (i23)), some (.inl (n36))] [rf 4 (0)] σ43 (.inl none, σ') := h
                          replace h := ei_get h rfl (HS_g4_0 hsσ43)
                          obtain ⟨f, g, h⟩ := h
                          replace hf := Nat.lt_trans g hf
                          clear g
                          replace h : EV F f 66 z66 173 [some (rf 4 (0)), some (rf 7 (c1)), some (.inl (c2)), some (rf 8 (i7)), some (.inl (u4)), some (rf 7 (i23)), some (.inl (n36))] [rf 0 (0)] σ43 (.inl none, σ') := h
                          replace h := ei_p h rfl rfl rfl rfl
                          obtain ⟨f, g, h⟩ := h
                          replace hf := Nat.lt_trans g hf
                          clear g
                          replace h : EV F f 66 z66 175 [some (rf 4 (0)), some (rf 7 (c1)), some (.inl (c2)), some (rf 8 (i7)), some (.inl (u4)), some (rf 7 (i23)), some (.inl (n36))] [rf 7 (i23), rf 0 (0)] σ43 (.inl none, σ') := h
                          replace h := ei_p h rfl rfl rfl rfl
                          obtain ⟨f, g, h⟩ := h
                          replace hf := Nat.lt_trans g hf
                          clear g
                          replace h : EV F f 66 z66 177 [some (rf 4 (0)), some (rf 7 (c1)), some (.inl (c2)), some (rf 8 (i7)), some (.inl (u4)), some (rf 7 (i23)), some (.inl (n36))] [.inl (n36), rf 7 (i23), rf 0 (0)] σ43 (.inl none, σ') := h
                          replace h := bk_0 (ei_v (as := [.inl (n36), rf 7 (i23)]) h rfl rfl rfl) rfl z12_at rfl
                          obtain ⟨σ46, r47, f, g, h⟩ := h
                          replace hf := Nat.lt_trans g hf
                          clear g
                          have p48 := x12 hsσ43 r47
                          have hsσ46 : HS σ46 := HS_run rfl r47 hsσ43
                          refine ⟨σ46, fw_run W12 rfl r47, p48, ?_⟩
                          replace h : EV F f 66 z66 180 [some (rf 4 (0)), some (rf 7 (c1)), some (.inl (c2)), some (rf 8 (i7)), some (.inl (u4)), some (rf 7 (i23)), some (.inl (n36))] [] σ46 (.inl none, σ') := h
                          replace h := ei_p h rfl rfl rfl rfl
                          obtain ⟨f, g, h⟩ := h
                          replace hf := Nat.lt_trans g hf
                          clear g
                          replace h : EV F f 66 z66 183 [some (rf 4 (0)), some (rf 7 (c1)), some (.inl (c2)), some (rf 8 (i7)), some (.inl ((u4) + Int32.ofInt 1)), some (rf 7 (i23)), some (.inl (n36))] [] σ46 (.inl none, σ') := h
                          replace h := ei_p h rfl rfl rfl rfl
                          obtain ⟨f, g, h⟩ := h
                          replace hf := Nat.lt_trans g hf
                          clear g
                          replace h : EV F f 66 z66 15 [some (rf 4 (0)), some (rf 7 (c1)), some (.inl (c2)), some (rf 8 (i7)), some (.inl ((u4) + Int32.ofInt 1)), some (rf 7 (i23)), some (.inl (n36))] [] σ46 (.inl none, σ') := h
                          exact IH f hf ((u4) + Int32.ofInt 1) (some (rf 7 (i23))) (some (.inl (n36))) σ46 hsσ46 (by rw [e3, e8]; exact h)
                        · skip
                          replace hp35 : ¬ ((v31).toInt = (0 : Int)) := (not_congr ic_eq).mp hp35
                          refine Or.inr ⟨hp35, ?_⟩
                          replace hf := Nat.lt_trans g hf
                          clear g
                          replace h : EV F f 66 z66 126 [some (rf 4 (0)), some (rf 7 (c1)), some (.inl (c2)), some (rf 8 (i7)), some (.inl (u4)), some (rf 7 (i23)), y6] [] τ (.inl none, σ') := h
                          replace h := ei_p h rfl rfl rfl rfl
                          obtain ⟨f, g, h⟩ := h
                          replace hf := Nat.lt_trans g hf
                          clear g
                          replace h : EV F f 66 z66 127 [some (rf 4 (0)), some (rf 7 (c1)), some (.inl (c2)), some (rf 8 (i7)), some (.inl (u4)), some (rf 7 (i23)), y6] [rf 8 (i7)] τ (.inl none, σ') := h
                          replace h := ei_p h rfl rfl rfl rfl
                          obtain ⟨f, g, h⟩ := h
                          replace hf := Nat.lt_trans g hf
                          clear g
                          replace h : EV F f 66 z66 128 [some (rf 4 (0)), some (rf 7 (c1)), some (.inl (c2)), some (rf 8 (i7)), some (.inl (u4)), some (rf 7 (i23)), y6] [.inl (Int32.ofInt 1), rf 8 (i7)] τ (.inl none, σ') := h
                          replace h := ei_put h rfl
                          obtain ⟨ht49, f, g, h⟩ := h
                          replace hf := Nat.lt_trans g hf
                          clear g
                          obtain ⟨σ50, e51⟩ : ∃ s, s = m_set τ 8 (i7) (1) (.inl (Int32.ofInt 1)) := ⟨_, rfl⟩
                          rw [← e51] at h
                          have hsσ50 : HS σ50 := by rw [e51]; exact HS_set hsτ rfl
                          refine ⟨σ50, e51, ?_⟩
                          replace h : EV F f 66 z66 131 [some (rf 4 (0)), some (rf 7 (c1)), some (.inl (c2)), some (rf 8 (i7)), some (.inl (u4)), some (rf 7 (i23)), y6] [] σ50 (.inl none, σ') := h
                          replace h := ei_p h rfl rfl rfl rfl
                          obtain ⟨f, g, h⟩ := h
                          replace hf := Nat.lt_trans g hf
                          clear g
                          replace h : EV F f 66 z66 180 [some (rf 4 (0)), some (rf 7 (c1)), some (.inl (c2)), some (rf 8 (i7)), some (.inl (u4)), some (rf 7 (i23)), y6] [] σ50 (.inl none, σ') := h
                          replace h := ei_p h rfl rfl rfl rfl
                          obtain ⟨f, g, h⟩ := h
                          replace hf := Nat.lt_trans g hf
                          clear g
                          replace h : EV F f 66 z66 183 [some (rf 4 (0)), some (rf 7 (c1)), some (.inl (c2)), some (rf 8 (i7)), some (.inl ((u4) + Int32.ofInt 1)), some (rf 7 (i23)), y6] [] σ50 (.inl none, σ') := h
                          replace h := ei_p h rfl rfl rfl rfl
                          obtain ⟨f, g, h⟩ := h
                          replace hf := Nat.lt_trans g hf
                          clear g
                          replace h : EV F f 66 z66 15 [some (rf 4 (0)), some (rf 7 (c1)), some (.inl (c2)), some (rf 8 (i7)), some (.inl ((u4) + Int32.ofInt 1)), some (rf 7 (i23)), y6] [] σ50 (.inl none, σ') := h
                          exact IH f hf ((u4) + Int32.ofInt 1) (some (rf 7 (i23))) y6 σ50 hsσ50 (by rw [e3, e8]; exact h)
                      · skip
                        replace hp30 : ¬ ((m_i τ 7 (i23) 1).toInt ≠ (m_i τ 7 (c1) 1).toInt) := (not_congr ic_ne).mp hp30
                        refine Or.inr ⟨hp30, ?_⟩
                        replace hf := Nat.lt_trans g hf
                        clear g
                        replace h : EV F f 66 z66 106 [some (rf 4 (0)), some (rf 7 (c1)), some (.inl (c2)), some (rf 8 (i7)), some (.inl (u4)), some (rf 7 (i23)), y6] [] τ (.inl none, σ') := h
                        replace h := ei_p h rfl rfl rfl rfl
                        obtain ⟨f, g, h⟩ := h
                        replace hf := Nat.lt_trans g hf
                        clear g
                        replace h : EV F f 66 z66 108 [some (rf 4 (0)), some (rf 7 (c1)), some (.inl (c2)), some (rf 8 (i7)), some (.inl (u4)), some (rf 7 (i23)), y6] [rf 7 (i23)] τ (.inl none, σ') := h
                        replace h := bk_0 (ei_v (as := []) h rfl rfl rfl) rfl z106_at rfl
                        obtain ⟨σ53, r54, f, g, h⟩ := h
                        replace hf := Nat.lt_trans g hf
                        clear g
                        have p55 := x106 hsτ r54
                        have hsσ53 : HS σ53 := HS_run rfl r54 hsτ
                        refine ⟨σ53, fw_run W106 rfl r54, p55, ?_⟩
                        replace h : EV F f 66 z66 111 [some (rf 4 (0)), some (rf 7 (c1)), some (.inl (c2)), some (rf 8 (i7)), some (.inl (u4)), some (rf 7 (i23)), y6] [] σ53 (.inl none, σ') := h
                        replace h := ei_p h rfl rfl rfl rfl
                        obtain ⟨f, g, h⟩ := h
                        replace hf := Nat.lt_trans g hf
                        clear g
                        replace h : EV F f 66 z66 180 [some (rf 4 (0)), some (rf 7 (c1)), some (.inl (c2)), some (rf 8 (i7)), some (.inl (u4)), some (rf 7 (i23)), y6] [] σ53 (.inl none, σ') := h
                        replace h := ei_p h rfl rfl rfl rfl
                        obtain ⟨f, g, h⟩ := h
                        replace hf := Nat.lt_trans g hf
                        clear g
                        replace h : EV F f 66 z66 183 [some (rf 4 (0)), some (rf 7 (c1)), some (.inl (c2)), some (rf 8 (i7)), some (.inl ((u4) + Int32.ofInt 1)), some (rf 7 (i23)), y6] [] σ53 (.inl none, σ') := h
                        replace h := ei_p h rfl rfl rfl rfl
                        obtain ⟨f, g, h⟩ := h
                        replace hf := Nat.lt_trans g hf
                        clear g
                        replace h : EV F f 66 z66 15 [some (rf 4 (0)), some (rf 7 (c1)), some (.inl (c2)), some (rf 8 (i7)), some (.inl ((u4) + Int32.ofInt 1)), some (rf 7 (i23)), y6] [] σ53 (.inl none, σ') := h
                        exact IH f hf ((u4) + Int32.ofInt 1) (some (rf 7 (i23))) y6 σ53 hsσ53 (by rw [e3, e8]; exact h)
                    · skip
                      replace hp29 : ¬ ((v25).toInt ≠ (0 : Int)) := (not_congr ic_ne).mp hp29
                      refine Or.inr ⟨hp29, ?_⟩
                      replace hf := Nat.lt_trans g hf
                      clear g
                      replace h : EV F f 66 z66 91 [some (rf 4 (0)), some (rf 7 (c1)), some (.inl (c2)), some (rf 8 (i7)), some (.inl (u4)), some (rf 7 (i23)), y6] [] τ (.inl none, σ') := h
                      replace h := ei_p h rfl rfl rfl rfl
                      obtain ⟨f, g, h⟩ := h
                      replace hf := Nat.lt_trans g hf
                      clear g
                      replace h : EV F f 66 z66 186 [some (rf 4 (0)), some (rf 7 (c1)), some (.inl (c2)), some (rf 8 (i7)), some (.inl (u4)), some (rf 7 (i23)), y6] [] τ (.inl none, σ') := h
                      exact j66_186 hsτ h
              · skip
                replace hp14 : ¬ ((v10).toInt ≠ (0 : Int)) := (not_congr ic_ne).mp hp14
                refine Or.inr ⟨hp14, ?_⟩
                replace hf := Nat.lt_trans g hf
                clear g
                replace h : EV F f 66 z66 52 [some (rf 4 (0)), some (rf 7 (c1)), some (.inl (c2)), some (rf 8 (i7)), some (.inl (u4)), y5, y6] [] τ (.inl none, σ') := h
                replace h := ei_p h rfl rfl rfl rfl
                obtain ⟨f, g, h⟩ := h
                replace hf := Nat.lt_trans g hf
                clear g
                replace h : EV F f 66 z66 186 [some (rf 4 (0)), some (rf 7 (c1)), some (.inl (c2)), some (rf 8 (i7)), some (.inl (u4)), y5, y6] [] τ (.inl none, σ') := h
                exact j66_186 hsτ h
def P66 (σ : mS) (x1 : mR) (x2 : Int32) (σ' : mS) : Prop := ∃ i1, x1 = some (7, i1) ∧ ∃ v3, P24 σ (m_i σ 7 (i1) 2) v3 ∧ ∃ n, Q66_15 (i1) (x2) (v3) n (Int32.ofInt 0) σ σ'
theorem x66 {σ σ' : mS} {x1 : mR} {x2 : Int32} (hs : HS σ) (h : ev_run sm_all 66 [rf 4 (0), .inr (.inr (x1)), .inl (x2)] σ (.inl none) σ') : P66 σ x1 x2 σ' := by
  unfold P66
  obtain ⟨F, f, h⟩ := ei_go h z66_at
  replace h : EV F f 66 z66 0 [some (rf 4 (0)), some (.inr (.inr (x1))), some (.inl (x2)), none, none, none, none] [] σ (.inl none, σ') := h
  replace h := ei_p h rfl rfl rfl rfl
  obtain ⟨f, g, h⟩ := h
  clear g
  replace h : EV F f 66 z66 1 [some (rf 4 (0)), some (.inr (.inr (x1))), some (.inl (x2)), none, none, none, none] [rf 4 (0)] σ (.inl none, σ') := h
  replace h := ei_get h rfl (HS_g4_1 hs)
  obtain ⟨f, g, h⟩ := h
  clear g
  replace h : EV F f 66 z66 4 [some (rf 4 (0)), some (.inr (.inr (x1))), some (.inl (x2)), none, none, none, none] [rf 2 (0)] σ (.inl none, σ') := h
  replace h := ei_p h rfl rfl rfl rfl
  obtain ⟨f, g, h⟩ := h
  clear g
  replace h : EV F f 66 z66 5 [some (rf 4 (0)), some (.inr (.inr (x1))), some (.inl (x2)), none, none, none, none] [.inr (.inr (x1)), rf 2 (0)] σ (.inl none, σ') := h
  obtain ⟨i1, e2⟩ := ei_gp h rfl
  rw [e2] at h
  refine ⟨i1, e2, ?_⟩
  replace h : EV F f 66 z66 5 [some (rf 4 (0)), some (rf 7 (i1)), some (.inl (x2)), none, none, none, none] [rf 7 (i1), rf 2 (0)] σ (.inl none, σ') := h
  replace h := ei_get h rfl rfl
  obtain ⟨f, g, h⟩ := h
  clear g
  replace h : EV F f 66 z66 8 [some (rf 4 (0)), some (rf 7 (i1)), some (.inl (x2)), none, none, none, none] [.inl (m_i σ 7 (i1) 2), rf 2 (0)] σ (.inl none, σ') := h
  replace h := bk_R (ei_v (as := [.inl (m_i σ 7 (i1) 2)]) h rfl rfl rfl) rfl z24_at rfl
  obtain ⟨v3, σ4, r5, f, g, h⟩ := h
  clear g
  have er5 := ro_run rfl r5
  rw [er5] at h r5
  have p6 := x24 hs r5
  refine ⟨v3, p6, ?_⟩
  replace h : EV F f 66 z66 11 [some (rf 4 (0)), some (rf 7 (i1)), some (.inl (x2)), none, none, none, none] [.inr (.inr (v3))] σ (.inl none, σ') := h
  replace h := ei_p h rfl rfl rfl rfl
  obtain ⟨f, g, h⟩ := h
  clear g
  replace h : EV F f 66 z66 12 [some (rf 4 (0)), some (rf 7 (i1)), some (.inl (x2)), some (.inr (.inr (v3))), none, none, none] [] σ (.inl none, σ') := h
  replace h := ei_p h rfl rfl rfl rfl
  obtain ⟨f, g, h⟩ := h
  clear g
  replace h : EV F f 66 z66 13 [some (rf 4 (0)), some (rf 7 (i1)), some (.inl (x2)), some (.inr (.inr (v3))), none, none, none] [.inl (Int32.ofInt 0)] σ (.inl none, σ') := h
  replace h := ei_p h rfl rfl rfl rfl
  obtain ⟨f, g, h⟩ := h
  clear g
  replace h : EV F f 66 z66 15 [some (rf 4 (0)), some (rf 7 (i1)), some (.inl (x2)), some (.inr (.inr (v3))), some (.inl (Int32.ofInt 0)), none, none] [] σ (.inl none, σ') := h
  exact ⟨f + 1, q66_15 (f + 1) f (Nat.lt_succ_self f) (Int32.ofInt 0) _ _ σ hs h⟩
def z64 : mAl := ((yX4_letOrderCome, cX4_letOrderCome, 9, (some .int), { frames := 4, cells := 0, slots := 0, locals := 113 }, []), rw_X4_letOrderCome, false)
theorem z64_at : m_alF[64]? = some z64 := rfl
abbrev L64 : List (Nat × Nat) := [(0, 1), (0, 2), (2, 5), (6, 2), (6, 5), (7, 1), (7, 2), (7, 3), (7, 4), (7, 5), (7, 6), (7, 7), (7, 8), (7, 9), (7, 10), (7, 11), (7, 12), (8, 1), (8, 2), (8, 3), (8, 7), (10, 0), (10, 1), (10, 2), (10, 3), (10, 4), (10, 5), (10, 6), (10, 7), (10, 8), (10, 9), (14, 0)]
abbrev w64 : Nat → Nat → Bool := wl L64
def S64 : List Nat := [4, 5, 6, 8, 12, 22, 24, 27, 28, 32, 64, 66, 67, 68, 91, 95, 100, 102, 103, 105, 106, 113, 114]
theorem W64 : fw_S w64 S64 = true := by decide +kernel
def J64_152 (u8 : mR) (t0 : Int32) (t1 : mR) (τ : mS) (w : Int32) (σ' : mS) : Prop := ∃ σ2, fw_e w66 τ σ2 ∧ P66 τ (t1) (t0) σ2 ∧ ∃ i5, u8 = some (7, i5) ∧ w = (m_i σ2 7 (i5) 0) ∧ σ' = σ2
theorem j64_152 {F f : Nat} {σ' τ : mS} {u8 : mR} {t0 : Int32} {t1 : mR} {y0 : Option mV} {y1 : Option mV} {y2 : Option mV} {y3 : Option mV} {y4 : Option mV} {y5 : Option mV} {y6 : Option mV} {y7 : Option mV} {w : Int32} (hsτ : HS τ) (h : EV F f 64 z64 152 [y0, y1, y2, y3, y4, y5, y6, y7, some (.inr (.inr (u8)))] [.inl (t0), .inr (.inr (t1)), rf 4 (0)] τ (.inl (some (.inl w)), σ')) : J64_152 u8 t0 t1 τ w σ' := by
  unfold J64_152
  replace h := bk_0 (ei_v (as := [.inl (t0), .inr (.inr (t1))]) h rfl rfl rfl) rfl z66_at rfl
  obtain ⟨σ2, r3, f, g, h⟩ := h
  clear g
  have p4 := x66 hsτ r3
  have hsσ2 : HS σ2 := HS_run rfl r3 hsτ
  refine ⟨σ2, fw_run W66 rfl r3, p4, ?_⟩
  replace h : EV F f 64 z64 155 [y0, y1, y2, y3, y4, y5, y6, y7, some (.inr (.inr (u8)))] [] σ2 (.inl (some (.inl w)), σ') := h
  replace h := ei_p h rfl rfl rfl rfl
  obtain ⟨f, g, h⟩ := h
  clear g
  replace h : EV F f 64 z64 157 [y0, y1, y2, y3, y4, y5, y6, y7, some (.inr (.inr (u8)))] [.inr (.inr (u8))] σ2 (.inl (some (.inl w)), σ') := h
  obtain ⟨i5, e6⟩ := ei_gp h rfl
  rw [e6] at h
  refine ⟨i5, e6, ?_⟩
  replace h : EV F f 64 z64 157 [y0, y1, y2, y3, y4, y5, y6, y7, some (rf 7 (i5))] [rf 7 (i5)] σ2 (.inl (some (.inl w)), σ') := h
  replace h := ei_get h rfl rfl
  obtain ⟨f, g, h⟩ := h
  clear g
  replace h : EV F f 64 z64 160 [y0, y1, y2, y3, y4, y5, y6, y7, some (rf 7 (i5))] [.inl (m_i σ2 7 (i5) 0)] σ2 (.inl (some (.inl w)), σ') := h
  have e := ei_iret h rfl
  cases e
  exact ⟨rfl, rfl⟩
def J64_147 (u8 : mR) (t0 : mR) (τ : mS) (w : Int32) (σ' : mS) : Prop := J64_152 (u8) (Int32.ofInt 1) (t0) τ w σ'
theorem j64_147 {F f : Nat} {σ' τ : mS} {u8 : mR} {t0 : mR} {y0 : Option mV} {y1 : Option mV} {y2 : Option mV} {y3 : Option mV} {y4 : Option mV} {y5 : Option mV} {y6 : Option mV} {y7 : Option mV} {w : Int32} (hsτ : HS τ) (h : EV F f 64 z64 147 [y0, y1, y2, y3, y4, y5, y6, y7, some (.inr (.inr (u8)))] [.inr (.inr (t0)), rf 4 (0)] τ (.inl (some (.inl w)), σ')) : J64_147 u8 t0 τ w σ' := by
  unfold J64_147
  replace h := ei_p h rfl rfl rfl rfl
  obtain ⟨f, g, h⟩ := h
  clear g
  replace h : EV F f 64 z64 148 [y0, y1, y2, y3, y4, y5, y6, y7, some (.inr (.inr (u8)))] [.inl (Int32.ofInt 1), .inr (.inr (t0)), rf 4 (0)] τ (.inl (some (.inl w)), σ') := h
  replace h := ei_p h rfl rfl rfl rfl
  obtain ⟨f, g, h⟩ := h
  clear g
  replace h : EV F f 64 z64 152 [y0, y1, y2, y3, y4, y5, y6, y7, some (.inr (.inr (u8)))] [.inl (Int32.ofInt 1), .inr (.inr (t0)), rf 4 (0)] τ (.inl (some (.inl w)), σ') := h
  exact j64_152 hsτ h
def J64_88 (u1 : mR) (u2 : Int32) (u3 : Int32) (u4 : Int32) (u5 : Int32) (u6 : Int32) (u7 : Int32) (τ : mS) (w : Int32) (σ' : mS) : Prop := ∃ v1 σ2, fw_e w4 τ σ2 ∧ P4 τ (u2) (u3) (u4) (u5) (u6) v1 σ2 ∧ ((v1 = none ∧ w = (Int32.ofInt (-1)) ∧ σ' = σ2) ∨ (∃ q6, v1 = some q6 ∧ ∃ i9, u1 = some (1, i9) ∧ ∃ i11, (some q6 : mR) = some (7, i11) ∧ ∃ σ14, σ14 = m_set σ2 7 (i11) (5) (.inl (m_i σ2 1 (i9) 6)) ∧ ∃ σ17, σ17 = m_set σ14 7 (i11) (10) (.inl (m_i σ14 2 (0) 7)) ∧ (((u7).toInt = (0 : Int) ∧ J64_147 (some (7, i11)) (some (7, i11)) σ17 w σ') ∨ (¬ ((u7).toInt = (0 : Int)) ∧ (((u7).toInt ≠ (3 : Int) ∧ J64_152 (some (7, i11)) (Int32.ofInt 0) (some (7, i11)) σ17 w σ') ∨ (¬ ((u7).toInt ≠ (3 : Int)) ∧ J64_147 (some (7, i11)) (some (7, i11)) σ17 w σ'))))))
theorem j64_88 {F f : Nat} {σ' τ : mS} {u1 : mR} {u2 : Int32} {u3 : Int32} {u4 : Int32} {u5 : Int32} {u6 : Int32} {u7 : Int32} {y8 : Option mV} {w : Int32} (hsτ : HS τ) (h : EV F f 64 z64 88 [some (rf 4 (0)), some (.inr (.inr (u1))), some (.inl (u2)), some (.inl (u3)), some (.inl (u4)), some (.inl (u5)), some (.inl (u6)), some (.inl (u7)), y8] [] τ (.inl (some (.inl w)), σ')) : J64_88 u1 u2 u3 u4 u5 u6 u7 τ w σ' := by
  unfold J64_88
  replace h := ei_p h rfl rfl rfl rfl
  obtain ⟨f, g, h⟩ := h
  clear g
  replace h : EV F f 64 z64 89 [some (rf 4 (0)), some (.inr (.inr (u1))), some (.inl (u2)), some (.inl (u3)), some (.inl (u4)), some (.inl (u5)), some (.inl (u6)), some (.inl (u7)), y8] [rf 4 (0)] τ (.inl (some (.inl w)), σ') := h
  replace h := ei_get h rfl (HS_g4_0 hsτ)
  obtain ⟨f, g, h⟩ := h
  clear g
  replace h : EV F f 64 z64 92 [some (rf 4 (0)), some (.inr (.inr (u1))), some (.inl (u2)), some (.inl (u3)), some (.inl (u4)), some (.inl (u5)), some (.inl (u6)), some (.inl (u7)), y8] [rf 0 (0)] τ (.inl (some (.inl w)), σ') := h
  replace h := ei_p h rfl rfl rfl rfl
  obtain ⟨f, g, h⟩ := h
  clear g
  replace h : EV F f 64 z64 93 [some (rf 4 (0)), some (.inr (.inr (u1))), some (.inl (u2)), some (.inl (u3)), some (.inl (u4)), some (.inl (u5)), some (.inl (u6)), some (.inl (u7)), y8] [.inl (u2), rf 0 (0)] τ (.inl (some (.inl w)), σ') := h
  replace h := ei_p h rfl rfl rfl rfl
  obtain ⟨f, g, h⟩ := h
  clear g
  replace h : EV F f 64 z64 94 [some (rf 4 (0)), some (.inr (.inr (u1))), some (.inl (u2)), some (.inl (u3)), some (.inl (u4)), some (.inl (u5)), some (.inl (u6)), some (.inl (u7)), y8] [.inl (u3), .inl (u2), rf 0 (0)] τ (.inl (some (.inl w)), σ') := h
  replace h := ei_p h rfl rfl rfl rfl
  obtain ⟨f, g, h⟩ := h
  clear g
  replace h : EV F f 64 z64 96 [some (rf 4 (0)), some (.inr (.inr (u1))), some (.inl (u2)), some (.inl (u3)), some (.inl (u4)), some (.inl (u5)), some (.inl (u6)), some (.inl (u7)), y8] [.inl (u4), .inl (u3), .inl (u2), rf 0 (0)] τ (.inl (some (.inl w)), σ') := h
  replace h := ei_p h rfl rfl rfl rfl
  obtain ⟨f, g, h⟩ := h
  clear g
  replace h : EV F f 64 z64 98 [some (rf 4 (0)), some (.inr (.inr (u1))), some (.inl (u2)), some (.inl (u3)), some (.inl (u4)), some (.inl (u5)), some (.inl (u6)), some (.inl (u7)), y8] [.inl (u5), .inl (u4), .inl (u3), .inl (u2), rf 0 (0)] τ (.inl (some (.inl w)), σ') := h
  replace h := ei_p h rfl rfl rfl rfl
  obtain ⟨f, g, h⟩ := h
  clear g
  replace h : EV F f 64 z64 100 [some (rf 4 (0)), some (.inr (.inr (u1))), some (.inl (u2)), some (.inl (u3)), some (.inl (u4)), some (.inl (u5)), some (.inl (u6)), some (.inl (u7)), y8] [.inl (u6), .inl (u5), .inl (u4), .inl (u3), .inl (u2), rf 0 (0)] τ (.inl (some (.inl w)), σ') := h
  replace h := bk_R (ei_v (as := [.inl (u6), .inl (u5), .inl (u4), .inl (u3), .inl (u2)]) h rfl rfl rfl) rfl z4_at rfl
  obtain ⟨v1, σ2, r3, f, g, h⟩ := h
  clear g
  have p4 := x4 hsτ r3
  have hsσ2 : HS σ2 := HS_run rfl r3 hsτ
  refine ⟨v1, σ2, fw_run W4 rfl r3, p4, ?_⟩
  replace h : EV F f 64 z64 103 [some (rf 4 (0)), some (.inr (.inr (u1))), some (.inl (u2)), some (.inl (u3)), some (.inl (u4)), some (.inl (u5)), some (.inl (u6)), some (.inl (u7)), y8] [.inr (.inr (v1))] σ2 (.inl (some (.inl w)), σ') := h
  replace h := ei_p h rfl rfl rfl rfl
  obtain ⟨f, g, h⟩ := h
  clear g
  replace h : EV F f 64 z64 105 [some (rf 4 (0)), some (.inr (.inr (u1))), some (.inl (u2)), some (.inl (u3)), some (.inl (u4)), some (.inl (u5)), some (.inl (u6)), some (.inl (u7)), some (.inr (.inr (v1)))] [] σ2 (.inl (some (.inl w)), σ') := h
  replace h := ei_p h rfl rfl rfl rfl
  obtain ⟨f, g, h⟩ := h
  clear g
  replace h : EV F f 64 z64 107 [some (rf 4 (0)), some (.inr (.inr (u1))), some (.inl (u2)), some (.inl (u3)), some (.inl (u4)), some (.inl (u5)), some (.inl (u6)), some (.inl (u7)), some (.inr (.inr (v1)))] [.inr (.inr (v1))] σ2 (.inl (some (.inl w)), σ') := h
  rcases r_cs (v1) with e5 | ⟨q6, e5⟩
  · skip
    rw [e5] at h
    refine Or.inl ⟨e5, ?_⟩
    replace h : EV F f 64 z64 107 [some (rf 4 (0)), some (.inr (.inr (u1))), some (.inl (u2)), some (.inl (u3)), some (.inl (u4)), some (.inl (u5)), some (.inl (u6)), some (.inl (u7)), some (.inr (.inr none))] [.inr (.inr none)] σ2 (.inl (some (.inl w)), σ') := h
    replace h := ei_c h rfl rfl rfl
    rcases h with ⟨hp7, f, g, h⟩ | ⟨hp7, f, g, h⟩
    · exact absurd rfl hp7
    · skip
      clear g
      replace h : EV F f 64 z64 110 [some (rf 4 (0)), some (.inr (.inr (u1))), some (.inl (u2)), some (.inl (u3)), some (.inl (u4)), some (.inl (u5)), some (.inl (u6)), some (.inl (u7)), some (.inr (.inr none))] [] σ2 (.inl (some (.inl w)), σ') := h
      replace h := ei_p h rfl rfl rfl rfl
      obtain ⟨f, g, h⟩ := h
      clear g
      replace h : EV F f 64 z64 111 [some (rf 4 (0)), some (.inr (.inr (u1))), some (.inl (u2)), some (.inl (u3)), some (.inl (u4)), some (.inl (u5)), some (.inl (u6)), some (.inl (u7)), some (.inr (.inr none))] [.inl (Int32.ofInt (-1))] σ2 (.inl (some (.inl w)), σ') := h
      have e := ei_iret h rfl
      cases e
      exact ⟨rfl, rfl⟩
  · skip
    rw [e5] at h
    refine Or.inr ⟨q6, e5, ?_⟩
    replace h : EV F f 64 z64 107 [some (rf 4 (0)), some (.inr (.inr (u1))), some (.inl (u2)), some (.inl (u3)), some (.inl (u4)), some (.inl (u5)), some (.inl (u6)), some (.inl (u7)), some (.inr (.inr (some q6)))] [.inr (.inr (some q6))] σ2 (.inl (some (.inl w)), σ') := h
    replace h := ei_c h rfl rfl rfl
    rcases h with ⟨hp8, f, g, h⟩ | ⟨hp8, f, g, h⟩
    · skip
      clear g
      replace h : EV F f 64 z64 112 [some (rf 4 (0)), some (.inr (.inr (u1))), some (.inl (u2)), some (.inl (u3)), some (.inl (u4)), some (.inl (u5)), some (.inl (u6)), some (.inl (u7)), some (.inr (.inr (some q6)))] [] σ2 (.inl (some (.inl w)), σ') := h
      replace h := ei_p h rfl rfl rfl rfl
      obtain ⟨f, g, h⟩ := h
      clear g
      replace h : EV F f 64 z64 114 [some (rf 4 (0)), some (.inr (.inr (u1))), some (.inl (u2)), some (.inl (u3)), some (.inl (u4)), some (.inl (u5)), some (.inl (u6)), some (.inl (u7)), some (.inr (.inr (some q6)))] [.inr (.inr (some q6))] σ2 (.inl (some (.inl w)), σ') := h
      replace h := ei_p h rfl rfl rfl rfl
      obtain ⟨f, g, h⟩ := h
      clear g
      replace h : EV F f 64 z64 115 [some (rf 4 (0)), some (.inr (.inr (u1))), some (.inl (u2)), some (.inl (u3)), some (.inl (u4)), some (.inl (u5)), some (.inl (u6)), some (.inl (u7)), some (.inr (.inr (some q6)))] [.inr (.inr (u1)), .inr (.inr (some q6))] σ2 (.inl (some (.inl w)), σ') := h
      obtain ⟨i9, e10⟩ := ei_gp h rfl
      rw [e10] at h
      refine ⟨i9, e10, ?_⟩
      replace h : EV F f 64 z64 115 [some (rf 4 (0)), some (rf 1 (i9)), some (.inl (u2)), some (.inl (u3)), some (.inl (u4)), some (.inl (u5)), some (.inl (u6)), some (.inl (u7)), some (.inr (.inr (some q6)))] [rf 1 (i9), .inr (.inr (some q6))] σ2 (.inl (some (.inl w)), σ') := h
      replace h := ei_get h rfl rfl
      obtain ⟨f, g, h⟩ := h
      clear g
      replace h : EV F f 64 z64 118 [some (rf 4 (0)), some (rf 1 (i9)), some (.inl (u2)), some (.inl (u3)), some (.inl (u4)), some (.inl (u5)), some (.inl (u6)), some (.inl (u7)), some (.inr (.inr (some q6)))] [.inl (m_i σ2 1 (i9) 6), .inr (.inr (some q6))] σ2 (.inl (some (.inl w)), σ') := h
      obtain ⟨i11, e12⟩ := ei_pp h rfl
      rw [Option.some.inj e12] at h
      refine ⟨i11, e12, ?_⟩
      replace h : EV F f 64 z64 118 [some (rf 4 (0)), some (rf 1 (i9)), some (.inl (u2)), some (.inl (u3)), some (.inl (u4)), some (.inl (u5)), some (.inl (u6)), some (.inl (u7)), some (rf 7 (i11))] [.inl (m_i σ2 1 (i9) 6), rf 7 (i11)] σ2 (.inl (some (.inl w)), σ') := h
      replace h := ei_put h rfl
      obtain ⟨ht13, f, g, h⟩ := h
      clear g
      obtain ⟨σ14, e15⟩ : ∃ s, s = m_set σ2 7 (i11) (5) (.inl (m_i σ2 1 (i9) 6)) := ⟨_, rfl⟩
      rw [← e15] at h
      have hsσ14 : HS σ14 := by rw [e15]; exact HS_set hsσ2 rfl
      refine ⟨σ14, e15, ?_⟩
      replace h : EV F f 64 z64 121 [some (rf 4 (0)), some (rf 1 (i9)), some (.inl (u2)), some (.inl (u3)), some (.inl (u4)), some (.inl (u5)), some (.inl (u6)), some (.inl (u7)), some (rf 7 (i11))] [] σ14 (.inl (some (.inl w)), σ') := h
      replace h := ei_p h rfl rfl rfl rfl
      obtain ⟨f, g, h⟩ := h
      clear g
      replace h : EV F f 64 z64 123 [some (rf 4 (0)), some (rf 1 (i9)), some (.inl (u2)), some (.inl (u3)), some (.inl (u4)), some (.inl (u5)), some (.inl (u6)), some (.inl (u7)), some (rf 7 (i11))] [rf 7 (i11)] σ14 (.inl (some (.inl w)), σ') := h
      replace h := ei_p h rfl rfl rfl rfl
      obtain ⟨f, g, h⟩ := h
      clear g
      replace h : EV F f 64 z64 124 [some (rf 4 (0)), some (rf 1 (i9)), some (.inl (u2)), some (.inl (u3)), some (.inl (u4)), some (.inl (u5)), some (.inl (u6)), some (.inl (u7)), some (rf 7 (i11))] [rf 4 (0), rf 7 (i11)] σ14 (.inl (some (.inl w)), σ') := h
      replace h := ei_get h rfl (HS_g4_1 hsσ14)
      obtain ⟨f, g, h⟩ := h
      clear g
      replace h : EV F f 64 z64 127 [some (rf 4 (0)), some (rf 1 (i9)), some (.inl (u2)), some (.inl (u3)), some (.inl (u4)), some (.inl (u5)), some (.inl (u6)), some (.inl (u7)), some (rf 7 (i11))] [rf 2 (0), rf 7 (i11)] σ14 (.inl (some (.inl w)), σ') := h
      replace h := ei_get h rfl rfl
      obtain ⟨f, g, h⟩ := h
      clear g
      replace h : EV F f 64 z64 130 [some (rf 4 (0)), some (rf 1 (i9)), some (.inl (u2)), some (.inl (u3)), some (.inl (u4)), some (.inl (u5)), some (.inl (u6)), some (.inl (u7)), some (rf 7 (i11))] [.inl (m_i σ14 2 (0) 7), rf 7 (i11)] σ14 (.inl (some (.inl w)), σ') := h
      replace h := ei_put h rfl
      obtain ⟨ht16, f, g, h⟩ := h
      clear g
      obtain ⟨σ17, e18⟩ : ∃ s, s = m_set σ14 7 (i11) (10) (.inl (m_i σ14 2 (0) 7)) := ⟨_, rfl⟩
      rw [← e18] at h
      have hsσ17 : HS σ17 := by rw [e18]; exact HS_set hsσ14 rfl
      refine ⟨σ17, e18, ?_⟩
      replace h : EV F f 64 z64 133 [some (rf 4 (0)), some (rf 1 (i9)), some (.inl (u2)), some (.inl (u3)), some (.inl (u4)), some (.inl (u5)), some (.inl (u6)), some (.inl (u7)), some (rf 7 (i11))] [] σ17 (.inl (some (.inl w)), σ') := h
      replace h := ei_p h rfl rfl rfl rfl
      obtain ⟨f, g, h⟩ := h
      clear g
      replace h : EV F f 64 z64 134 [some (rf 4 (0)), some (rf 1 (i9)), some (.inl (u2)), some (.inl (u3)), some (.inl (u4)), some (.inl (u5)), some (.inl (u6)), some (.inl (u7)), some (rf 7 (i11))] [rf 4 (0)] σ17 (.inl (some (.inl w)), σ') := h
      replace h := ei_p h rfl rfl rfl rfl
      obtain ⟨f, g, h⟩ := h
      clear g
      replace h : EV F f 64 z64 136 [some (rf 4 (0)), some (rf 1 (i9)), some (.inl (u2)), some (.inl (u3)), some (.inl (u4)), some (.inl (u5)), some (.inl (u6)), some (.inl (u7)), some (rf 7 (i11))] [rf 7 (i11), rf 4 (0)] σ17 (.inl (some (.inl w)), σ') := h
      replace h := ei_p h rfl rfl rfl rfl
      obtain ⟨f, g, h⟩ := h
      clear g
      replace h : EV F f 64 z64 138 [some (rf 4 (0)), some (rf 1 (i9)), some (.inl (u2)), some (.inl (u3)), some (.inl (u4)), some (.inl (u5)), some (.inl (u6)), some (.inl (u7)), some (rf 7 (i11))] [.inl (u7), rf 7 (i11), rf 4 (0)] σ17 (.inl (some (.inl w)), σ') := h
      replace h := ei_c h rfl rfl rfl
      rcases h with ⟨hp19, f, g, h⟩ | ⟨hp19, f, g, h⟩
      · skip
        replace hp19 : (u7).toInt = (0 : Int) := ic_eq.mp hp19
        refine Or.inl ⟨hp19, ?_⟩
        clear g
        replace h : EV F f 64 z64 147 [some (rf 4 (0)), some (rf 1 (i9)), some (.inl (u2)), some (.inl (u3)), some (.inl (u4)), some (.inl (u5)), some (.inl (u6)), some (.inl (u7)), some (rf 7 (i11))] [rf 7 (i11), rf 4 (0)] σ17 (.inl (some (.inl w)), σ') := h
        exact j64_147 hsσ17 h
      · skip
        replace hp19 : ¬ ((u7).toInt = (0 : Int)) := (not_congr ic_eq).mp hp19
        refine Or.inr ⟨hp19, ?_⟩
        clear g
        replace h : EV F f 64 z64 141 [some (rf 4 (0)), some (rf 1 (i9)), some (.inl (u2)), some (.inl (u3)), some (.inl (u4)), some (.inl (u5)), some (.inl (u6)), some (.inl (u7)), some (rf 7 (i11))] [rf 7 (i11), rf 4 (0)] σ17 (.inl (some (.inl w)), σ') := h
        replace h := ei_p h rfl rfl rfl rfl
        obtain ⟨f, g, h⟩ := h
        clear g
        replace h : EV F f 64 z64 143 [some (rf 4 (0)), some (rf 1 (i9)), some (.inl (u2)), some (.inl (u3)), some (.inl (u4)), some (.inl (u5)), some (.inl (u6)), some (.inl (u7)), some (rf 7 (i11))] [.inl (u7), rf 7 (i11), rf 4 (0)] σ17 (.inl (some (.inl w)), σ') := h
        replace h := ei_p h rfl rfl rfl rfl
        obtain ⟨f, g, h⟩ := h
        clear g
        replace h : EV F f 64 z64 144 [some (rf 4 (0)), some (rf 1 (i9)), some (.inl (u2)), some (.inl (u3)), some (.inl (u4)), some (.inl (u5)), some (.inl (u6)), some (.inl (u7)), some (rf 7 (i11))] [.inl (Int32.ofInt 3), .inl (u7), rf 7 (i11), rf 4 (0)] σ17 (.inl (some (.inl w)), σ') := h
        replace h := ei_c h rfl rfl rfl
        rcases h with ⟨hp20, f, g, h⟩ | ⟨hp20, f, g, h⟩
        · skip
          replace hp20 : (u7).toInt ≠ (3 : Int) := ic_ne.mp hp20
          refine Or.inl ⟨hp20, ?_⟩
          clear g
          replace h : EV F f 64 z64 151 [some (rf 4 (0)), some (rf 1 (i9)), some (.inl (u2)), some (.inl (u3)), some (.inl (u4)), some (.inl (u5)), some (.inl (u6)), some (.inl (u7)), some (rf 7 (i11))] [rf 7 (i11), rf 4 (0)] σ17 (.inl (some (.inl w)), σ') := h
          replace h := ei_p h rfl rfl rfl rfl
          obtain ⟨f, g, h⟩ := h
          clear g
          replace h : EV F f 64 z64 152 [some (rf 4 (0)), some (rf 1 (i9)), some (.inl (u2)), some (.inl (u3)), some (.inl (u4)), some (.inl (u5)), some (.inl (u6)), some (.inl (u7)), some (rf 7 (i11))] [.inl (Int32.ofInt 0), rf 7 (i11), rf 4 (0)] σ17 (.inl (some (.inl w)), σ') := h
          exact j64_152 hsσ17 h
        · skip
          replace hp20 : ¬ ((u7).toInt ≠ (3 : Int)) := (not_congr ic_ne).mp hp20
          refine Or.inr ⟨hp20, ?_⟩
          clear g
          replace h : EV F f 64 z64 147 [some (rf 4 (0)), some (rf 1 (i9)), some (.inl (u2)), some (.inl (u3)), some (.inl (u4)), some (.inl (u5)), some (.inl (u6)), some (.inl (u7)), some (rf 7 (i11))] [rf 7 (i11), rf 4 (0)] σ17 (.inl (some (.inl w)), σ') := h
          exact j64_147 hsσ17 h
    · exact absurd (fun z => by cases z) hp8
def J64_86 (τ : mS) (w : Int32) (σ' : mS) : Prop := w = (Int32.ofInt (-1)) ∧ σ' = τ
theorem j64_86 {F f : Nat} {σ' τ : mS} {y0 : Option mV} {y1 : Option mV} {y2 : Option mV} {y3 : Option mV} {y4 : Option mV} {y5 : Option mV} {y6 : Option mV} {y7 : Option mV} {y8 : Option mV} {w : Int32} (hsτ : HS τ) (h : EV F f 64 z64 86 [y0, y1, y2, y3, y4, y5, y6, y7, y8] [] τ (.inl (some (.inl w)), σ')) : J64_86 τ w σ' := by
  unfold J64_86
  replace h := ei_p h rfl rfl rfl rfl
  obtain ⟨f, g, h⟩ := h
  clear g
  replace h : EV F f 64 z64 87 [y0, y1, y2, y3, y4, y5, y6, y7, y8] [.inl (Int32.ofInt (-1))] τ (.inl (some (.inl w)), σ') := h
  have e := ei_iret h rfl
  cases e
  exact ⟨rfl, rfl⟩
def J64_75 (u1 : mR) (u2 : Int32) (u3 : Int32) (u4 : Int32) (u5 : Int32) (u6 : Int32) (u7 : Int32) (u8 : Int32) (τ : mS) (w : Int32) (σ' : mS) : Prop := (((u7).toInt ≠ (3 : Int) ∧ J64_88 (u1) (u2) (u3) (u4) (u5) (u6) (u7) τ w σ') ∨ (¬ ((u7).toInt ≠ (3 : Int)) ∧ (((u8).toInt ≤ (0 : Int) ∧ J64_88 (u1) (u2) (u3) (u4) (u5) (u6) (u7) τ w σ') ∨ (¬ ((u8).toInt ≤ (0 : Int)) ∧ J64_86 τ w σ'))))
theorem j64_75 {F f : Nat} {σ' τ : mS} {u1 : mR} {u2 : Int32} {u3 : Int32} {u4 : Int32} {u5 : Int32} {u6 : Int32} {u7 : Int32} {u8 : Int32} {w : Int32} (hsτ : HS τ) (h : EV F f 64 z64 75 [some (rf 4 (0)), some (.inr (.inr (u1))), some (.inl (u2)), some (.inl (u3)), some (.inl (u4)), some (.inl (u5)), some (.inl (u6)), some (.inl (u7)), some (.inl (u8))] [] τ (.inl (some (.inl w)), σ')) : J64_75 u1 u2 u3 u4 u5 u6 u7 u8 τ w σ' := by
  unfold J64_75
  replace h := ei_p h rfl rfl rfl rfl
  obtain ⟨f, g, h⟩ := h
  clear g
  replace h : EV F f 64 z64 77 [some (rf 4 (0)), some (.inr (.inr (u1))), some (.inl (u2)), some (.inl (u3)), some (.inl (u4)), some (.inl (u5)), some (.inl (u6)), some (.inl (u7)), some (.inl (u8))] [.inl (u7)] τ (.inl (some (.inl w)), σ') := h
  replace h := ei_p h rfl rfl rfl rfl
  obtain ⟨f, g, h⟩ := h
  clear g
  replace h : EV F f 64 z64 78 [some (rf 4 (0)), some (.inr (.inr (u1))), some (.inl (u2)), some (.inl (u3)), some (.inl (u4)), some (.inl (u5)), some (.inl (u6)), some (.inl (u7)), some (.inl (u8))] [.inl (Int32.ofInt 3), .inl (u7)] τ (.inl (some (.inl w)), σ') := h
  replace h := ei_c h rfl rfl rfl
  rcases h with ⟨hp1, f, g, h⟩ | ⟨hp1, f, g, h⟩
  · skip
    replace hp1 : (u7).toInt ≠ (3 : Int) := ic_ne.mp hp1
    refine Or.inl ⟨hp1, ?_⟩
    clear g
    replace h : EV F f 64 z64 88 [some (rf 4 (0)), some (.inr (.inr (u1))), some (.inl (u2)), some (.inl (u3)), some (.inl (u4)), some (.inl (u5)), some (.inl (u6)), some (.inl (u7)), some (.inl (u8))] [] τ (.inl (some (.inl w)), σ') := h
    exact j64_88 hsτ h
  · skip
    replace hp1 : ¬ ((u7).toInt ≠ (3 : Int)) := (not_congr ic_ne).mp hp1
    refine Or.inr ⟨hp1, ?_⟩
    clear g
    replace h : EV F f 64 z64 81 [some (rf 4 (0)), some (.inr (.inr (u1))), some (.inl (u2)), some (.inl (u3)), some (.inl (u4)), some (.inl (u5)), some (.inl (u6)), some (.inl (u7)), some (.inl (u8))] [] τ (.inl (some (.inl w)), σ') := h
    replace h := ei_p h rfl rfl rfl rfl
    obtain ⟨f, g, h⟩ := h
    clear g
    replace h : EV F f 64 z64 83 [some (rf 4 (0)), some (.inr (.inr (u1))), some (.inl (u2)), some (.inl (u3)), some (.inl (u4)), some (.inl (u5)), some (.inl (u6)), some (.inl (u7)), some (.inl (u8))] [.inl (u8)] τ (.inl (some (.inl w)), σ') := h
    replace h := ei_c h rfl rfl rfl
    rcases h with ⟨hp2, f, g, h⟩ | ⟨hp2, f, g, h⟩
    · skip
      replace hp2 : (u8).toInt ≤ (0 : Int) := ic_le.mp hp2
      refine Or.inl ⟨hp2, ?_⟩
      clear g
      replace h : EV F f 64 z64 88 [some (rf 4 (0)), some (.inr (.inr (u1))), some (.inl (u2)), some (.inl (u3)), some (.inl (u4)), some (.inl (u5)), some (.inl (u6)), some (.inl (u7)), some (.inl (u8))] [] τ (.inl (some (.inl w)), σ') := h
      exact j64_88 hsτ h
    · skip
      replace hp2 : ¬ ((u8).toInt ≤ (0 : Int)) := (not_congr ic_le).mp hp2
      refine Or.inr ⟨hp2, ?_⟩
      clear g
      replace h : EV F f 64 z64 86 [some (rf 4 (0)), some (.inr (.inr (u1))), some (.inl (u2)), some (.inl (u3)), some (.inl (u4)), some (.inl (u5)), some (.inl (u6)), some (.inl (u7)), some (.inl (u8))] [] τ (.inl (some (.inl w)), σ') := h
      exact j64_86 hsτ h
def P64 (σ : mS) (x1 : mR) (w : Int32) (σ' : mS) : Prop := ∃ i1, x1 = some (1, i1) ∧ ∃ v3, P27 σ (m_i σ 1 (i1) 2) v3 ∧ (((v3).toInt = (0 : Int) ∧ J64_88 (some (1, i1)) (m_i σ 1 (i1) 1) (m_i σ 1 (i1) 2) (m_i σ 1 (i1) 3) (m_i σ 1 (i1) 4) (m_i σ 1 (i1) 5) (m_i σ 1 (i1) 7) σ w σ') ∨ (¬ ((v3).toInt = (0 : Int)) ∧ ∃ v8, P8 σ (m_i σ 1 (i1) 2) ((Int32.ofInt 1) - (m_i σ 1 (i1) 3)) (m_i σ 1 (i1) 4) (m_i σ 1 (i1) 1) v8 ∧ (((m_i σ 1 (i1) 7).toInt ≠ (2 : Int) ∧ J64_75 (some (1, i1)) (m_i σ 1 (i1) 1) (m_i σ 1 (i1) 2) (m_i σ 1 (i1) 3) (m_i σ 1 (i1) 4) (m_i σ 1 (i1) 5) (m_i σ 1 (i1) 7) (v8) σ w σ') ∨ (¬ ((m_i σ 1 (i1) 7).toInt ≠ (2 : Int)) ∧ (((v8).toInt < (m_i σ 1 (i1) 5).toInt ∧ J64_86 σ w σ') ∨ (¬ ((v8).toInt < (m_i σ 1 (i1) 5).toInt) ∧ J64_75 (some (1, i1)) (m_i σ 1 (i1) 1) (m_i σ 1 (i1) 2) (m_i σ 1 (i1) 3) (m_i σ 1 (i1) 4) (m_i σ 1 (i1) 5) (m_i σ 1 (i1) 7) (v8) σ w σ'))))))
theorem x64 {σ σ' : mS} {x1 : mR} {w : Int32} (hs : HS σ) (h : ev_run sm_all 64 [rf 4 (0), .inr (.inr (x1))] σ (.inl (some (.inl w))) σ') : P64 σ x1 w σ' := by
  unfold P64
  obtain ⟨F, f, h⟩ := ei_go h z64_at
  replace h : EV F f 64 z64 0 [some (rf 4 (0)), some (.inr (.inr (x1))), none, none, none, none, none, none, none] [] σ (.inl (some (.inl w)), σ') := h
  replace h := ei_p h rfl rfl rfl rfl
  obtain ⟨f, g, h⟩ := h
  clear g
  replace h : EV F f 64 z64 1 [some (rf 4 (0)), some (.inr (.inr (x1))), none, none, none, none, none, none, none] [.inr (.inr (x1))] σ (.inl (some (.inl w)), σ') := h
  obtain ⟨i1, e2⟩ := ei_gp h rfl
  rw [e2] at h
  refine ⟨i1, e2, ?_⟩
  replace h : EV F f 64 z64 1 [some (rf 4 (0)), some (rf 1 (i1)), none, none, none, none, none, none, none] [rf 1 (i1)] σ (.inl (some (.inl w)), σ') := h
  replace h := ei_get h rfl rfl
  obtain ⟨f, g, h⟩ := h
  clear g
  replace h : EV F f 64 z64 4 [some (rf 4 (0)), some (rf 1 (i1)), none, none, none, none, none, none, none] [.inl (m_i σ 1 (i1) 1)] σ (.inl (some (.inl w)), σ') := h
  replace h := ei_p h rfl rfl rfl rfl
  obtain ⟨f, g, h⟩ := h
  clear g
  replace h : EV F f 64 z64 5 [some (rf 4 (0)), some (rf 1 (i1)), some (.inl (m_i σ 1 (i1) 1)), none, none, none, none, none, none] [] σ (.inl (some (.inl w)), σ') := h
  replace h := ei_p h rfl rfl rfl rfl
  obtain ⟨f, g, h⟩ := h
  clear g
  replace h : EV F f 64 z64 6 [some (rf 4 (0)), some (rf 1 (i1)), some (.inl (m_i σ 1 (i1) 1)), none, none, none, none, none, none] [rf 1 (i1)] σ (.inl (some (.inl w)), σ') := h
  replace h := ei_get h rfl rfl
  obtain ⟨f, g, h⟩ := h
  clear g
  replace h : EV F f 64 z64 9 [some (rf 4 (0)), some (rf 1 (i1)), some (.inl (m_i σ 1 (i1) 1)), none, none, none, none, none, none] [.inl (m_i σ 1 (i1) 2)] σ (.inl (some (.inl w)), σ') := h
  replace h := ei_p h rfl rfl rfl rfl
  obtain ⟨f, g, h⟩ := h
  clear g
  replace h : EV F f 64 z64 10 [some (rf 4 (0)), some (rf 1 (i1)), some (.inl (m_i σ 1 (i1) 1)), some (.inl (m_i σ 1 (i1) 2)), none, none, none, none, none] [] σ (.inl (some (.inl w)), σ') := h
  replace h := ei_p h rfl rfl rfl rfl
  obtain ⟨f, g, h⟩ := h
  clear g
  replace h : EV F f 64 z64 11 [some (rf 4 (0)), some (rf 1 (i1)), some (.inl (m_i σ 1 (i1) 1)), some (.inl (m_i σ 1 (i1) 2)), none, none, none, none, none] [rf 1 (i1)] σ (.inl (some (.inl w)), σ') := h
  replace h := ei_get h rfl rfl
  obtain ⟨f, g, h⟩ := h
  clear g
  replace h : EV F f 64 z64 14 [some (rf 4 (0)), some (rf 1 (i1)), some (.inl (m_i σ 1 (i1) 1)), some (.inl (m_i σ 1 (i1) 2)), none, none, none, none, none] [.inl (m_i σ 1 (i1) 3)] σ (.inl (some (.inl w)), σ') := h
  replace h := ei_p h rfl rfl rfl rfl
  obtain ⟨f, g, h⟩ := h
  clear g
  replace h : EV F f 64 z64 16 [some (rf 4 (0)), some (rf 1 (i1)), some (.inl (m_i σ 1 (i1) 1)), some (.inl (m_i σ 1 (i1) 2)), some (.inl (m_i σ 1 (i1) 3)), none, none, none, none] [] σ (.inl (some (.inl w)), σ') := h
  replace h := ei_p h rfl rfl rfl rfl
  obtain ⟨f, g, h⟩ := h
  clear g
  replace h : EV F f 64 z64 17 [some (rf 4 (0)), some (rf 1 (i1)), some (.inl (m_i σ 1 (i1) 1)), some (.inl (m_i σ 1 (i1) 2)), some (.inl (m_i σ 1 (i1) 3)), none, none, none, none] [rf 1 (i1)] σ (.inl (some (.inl w)), σ') := h
  replace h := ei_get h rfl rfl
  obtain ⟨f, g, h⟩ := h
  clear g
  replace h : EV F f 64 z64 20 [some (rf 4 (0)), some (rf 1 (i1)), some (.inl (m_i σ 1 (i1) 1)), some (.inl (m_i σ 1 (i1) 2)), some (.inl (m_i σ 1 (i1) 3)), none, none, none, none] [.inl (m_i σ 1 (i1) 4)] σ (.inl (some (.inl w)), σ') := h
  replace h := ei_p h rfl rfl rfl rfl
  obtain ⟨f, g, h⟩ := h
  clear g
  replace h : EV F f 64 z64 22 [some (rf 4 (0)), some (rf 1 (i1)), some (.inl (m_i σ 1 (i1) 1)), some (.inl (m_i σ 1 (i1) 2)), some (.inl (m_i σ 1 (i1) 3)), some (.inl (m_i σ 1 (i1) 4)), none, none, none] [] σ (.inl (some (.inl w)), σ') := h
  replace h := ei_p h rfl rfl rfl rfl
  obtain ⟨f, g, h⟩ := h
  clear g
  replace h : EV F f 64 z64 23 [some (rf 4 (0)), some (rf 1 (i1)), some (.inl (m_i σ 1 (i1) 1)), some (.inl (m_i σ 1 (i1) 2)), some (.inl (m_i σ 1 (i1) 3)), some (.inl (m_i σ 1 (i1) 4)), none, none, none] [rf 1 (i1)] σ (.inl (some (.inl w)), σ') := h
  replace h := ei_get h rfl rfl
  obtain ⟨f, g, h⟩ := h
  clear g
  replace h : EV F f 64 z64 26 [some (rf 4 (0)), some (rf 1 (i1)), some (.inl (m_i σ 1 (i1) 1)), some (.inl (m_i σ 1 (i1) 2)), some (.inl (m_i σ 1 (i1) 3)), some (.inl (m_i σ 1 (i1) 4)), none, none, none] [.inl (m_i σ 1 (i1) 5)] σ (.inl (some (.inl w)), σ') := h
  replace h := ei_p h rfl rfl rfl rfl
  obtain ⟨f, g, h⟩ := h
  clear g
  replace h : EV F f 64 z64 28 [some (rf 4 (0)), some (rf 1 (i1)), some (.inl (m_i σ 1 (i1) 1)), some (.inl (m_i σ 1 (i1) 2)), some (.inl (m_i σ 1 (i1) 3)), some (.inl (m_i σ 1 (i1) 4)), some (.inl (m_i σ 1 (i1) 5)), none, none] [] σ (.inl (some (.inl w)), σ') := h
  replace h := ei_p h rfl rfl rfl rfl
  obtain ⟨f, g, h⟩ := h
  clear g
  replace h : EV F f 64 z64 29 [some (rf 4 (0)), some (rf 1 (i1)), some (.inl (m_i σ 1 (i1) 1)), some (.inl (m_i σ 1 (i1) 2)), some (.inl (m_i σ 1 (i1) 3)), some (.inl (m_i σ 1 (i1) 4)), some (.inl (m_i σ 1 (i1) 5)), none, none] [rf 1 (i1)] σ (.inl (some (.inl w)), σ') := h
  replace h := ei_get h rfl rfl
  obtain ⟨f, g, h⟩ := h
  clear g
  replace h : EV F f 64 z64 32 [some (rf 4 (0)), some (rf 1 (i1)), some (.inl (m_i σ 1 (i1) 1)), some (.inl (m_i σ 1 (i1) 2)), some (.inl (m_i σ 1 (i1) 3)), some (.inl (m_i σ 1 (i1) 4)), some (.inl (m_i σ 1 (i1) 5)), none, none] [.inl (m_i σ 1 (i1) 7)] σ (.inl (some (.inl w)), σ') := h
  replace h := ei_p h rfl rfl rfl rfl
  obtain ⟨f, g, h⟩ := h
  clear g
  replace h : EV F f 64 z64 34 [some (rf 4 (0)), some (rf 1 (i1)), some (.inl (m_i σ 1 (i1) 1)), some (.inl (m_i σ 1 (i1) 2)), some (.inl (m_i σ 1 (i1) 3)), some (.inl (m_i σ 1 (i1) 4)), some (.inl (m_i σ 1 (i1) 5)), some (.inl (m_i σ 1 (i1) 7)), none] [] σ (.inl (some (.inl w)), σ') := h
  replace h := ei_p h rfl rfl rfl rfl
  obtain ⟨f, g, h⟩ := h
  clear g
  replace h : EV F f 64 z64 35 [some (rf 4 (0)), some (rf 1 (i1)), some (.inl (m_i σ 1 (i1) 1)), some (.inl (m_i σ 1 (i1) 2)), some (.inl (m_i σ 1 (i1) 3)), some (.inl (m_i σ 1 (i1) 4)), some (.inl (m_i σ 1 (i1) 5)), some (.inl (m_i σ 1 (i1) 7)), none] [rf 4 (0)] σ (.inl (some (.inl w)), σ') := h
  replace h := ei_get h rfl (HS_g4_1 hs)
  obtain ⟨f, g, h⟩ := h
  clear g
  replace h : EV F f 64 z64 38 [some (rf 4 (0)), some (rf 1 (i1)), some (.inl (m_i σ 1 (i1) 1)), some (.inl (m_i σ 1 (i1) 2)), some (.inl (m_i σ 1 (i1) 3)), some (.inl (m_i σ 1 (i1) 4)), some (.inl (m_i σ 1 (i1) 5)), some (.inl (m_i σ 1 (i1) 7)), none] [rf 2 (0)] σ (.inl (some (.inl w)), σ') := h
  replace h := ei_p h rfl rfl rfl rfl
  obtain ⟨f, g, h⟩ := h
  clear g
  replace h : EV F f 64 z64 39 [some (rf 4 (0)), some (rf 1 (i1)), some (.inl (m_i σ 1 (i1) 1)), some (.inl (m_i σ 1 (i1) 2)), some (.inl (m_i σ 1 (i1) 3)), some (.inl (m_i σ 1 (i1) 4)), some (.inl (m_i σ 1 (i1) 5)), some (.inl (m_i σ 1 (i1) 7)), none] [.inl (m_i σ 1 (i1) 2), rf 2 (0)] σ (.inl (some (.inl w)), σ') := h
  replace h := bk_I (ei_v (as := [.inl (m_i σ 1 (i1) 2)]) h rfl rfl rfl) rfl z27_at (Or.inr rfl)
  obtain ⟨v3, σ4, r5, f, g, h⟩ := h
  clear g
  have er5 := ro_run rfl r5
  rw [er5] at h r5
  have p6 := x27 hs r5
  refine ⟨v3, p6, ?_⟩
  replace h : EV F f 64 z64 42 [some (rf 4 (0)), some (rf 1 (i1)), some (.inl (m_i σ 1 (i1) 1)), some (.inl (m_i σ 1 (i1) 2)), some (.inl (m_i σ 1 (i1) 3)), some (.inl (m_i σ 1 (i1) 4)), some (.inl (m_i σ 1 (i1) 5)), some (.inl (m_i σ 1 (i1) 7)), none] [.inl (v3)] σ (.inl (some (.inl w)), σ') := h
  replace h := ei_c h rfl rfl rfl
  rcases h with ⟨hp7, f, g, h⟩ | ⟨hp7, f, g, h⟩
  · skip
    replace hp7 : (v3).toInt = (0 : Int) := ic_eq.mp hp7
    refine Or.inl ⟨hp7, ?_⟩
    clear g
    replace h : EV F f 64 z64 88 [some (rf 4 (0)), some (rf 1 (i1)), some (.inl (m_i σ 1 (i1) 1)), some (.inl (m_i σ 1 (i1) 2)), some (.inl (m_i σ 1 (i1) 3)), some (.inl (m_i σ 1 (i1) 4)), some (.inl (m_i σ 1 (i1) 5)), some (.inl (m_i σ 1 (i1) 7)), none] [] σ (.inl (some (.inl w)), σ') := h
    exact j64_88 hs h
  · skip
    replace hp7 : ¬ ((v3).toInt = (0 : Int)) := (not_congr ic_eq).mp hp7
    refine Or.inr ⟨hp7, ?_⟩
    clear g
    replace h : EV F f 64 z64 45 [some (rf 4 (0)), some (rf 1 (i1)), some (.inl (m_i σ 1 (i1) 1)), some (.inl (m_i σ 1 (i1) 2)), some (.inl (m_i σ 1 (i1) 3)), some (.inl (m_i σ 1 (i1) 4)), some (.inl (m_i σ 1 (i1) 5)), some (.inl (m_i σ 1 (i1) 7)), none] [] σ (.inl (some (.inl w)), σ') := h
    replace h := ei_p h rfl rfl rfl rfl
    obtain ⟨f, g, h⟩ := h
    clear g
    replace h : EV F f 64 z64 46 [some (rf 4 (0)), some (rf 1 (i1)), some (.inl (m_i σ 1 (i1) 1)), some (.inl (m_i σ 1 (i1) 2)), some (.inl (m_i σ 1 (i1) 3)), some (.inl (m_i σ 1 (i1) 4)), some (.inl (m_i σ 1 (i1) 5)), some (.inl (m_i σ 1 (i1) 7)), none] [rf 4 (0)] σ (.inl (some (.inl w)), σ') := h
    replace h := ei_get h rfl (HS_g4_0 hs)
    obtain ⟨f, g, h⟩ := h
    clear g
    replace h : EV F f 64 z64 49 [some (rf 4 (0)), some (rf 1 (i1)), some (.inl (m_i σ 1 (i1) 1)), some (.inl (m_i σ 1 (i1) 2)), some (.inl (m_i σ 1 (i1) 3)), some (.inl (m_i σ 1 (i1) 4)), some (.inl (m_i σ 1 (i1) 5)), some (.inl (m_i σ 1 (i1) 7)), none] [rf 0 (0)] σ (.inl (some (.inl w)), σ') := h
    replace h := ei_p h rfl rfl rfl rfl
    obtain ⟨f, g, h⟩ := h
    clear g
    replace h : EV F f 64 z64 50 [some (rf 4 (0)), some (rf 1 (i1)), some (.inl (m_i σ 1 (i1) 1)), some (.inl (m_i σ 1 (i1) 2)), some (.inl (m_i σ 1 (i1) 3)), some (.inl (m_i σ 1 (i1) 4)), some (.inl (m_i σ 1 (i1) 5)), some (.inl (m_i σ 1 (i1) 7)), none] [.inl (m_i σ 1 (i1) 2), rf 0 (0)] σ (.inl (some (.inl w)), σ') := h
    replace h := ei_p h rfl rfl rfl rfl
    obtain ⟨f, g, h⟩ := h
    clear g
    replace h : EV F f 64 z64 51 [some (rf 4 (0)), some (rf 1 (i1)), some (.inl (m_i σ 1 (i1) 1)), some (.inl (m_i σ 1 (i1) 2)), some (.inl (m_i σ 1 (i1) 3)), some (.inl (m_i σ 1 (i1) 4)), some (.inl (m_i σ 1 (i1) 5)), some (.inl (m_i σ 1 (i1) 7)), none] [.inl (Int32.ofInt 1), .inl (m_i σ 1 (i1) 2), rf 0 (0)] σ (.inl (some (.inl w)), σ') := h
    replace h := ei_p h rfl rfl rfl rfl
    obtain ⟨f, g, h⟩ := h
    clear g
    replace h : EV F f 64 z64 53 [some (rf 4 (0)), some (rf 1 (i1)), some (.inl (m_i σ 1 (i1) 1)), some (.inl (m_i σ 1 (i1) 2)), some (.inl (m_i σ 1 (i1) 3)), some (.inl (m_i σ 1 (i1) 4)), some (.inl (m_i σ 1 (i1) 5)), some (.inl (m_i σ 1 (i1) 7)), none] [.inl (m_i σ 1 (i1) 3), .inl (Int32.ofInt 1), .inl (m_i σ 1 (i1) 2), rf 0 (0)] σ (.inl (some (.inl w)), σ') := h
    replace h := ei_p h rfl rfl rfl rfl
    obtain ⟨f, g, h⟩ := h
    clear g
    replace h : EV F f 64 z64 54 [some (rf 4 (0)), some (rf 1 (i1)), some (.inl (m_i σ 1 (i1) 1)), some (.inl (m_i σ 1 (i1) 2)), some (.inl (m_i σ 1 (i1) 3)), some (.inl (m_i σ 1 (i1) 4)), some (.inl (m_i σ 1 (i1) 5)), some (.inl (m_i σ 1 (i1) 7)), none] [.inl ((Int32.ofInt 1) - (m_i σ 1 (i1) 3)), .inl (m_i σ 1 (i1) 2), rf 0 (0)] σ (.inl (some (.inl w)), σ') := h
    replace h := ei_p h rfl rfl rfl rfl
    obtain ⟨f, g, h⟩ := h
    clear g
    replace h : EV F f 64 z64 56 [some (rf 4 (0)), some (rf 1 (i1)), some (.inl (m_i σ 1 (i1) 1)), some (.inl (m_i σ 1 (i1) 2)), some (.inl (m_i σ 1 (i1) 3)), some (.inl (m_i σ 1 (i1) 4)), some (.inl (m_i σ 1 (i1) 5)), some (.inl (m_i σ 1 (i1) 7)), none] [.inl (m_i σ 1 (i1) 4), .inl ((Int32.ofInt 1) - (m_i σ 1 (i1) 3)), .inl (m_i σ 1 (i1) 2), rf 0 (0)] σ (.inl (some (.inl w)), σ') := h
    replace h := ei_p h rfl rfl rfl rfl
    obtain ⟨f, g, h⟩ := h
    clear g
    replace h : EV F f 64 z64 57 [some (rf 4 (0)), some (rf 1 (i1)), some (.inl (m_i σ 1 (i1) 1)), some (.inl (m_i σ 1 (i1) 2)), some (.inl (m_i σ 1 (i1) 3)), some (.inl (m_i σ 1 (i1) 4)), some (.inl (m_i σ 1 (i1) 5)), some (.inl (m_i σ 1 (i1) 7)), none] [.inl (m_i σ 1 (i1) 1), .inl (m_i σ 1 (i1) 4), .inl ((Int32.ofInt 1) - (m_i σ 1 (i1) 3)), .inl (m_i σ 1 (i1) 2), rf 0 (0)] σ (.inl (some (.inl w)), σ') := h
    replace h := bk_I (ei_v (as := [.inl (m_i σ 1 (i1) 1), .inl (m_i σ 1 (i1) 4), .inl ((Int32.ofInt 1) - (m_i σ 1 (i1) 3)), .inl (m_i σ 1 (i1) 2)]) h rfl rfl rfl) rfl z8_at (Or.inl rfl)
    obtain ⟨v8, σ9, r10, f, g, h⟩ := h
    clear g
    have er10 := ro_run rfl r10
    rw [er10] at h r10
    have p11 := x8 hs r10
    refine ⟨v8, p11, ?_⟩
    replace h : EV F f 64 z64 60 [some (rf 4 (0)), some (rf 1 (i1)), some (.inl (m_i σ 1 (i1) 1)), some (.inl (m_i σ 1 (i1) 2)), some (.inl (m_i σ 1 (i1) 3)), some (.inl (m_i σ 1 (i1) 4)), some (.inl (m_i σ 1 (i1) 5)), some (.inl (m_i σ 1 (i1) 7)), none] [.inl (v8)] σ (.inl (some (.inl w)), σ') := h
    replace h := ei_p h rfl rfl rfl rfl
    obtain ⟨f, g, h⟩ := h
    clear g
    replace h : EV F f 64 z64 62 [some (rf 4 (0)), some (rf 1 (i1)), some (.inl (m_i σ 1 (i1) 1)), some (.inl (m_i σ 1 (i1) 2)), some (.inl (m_i σ 1 (i1) 3)), some (.inl (m_i σ 1 (i1) 4)), some (.inl (m_i σ 1 (i1) 5)), some (.inl (m_i σ 1 (i1) 7)), some (.inl (v8))] [] σ (.inl (some (.inl w)), σ') := h
    replace h := ei_p h rfl rfl rfl rfl
    obtain ⟨f, g, h⟩ := h
    clear g
    replace h : EV F f 64 z64 64 [some (rf 4 (0)), some (rf 1 (i1)), some (.inl (m_i σ 1 (i1) 1)), some (.inl (m_i σ 1 (i1) 2)), some (.inl (m_i σ 1 (i1) 3)), some (.inl (m_i σ 1 (i1) 4)), some (.inl (m_i σ 1 (i1) 5)), some (.inl (m_i σ 1 (i1) 7)), some (.inl (v8))] [.inl (m_i σ 1 (i1) 7)] σ (.inl (some (.inl w)), σ') := h
    replace h := ei_p h rfl rfl rfl rfl
    obtain ⟨f, g, h⟩ := h
    clear g
    replace h : EV F f 64 z64 65 [some (rf 4 (0)), some (rf 1 (i1)), some (.inl (m_i σ 1 (i1) 1)), some (.inl (m_i σ 1 (i1) 2)), some (.inl (m_i σ 1 (i1) 3)), some (.inl (m_i σ 1 (i1) 4)), some (.inl (m_i σ 1 (i1) 5)), some (.inl (m_i σ 1 (i1) 7)), some (.inl (v8))] [.inl (Int32.ofInt 2), .inl (m_i σ 1 (i1) 7)] σ (.inl (some (.inl w)), σ') := h
    replace h := ei_c h rfl rfl rfl
    rcases h with ⟨hp12, f, g, h⟩ | ⟨hp12, f, g, h⟩
    · skip
      replace hp12 : (m_i σ 1 (i1) 7).toInt ≠ (2 : Int) := ic_ne.mp hp12
      refine Or.inl ⟨hp12, ?_⟩
      clear g
      replace h : EV F f 64 z64 75 [some (rf 4 (0)), some (rf 1 (i1)), some (.inl (m_i σ 1 (i1) 1)), some (.inl (m_i σ 1 (i1) 2)), some (.inl (m_i σ 1 (i1) 3)), some (.inl (m_i σ 1 (i1) 4)), some (.inl (m_i σ 1 (i1) 5)), some (.inl (m_i σ 1 (i1) 7)), some (.inl (v8))] [] σ (.inl (some (.inl w)), σ') := h
      exact j64_75 hs h
    · skip
      replace hp12 : ¬ ((m_i σ 1 (i1) 7).toInt ≠ (2 : Int)) := (not_congr ic_ne).mp hp12
      refine Or.inr ⟨hp12, ?_⟩
      clear g
      replace h : EV F f 64 z64 68 [some (rf 4 (0)), some (rf 1 (i1)), some (.inl (m_i σ 1 (i1) 1)), some (.inl (m_i σ 1 (i1) 2)), some (.inl (m_i σ 1 (i1) 3)), some (.inl (m_i σ 1 (i1) 4)), some (.inl (m_i σ 1 (i1) 5)), some (.inl (m_i σ 1 (i1) 7)), some (.inl (v8))] [] σ (.inl (some (.inl w)), σ') := h
      replace h := ei_p h rfl rfl rfl rfl
      obtain ⟨f, g, h⟩ := h
      clear g
      replace h : EV F f 64 z64 70 [some (rf 4 (0)), some (rf 1 (i1)), some (.inl (m_i σ 1 (i1) 1)), some (.inl (m_i σ 1 (i1) 2)), some (.inl (m_i σ 1 (i1) 3)), some (.inl (m_i σ 1 (i1) 4)), some (.inl (m_i σ 1 (i1) 5)), some (.inl (m_i σ 1 (i1) 7)), some (.inl (v8))] [.inl (v8)] σ (.inl (some (.inl w)), σ') := h
      replace h := ei_p h rfl rfl rfl rfl
      obtain ⟨f, g, h⟩ := h
      clear g
      replace h : EV F f 64 z64 72 [some (rf 4 (0)), some (rf 1 (i1)), some (.inl (m_i σ 1 (i1) 1)), some (.inl (m_i σ 1 (i1) 2)), some (.inl (m_i σ 1 (i1) 3)), some (.inl (m_i σ 1 (i1) 4)), some (.inl (m_i σ 1 (i1) 5)), some (.inl (m_i σ 1 (i1) 7)), some (.inl (v8))] [.inl (m_i σ 1 (i1) 5), .inl (v8)] σ (.inl (some (.inl w)), σ') := h
      replace h := ei_c h rfl rfl rfl
      rcases h with ⟨hp13, f, g, h⟩ | ⟨hp13, f, g, h⟩
      · skip
        replace hp13 : (v8).toInt < (m_i σ 1 (i1) 5).toInt := ic_lt.mp hp13
        refine Or.inl ⟨hp13, ?_⟩
        clear g
        replace h : EV F f 64 z64 86 [some (rf 4 (0)), some (rf 1 (i1)), some (.inl (m_i σ 1 (i1) 1)), some (.inl (m_i σ 1 (i1) 2)), some (.inl (m_i σ 1 (i1) 3)), some (.inl (m_i σ 1 (i1) 4)), some (.inl (m_i σ 1 (i1) 5)), some (.inl (m_i σ 1 (i1) 7)), some (.inl (v8))] [] σ (.inl (some (.inl w)), σ') := h
        exact j64_86 hs h
      · skip
        replace hp13 : ¬ ((v8).toInt < (m_i σ 1 (i1) 5).toInt) := (not_congr ic_lt).mp hp13
        refine Or.inr ⟨hp13, ?_⟩
        clear g
        replace h : EV F f 64 z64 75 [some (rf 4 (0)), some (rf 1 (i1)), some (.inl (m_i σ 1 (i1) 1)), some (.inl (m_i σ 1 (i1) 2)), some (.inl (m_i σ 1 (i1) 3)), some (.inl (m_i σ 1 (i1) 4)), some (.inl (m_i σ 1 (i1) 5)), some (.inl (m_i σ 1 (i1) 7)), some (.inl (v8))] [] σ (.inl (some (.inl w)), σ') := h
        exact j64_75 hs h
def z65 : mAl := ((yX4_letStopWait, cX4_letStopWait, 3, (some .int), { frames := 1, cells := 0, slots := 0, locals := 26 }, []), rw_X4_letStopWait, false)
theorem z65_at : m_alF[65]? = some z65 := rfl
abbrev L65 : List (Nat × Nat) := [(0, 1), (7, 1), (7, 2), (7, 3), (7, 4), (7, 5), (7, 6), (7, 7), (7, 8), (7, 9), (7, 10), (7, 11), (7, 12)]
abbrev w65 : Nat → Nat → Bool := wl L65
def S65 : List Nat := [4, 65]
theorem W65 : fw_S w65 S65 = true := by decide +kernel
def P65 (σ : mS) (x1 : mR) (w : Int32) (σ' : mS) : Prop := ∃ i1, x1 = some (1, i1) ∧ ∃ v3 σ4, fw_e w4 σ σ4 ∧ P4 σ (m_i σ 1 (i1) 1) (m_i σ 1 (i1) 2) (m_i σ 1 (i1) 3) (m_i σ 1 (i1) 4) (m_i σ 1 (i1) 5) v3 σ4 ∧ ((v3 = none ∧ w = (Int32.ofInt (-1)) ∧ σ' = σ4) ∨ (∃ q8, v3 = some q8 ∧ ∃ i11, (some q8 : mR) = some (7, i11) ∧ ∃ σ14, σ14 = m_set σ4 7 (i11) (8) (.inl (m_i σ4 1 (i1) 6)) ∧ ∃ σ17, σ17 = m_set σ14 7 (i11) (10) (.inl (m_i σ14 2 (0) 7)) ∧ ∃ σ20, σ20 = m_set σ17 7 (i11) (9) (.inl (Int32.ofInt 2)) ∧ w = (m_i σ20 7 (i11) 0) ∧ σ' = σ20))
theorem x65 {σ σ' : mS} {x1 : mR} {w : Int32} (hs : HS σ) (h : ev_run sm_all 65 [rf 4 (0), .inr (.inr (x1))] σ (.inl (some (.inl w))) σ') : P65 σ x1 w σ' := by
  unfold P65
  obtain ⟨F, f, h⟩ := ei_go h z65_at
  replace h : EV F f 65 z65 0 [some (rf 4 (0)), some (.inr (.inr (x1))), none] [] σ (.inl (some (.inl w)), σ') := h
  replace h := ei_p h rfl rfl rfl rfl
  obtain ⟨f, g, h⟩ := h
  clear g
  replace h : EV F f 65 z65 1 [some (rf 4 (0)), some (.inr (.inr (x1))), none] [rf 4 (0)] σ (.inl (some (.inl w)), σ') := h
  replace h := ei_get h rfl (HS_g4_0 hs)
  obtain ⟨f, g, h⟩ := h
  clear g
  replace h : EV F f 65 z65 4 [some (rf 4 (0)), some (.inr (.inr (x1))), none] [rf 0 (0)] σ (.inl (some (.inl w)), σ') := h
  replace h := ei_p h rfl rfl rfl rfl
  obtain ⟨f, g, h⟩ := h
  clear g
  replace h : EV F f 65 z65 5 [some (rf 4 (0)), some (.inr (.inr (x1))), none] [.inr (.inr (x1)), rf 0 (0)] σ (.inl (some (.inl w)), σ') := h
  obtain ⟨i1, e2⟩ := ei_gp h rfl
  rw [e2] at h
  refine ⟨i1, e2, ?_⟩
  replace h : EV F f 65 z65 5 [some (rf 4 (0)), some (rf 1 (i1)), none] [rf 1 (i1), rf 0 (0)] σ (.inl (some (.inl w)), σ') := h
  replace h := ei_get h rfl rfl
  obtain ⟨f, g, h⟩ := h
  clear g
  replace h : EV F f 65 z65 8 [some (rf 4 (0)), some (rf 1 (i1)), none] [.inl (m_i σ 1 (i1) 1), rf 0 (0)] σ (.inl (some (.inl w)), σ') := h
  replace h := ei_p h rfl rfl rfl rfl
  obtain ⟨f, g, h⟩ := h
  clear g
  replace h : EV F f 65 z65 9 [some (rf 4 (0)), some (rf 1 (i1)), none] [rf 1 (i1), .inl (m_i σ 1 (i1) 1), rf 0 (0)] σ (.inl (some (.inl w)), σ') := h
  replace h := ei_get h rfl rfl
  obtain ⟨f, g, h⟩ := h
  clear g
  replace h : EV F f 65 z65 12 [some (rf 4 (0)), some (rf 1 (i1)), none] [.inl (m_i σ 1 (i1) 2), .inl (m_i σ 1 (i1) 1), rf 0 (0)] σ (.inl (some (.inl w)), σ') := h
  replace h := ei_p h rfl rfl rfl rfl
  obtain ⟨f, g, h⟩ := h
  clear g
  replace h : EV F f 65 z65 13 [some (rf 4 (0)), some (rf 1 (i1)), none] [rf 1 (i1), .inl (m_i σ 1 (i1) 2), .inl (m_i σ 1 (i1) 1), rf 0 (0)] σ (.inl (some (.inl w)), σ') := h
  replace h := ei_get h rfl rfl
  obtain ⟨f, g, h⟩ := h
  clear g
  replace h : EV F f 65 z65 16 [some (rf 4 (0)), some (rf 1 (i1)), none] [.inl (m_i σ 1 (i1) 3), .inl (m_i σ 1 (i1) 2), .inl (m_i σ 1 (i1) 1), rf 0 (0)] σ (.inl (some (.inl w)), σ') := h
  replace h := ei_p h rfl rfl rfl rfl
  obtain ⟨f, g, h⟩ := h
  clear g
  replace h : EV F f 65 z65 17 [some (rf 4 (0)), some (rf 1 (i1)), none] [rf 1 (i1), .inl (m_i σ 1 (i1) 3), .inl (m_i σ 1 (i1) 2), .inl (m_i σ 1 (i1) 1), rf 0 (0)] σ (.inl (some (.inl w)), σ') := h
  replace h := ei_get h rfl rfl
  obtain ⟨f, g, h⟩ := h
  clear g
  replace h : EV F f 65 z65 20 [some (rf 4 (0)), some (rf 1 (i1)), none] [.inl (m_i σ 1 (i1) 4), .inl (m_i σ 1 (i1) 3), .inl (m_i σ 1 (i1) 2), .inl (m_i σ 1 (i1) 1), rf 0 (0)] σ (.inl (some (.inl w)), σ') := h
  replace h := ei_p h rfl rfl rfl rfl
  obtain ⟨f, g, h⟩ := h
  clear g
  replace h : EV F f 65 z65 21 [some (rf 4 (0)), some (rf 1 (i1)), none] [rf 1 (i1), .inl (m_i σ 1 (i1) 4), .inl (m_i σ 1 (i1) 3), .inl (m_i σ 1 (i1) 2), .inl (m_i σ 1 (i1) 1), rf 0 (0)] σ (.inl (some (.inl w)), σ') := h
  replace h := ei_get h rfl rfl
  obtain ⟨f, g, h⟩ := h
  clear g
  replace h : EV F f 65 z65 24 [some (rf 4 (0)), some (rf 1 (i1)), none] [.inl (m_i σ 1 (i1) 5), .inl (m_i σ 1 (i1) 4), .inl (m_i σ 1 (i1) 3), .inl (m_i σ 1 (i1) 2), .inl (m_i σ 1 (i1) 1), rf 0 (0)] σ (.inl (some (.inl w)), σ') := h
  replace h := bk_R (ei_v (as := [.inl (m_i σ 1 (i1) 5), .inl (m_i σ 1 (i1) 4), .inl (m_i σ 1 (i1) 3), .inl (m_i σ 1 (i1) 2), .inl (m_i σ 1 (i1) 1)]) h rfl rfl rfl) rfl z4_at rfl
  obtain ⟨v3, σ4, r5, f, g, h⟩ := h
  clear g
  have p6 := x4 hs r5
  have hsσ4 : HS σ4 := HS_run rfl r5 hs
  refine ⟨v3, σ4, fw_run W4 rfl r5, p6, ?_⟩
  replace h : EV F f 65 z65 27 [some (rf 4 (0)), some (rf 1 (i1)), none] [.inr (.inr (v3))] σ4 (.inl (some (.inl w)), σ') := h
  replace h := ei_p h rfl rfl rfl rfl
  obtain ⟨f, g, h⟩ := h
  clear g
  replace h : EV F f 65 z65 28 [some (rf 4 (0)), some (rf 1 (i1)), some (.inr (.inr (v3)))] [] σ4 (.inl (some (.inl w)), σ') := h
  replace h := ei_p h rfl rfl rfl rfl
  obtain ⟨f, g, h⟩ := h
  clear g
  replace h : EV F f 65 z65 29 [some (rf 4 (0)), some (rf 1 (i1)), some (.inr (.inr (v3)))] [.inr (.inr (v3))] σ4 (.inl (some (.inl w)), σ') := h
  rcases r_cs (v3) with e7 | ⟨q8, e7⟩
  · skip
    rw [e7] at h
    refine Or.inl ⟨e7, ?_⟩
    replace h : EV F f 65 z65 29 [some (rf 4 (0)), some (rf 1 (i1)), some (.inr (.inr none))] [.inr (.inr none)] σ4 (.inl (some (.inl w)), σ') := h
    replace h := ei_c h rfl rfl rfl
    rcases h with ⟨hp9, f, g, h⟩ | ⟨hp9, f, g, h⟩
    · exact absurd rfl hp9
    · skip
      clear g
      replace h : EV F f 65 z65 32 [some (rf 4 (0)), some (rf 1 (i1)), some (.inr (.inr none))] [] σ4 (.inl (some (.inl w)), σ') := h
      replace h := ei_p h rfl rfl rfl rfl
      obtain ⟨f, g, h⟩ := h
      clear g
      replace h : EV F f 65 z65 33 [some (rf 4 (0)), some (rf 1 (i1)), some (.inr (.inr none))] [.inl (Int32.ofInt (-1))] σ4 (.inl (some (.inl w)), σ') := h
      have e := ei_iret h rfl
      cases e
      exact ⟨rfl, rfl⟩
  · skip
    rw [e7] at h
    refine Or.inr ⟨q8, e7, ?_⟩
    replace h : EV F f 65 z65 29 [some (rf 4 (0)), some (rf 1 (i1)), some (.inr (.inr (some q8)))] [.inr (.inr (some q8))] σ4 (.inl (some (.inl w)), σ') := h
    replace h := ei_c h rfl rfl rfl
    rcases h with ⟨hp10, f, g, h⟩ | ⟨hp10, f, g, h⟩
    · skip
      clear g
      replace h : EV F f 65 z65 34 [some (rf 4 (0)), some (rf 1 (i1)), some (.inr (.inr (some q8)))] [] σ4 (.inl (some (.inl w)), σ') := h
      replace h := ei_p h rfl rfl rfl rfl
      obtain ⟨f, g, h⟩ := h
      clear g
      replace h : EV F f 65 z65 35 [some (rf 4 (0)), some (rf 1 (i1)), some (.inr (.inr (some q8)))] [.inr (.inr (some q8))] σ4 (.inl (some (.inl w)), σ') := h
      replace h := ei_p h rfl rfl rfl rfl
      obtain ⟨f, g, h⟩ := h
      clear g
      replace h : EV F f 65 z65 36 [some (rf 4 (0)), some (rf 1 (i1)), some (.inr (.inr (some q8)))] [rf 1 (i1), .inr (.inr (some q8))] σ4 (.inl (some (.inl w)), σ') := h
      replace h := ei_get h rfl rfl
      obtain ⟨f, g, h⟩ := h
      clear g
      replace h : EV F f 65 z65 39 [some (rf 4 (0)), some (rf 1 (i1)), some (.inr (.inr (some q8)))] [.inl (m_i σ4 1 (i1) 6), .inr (.inr (some q8))] σ4 (.inl (some (.inl w)), σ') := h
      obtain ⟨i11, e12⟩ := ei_pp h rfl
      rw [Option.some.inj e12] at h
      refine ⟨i11, e12, ?_⟩
      replace h : EV F f 65 z65 39 [some (rf 4 (0)), some (rf 1 (i1)), some (rf 7 (i11))] [.inl (m_i σ4 1 (i1) 6), rf 7 (i11)] σ4 (.inl (some (.inl w)), σ') := h
      replace h := ei_put h rfl
      obtain ⟨ht13, f, g, h⟩ := h
      clear g
      obtain ⟨σ14, e15⟩ : ∃ s, s = m_set σ4 7 (i11) (8) (.inl (m_i σ4 1 (i1) 6)) := ⟨_, rfl⟩
      rw [← e15] at h
      have hsσ14 : HS σ14 := by rw [e15]; exact HS_set hsσ4 rfl
      refine ⟨σ14, e15, ?_⟩
      replace h : EV F f 65 z65 42 [some (rf 4 (0)), some (rf 1 (i1)), some (rf 7 (i11))] [] σ14 (.inl (some (.inl w)), σ') := h
      replace h := ei_p h rfl rfl rfl rfl
      obtain ⟨f, g, h⟩ := h
      clear g
      replace h : EV F f 65 z65 43 [some (rf 4 (0)), some (rf 1 (i1)), some (rf 7 (i11))] [rf 7 (i11)] σ14 (.inl (some (.inl w)), σ') := h
      replace h := ei_p h rfl rfl rfl rfl
      obtain ⟨f, g, h⟩ := h
      clear g
      replace h : EV F f 65 z65 44 [some (rf 4 (0)), some (rf 1 (i1)), some (rf 7 (i11))] [rf 4 (0), rf 7 (i11)] σ14 (.inl (some (.inl w)), σ') := h
      replace h := ei_get h rfl (HS_g4_1 hsσ14)
      obtain ⟨f, g, h⟩ := h
      clear g
      replace h : EV F f 65 z65 47 [some (rf 4 (0)), some (rf 1 (i1)), some (rf 7 (i11))] [rf 2 (0), rf 7 (i11)] σ14 (.inl (some (.inl w)), σ') := h
      replace h := ei_get h rfl rfl
      obtain ⟨f, g, h⟩ := h
      clear g
      replace h : EV F f 65 z65 50 [some (rf 4 (0)), some (rf 1 (i1)), some (rf 7 (i11))] [.inl (m_i σ14 2 (0) 7), rf 7 (i11)] σ14 (.inl (some (.inl w)), σ') := h
      replace h := ei_put h rfl
      obtain ⟨ht16, f, g, h⟩ := h
      clear g
      obtain ⟨σ17, e18⟩ : ∃ s, s = m_set σ14 7 (i11) (10) (.inl (m_i σ14 2 (0) 7)) := ⟨_, rfl⟩
      rw [← e18] at h
      have hsσ17 : HS σ17 := by rw [e18]; exact HS_set hsσ14 rfl
      refine ⟨σ17, e18, ?_⟩
      replace h : EV F f 65 z65 53 [some (rf 4 (0)), some (rf 1 (i1)), some (rf 7 (i11))] [] σ17 (.inl (some (.inl w)), σ') := h
      replace h := ei_p h rfl rfl rfl rfl
      obtain ⟨f, g, h⟩ := h
      clear g
      replace h : EV F f 65 z65 54 [some (rf 4 (0)), some (rf 1 (i1)), some (rf 7 (i11))] [rf 7 (i11)] σ17 (.inl (some (.inl w)), σ') := h
      replace h := ei_p h rfl rfl rfl rfl
      obtain ⟨f, g, h⟩ := h
      clear g
      replace h : EV F f 65 z65 55 [some (rf 4 (0)), some (rf 1 (i1)), some (rf 7 (i11))] [.inl (Int32.ofInt 2), rf 7 (i11)] σ17 (.inl (some (.inl w)), σ') := h
      replace h := ei_put h rfl
      obtain ⟨ht19, f, g, h⟩ := h
      clear g
      obtain ⟨σ20, e21⟩ : ∃ s, s = m_set σ17 7 (i11) (9) (.inl (Int32.ofInt 2)) := ⟨_, rfl⟩
      rw [← e21] at h
      have hsσ20 : HS σ20 := by rw [e21]; exact HS_set hsσ17 rfl
      refine ⟨σ20, e21, ?_⟩
      replace h : EV F f 65 z65 58 [some (rf 4 (0)), some (rf 1 (i1)), some (rf 7 (i11))] [] σ20 (.inl (some (.inl w)), σ') := h
      replace h := ei_p h rfl rfl rfl rfl
      obtain ⟨f, g, h⟩ := h
      clear g
      replace h : EV F f 65 z65 59 [some (rf 4 (0)), some (rf 1 (i1)), some (rf 7 (i11))] [rf 7 (i11)] σ20 (.inl (some (.inl w)), σ') := h
      replace h := ei_get h rfl rfl
      obtain ⟨f, g, h⟩ := h
      clear g
      replace h : EV F f 65 z65 62 [some (rf 4 (0)), some (rf 1 (i1)), some (rf 7 (i11))] [.inl (m_i σ20 7 (i11) 0)] σ20 (.inl (some (.inl w)), σ') := h
      have e := ei_iret h rfl
      cases e
      exact ⟨rfl, rfl⟩
    · exact absurd (fun z => by cases z) hp10
def z70 : mAl := ((yX4_tieOrders, cX4_tieOrders, 5, (some .int), { frames := 1, cells := 0, slots := 0, locals := 21 }, []), rw_X4_tieOrders, false)
theorem z70_at : m_alF[70]? = some z70 := rfl
abbrev L70 : List (Nat × Nat) := [(7, 12)]
abbrev w70 : Nat → Nat → Bool := wl L70
def S70 : List Nat := [3, 70]
theorem W70 : fw_S w70 S70 = true := by decide +kernel
def P70 (σ : mS) (x1 : Int32) (x2 : Int32) (w : Int32) (σ' : mS) : Prop := ∃ v1, P3 σ (x1) v1 ∧ ∃ v5, P3 σ (x2) v5 ∧ ((v1 = none ∧ w = (Int32.ofInt 0) ∧ σ' = σ) ∨ (∃ q10, v1 = some q10 ∧ ((v5 = none ∧ w = (Int32.ofInt 0) ∧ σ' = σ) ∨ (∃ q14, v5 = some q14 ∧ ∃ i17, (some q10 : mR) = some (7, i17) ∧ ∃ σ20, σ20 = m_set σ 7 (i17) (12) (.inr (.inr (some q14))) ∧ ∃ i22, (some q14 : mR) = some (7, i22) ∧ ∃ σ25, σ25 = m_set σ20 7 (i22) (12) (rf 7 (i17)) ∧ w = (Int32.ofInt 0) ∧ σ' = σ25))))
theorem x70 {σ σ' : mS} {x1 : Int32} {x2 : Int32} {w : Int32} (hs : HS σ) (h : ev_run sm_all 70 [rf 4 (0), .inl (x1), .inl (x2)] σ (.inl (some (.inl w))) σ') : P70 σ x1 x2 w σ' := by
  unfold P70
  obtain ⟨F, f, h⟩ := ei_go h z70_at
  replace h : EV F f 70 z70 0 [some (rf 4 (0)), some (.inl (x1)), some (.inl (x2)), none, none] [] σ (.inl (some (.inl w)), σ') := h
  replace h := ei_p h rfl rfl rfl rfl
  obtain ⟨f, g, h⟩ := h
  clear g
  replace h : EV F f 70 z70 1 [some (rf 4 (0)), some (.inl (x1)), some (.inl (x2)), none, none] [rf 4 (0)] σ (.inl (some (.inl w)), σ') := h
  replace h := ei_get h rfl (HS_g4_0 hs)
  obtain ⟨f, g, h⟩ := h
  clear g
  replace h : EV F f 70 z70 4 [some (rf 4 (0)), some (.inl (x1)), some (.inl (x2)), none, none] [rf 0 (0)] σ (.inl (some (.inl w)), σ') := h
  replace h := ei_p h rfl rfl rfl rfl
  obtain ⟨f, g, h⟩ := h
  clear g
  replace h : EV F f 70 z70 5 [some (rf 4 (0)), some (.inl (x1)), some (.inl (x2)), none, none] [.inl (x1), rf 0 (0)] σ (.inl (some (.inl w)), σ') := h
  replace h := bk_R (ei_v (as := [.inl (x1)]) h rfl rfl rfl) rfl z3_at rfl
  obtain ⟨v1, σ2, r3, f, g, h⟩ := h
  clear g
  have er3 := ro_run rfl r3
  rw [er3] at h r3
  have p4 := x3 hs r3
  refine ⟨v1, p4, ?_⟩
  replace h : EV F f 70 z70 8 [some (rf 4 (0)), some (.inl (x1)), some (.inl (x2)), none, none] [.inr (.inr (v1))] σ (.inl (some (.inl w)), σ') := h
  replace h := ei_p h rfl rfl rfl rfl
  obtain ⟨f, g, h⟩ := h
  clear g
  replace h : EV F f 70 z70 9 [some (rf 4 (0)), some (.inl (x1)), some (.inl (x2)), some (.inr (.inr (v1))), none] [] σ (.inl (some (.inl w)), σ') := h
  replace h := ei_p h rfl rfl rfl rfl
  obtain ⟨f, g, h⟩ := h
  clear g
  replace h : EV F f 70 z70 10 [some (rf 4 (0)), some (.inl (x1)), some (.inl (x2)), some (.inr (.inr (v1))), none] [rf 4 (0)] σ (.inl (some (.inl w)), σ') := h
  replace h := ei_get h rfl (HS_g4_0 hs)
  obtain ⟨f, g, h⟩ := h
  clear g
  replace h : EV F f 70 z70 13 [some (rf 4 (0)), some (.inl (x1)), some (.inl (x2)), some (.inr (.inr (v1))), none] [rf 0 (0)] σ (.inl (some (.inl w)), σ') := h
  replace h := ei_p h rfl rfl rfl rfl
  obtain ⟨f, g, h⟩ := h
  clear g
  replace h : EV F f 70 z70 14 [some (rf 4 (0)), some (.inl (x1)), some (.inl (x2)), some (.inr (.inr (v1))), none] [.inl (x2), rf 0 (0)] σ (.inl (some (.inl w)), σ') := h
  replace h := bk_R (ei_v (as := [.inl (x2)]) h rfl rfl rfl) rfl z3_at rfl
  obtain ⟨v5, σ6, r7, f, g, h⟩ := h
  clear g
  have er7 := ro_run rfl r7
  rw [er7] at h r7
  have p8 := x3 hs r7
  refine ⟨v5, p8, ?_⟩
  replace h : EV F f 70 z70 17 [some (rf 4 (0)), some (.inl (x1)), some (.inl (x2)), some (.inr (.inr (v1))), none] [.inr (.inr (v5))] σ (.inl (some (.inl w)), σ') := h
  replace h := ei_p h rfl rfl rfl rfl
  obtain ⟨f, g, h⟩ := h
  clear g
  replace h : EV F f 70 z70 19 [some (rf 4 (0)), some (.inl (x1)), some (.inl (x2)), some (.inr (.inr (v1))), some (.inr (.inr (v5)))] [] σ (.inl (some (.inl w)), σ') := h
  replace h := ei_p h rfl rfl rfl rfl
  obtain ⟨f, g, h⟩ := h
  clear g
  replace h : EV F f 70 z70 20 [some (rf 4 (0)), some (.inl (x1)), some (.inl (x2)), some (.inr (.inr (v1))), some (.inr (.inr (v5)))] [.inr (.inr (v1))] σ (.inl (some (.inl w)), σ') := h
  rcases r_cs (v1) with e9 | ⟨q10, e9⟩
  · skip
    rw [e9] at h
    refine Or.inl ⟨e9, ?_⟩
    replace h : EV F f 70 z70 20 [some (rf 4 (0)), some (.inl (x1)), some (.inl (x2)), some (.inr (.inr none)), some (.inr (.inr (v5)))] [.inr (.inr none)] σ (.inl (some (.inl w)), σ') := h
    replace h := ei_c h rfl rfl rfl
    rcases h with ⟨hp11, f, g, h⟩ | ⟨hp11, f, g, h⟩
    · skip
      clear g
      replace h : EV F f 70 z70 40 [some (rf 4 (0)), some (.inl (x1)), some (.inl (x2)), some (.inr (.inr none)), some (.inr (.inr (v5)))] [] σ (.inl (some (.inl w)), σ') := h
      replace h := ei_p h rfl rfl rfl rfl
      obtain ⟨f, g, h⟩ := h
      clear g
      replace h : EV F f 70 z70 41 [some (rf 4 (0)), some (.inl (x1)), some (.inl (x2)), some (.inr (.inr none)), some (.inr (.inr (v5)))] [.inl (Int32.ofInt 0)] σ (.inl (some (.inl w)), σ') := h
      have e := ei_iret h rfl
      cases e
      exact ⟨rfl, rfl⟩
    · exact absurd rfl hp11
  · skip
    rw [e9] at h
    refine Or.inr ⟨q10, e9, ?_⟩
    replace h : EV F f 70 z70 20 [some (rf 4 (0)), some (.inl (x1)), some (.inl (x2)), some (.inr (.inr (some q10))), some (.inr (.inr (v5)))] [.inr (.inr (some q10))] σ (.inl (some (.inl w)), σ') := h
    replace h := ei_c h rfl rfl rfl
    rcases h with ⟨hp12, f, g, h⟩ | ⟨hp12, f, g, h⟩
    · exact absurd hp12 (fun z => by cases z)
    · skip
      clear g
      replace h : EV F f 70 z70 23 [some (rf 4 (0)), some (.inl (x1)), some (.inl (x2)), some (.inr (.inr (some q10))), some (.inr (.inr (v5)))] [] σ (.inl (some (.inl w)), σ') := h
      replace h := ei_p h rfl rfl rfl rfl
      obtain ⟨f, g, h⟩ := h
      clear g
      replace h : EV F f 70 z70 25 [some (rf 4 (0)), some (.inl (x1)), some (.inl (x2)), some (.inr (.inr (some q10))), some (.inr (.inr (v5)))] [.inr (.inr (v5))] σ (.inl (some (.inl w)), σ') := h
      rcases r_cs (v5) with e13 | ⟨q14, e13⟩
      · skip
        rw [e13] at h
        refine Or.inl ⟨e13, ?_⟩
        replace h : EV F f 70 z70 25 [some (rf 4 (0)), some (.inl (x1)), some (.inl (x2)), some (.inr (.inr (some q10))), some (.inr (.inr none))] [.inr (.inr none)] σ (.inl (some (.inl w)), σ') := h
        replace h := ei_c h rfl rfl rfl
        rcases h with ⟨hp15, f, g, h⟩ | ⟨hp15, f, g, h⟩
        · skip
          clear g
          replace h : EV F f 70 z70 40 [some (rf 4 (0)), some (.inl (x1)), some (.inl (x2)), some (.inr (.inr (some q10))), some (.inr (.inr none))] [] σ (.inl (some (.inl w)), σ') := h
          replace h := ei_p h rfl rfl rfl rfl
          obtain ⟨f, g, h⟩ := h
          clear g
          replace h : EV F f 70 z70 41 [some (rf 4 (0)), some (.inl (x1)), some (.inl (x2)), some (.inr (.inr (some q10))), some (.inr (.inr none))] [.inl (Int32.ofInt 0)] σ (.inl (some (.inl w)), σ') := h
          have e := ei_iret h rfl
          cases e
          exact ⟨rfl, rfl⟩
        · exact absurd rfl hp15
      · skip
        rw [e13] at h
        refine Or.inr ⟨q14, e13, ?_⟩
        replace h : EV F f 70 z70 25 [some (rf 4 (0)), some (.inl (x1)), some (.inl (x2)), some (.inr (.inr (some q10))), some (.inr (.inr (some q14)))] [.inr (.inr (some q14))] σ (.inl (some (.inl w)), σ') := h
        replace h := ei_c h rfl rfl rfl
        rcases h with ⟨hp16, f, g, h⟩ | ⟨hp16, f, g, h⟩
        · exact absurd hp16 (fun z => by cases z)
        · skip
          clear g
          replace h : EV F f 70 z70 28 [some (rf 4 (0)), some (.inl (x1)), some (.inl (x2)), some (.inr (.inr (some q10))), some (.inr (.inr (some q14)))] [] σ (.inl (some (.inl w)), σ') := h
          replace h := ei_p h rfl rfl rfl rfl
          obtain ⟨f, g, h⟩ := h
          clear g
          replace h : EV F f 70 z70 29 [some (rf 4 (0)), some (.inl (x1)), some (.inl (x2)), some (.inr (.inr (some q10))), some (.inr (.inr (some q14)))] [.inr (.inr (some q10))] σ (.inl (some (.inl w)), σ') := h
          replace h := ei_p h rfl rfl rfl rfl
          obtain ⟨f, g, h⟩ := h
          clear g
          replace h : EV F f 70 z70 31 [some (rf 4 (0)), some (.inl (x1)), some (.inl (x2)), some (.inr (.inr (some q10))), some (.inr (.inr (some q14)))] [.inr (.inr (some q14)), .inr (.inr (some q10))] σ (.inl (some (.inl w)), σ') := h
          obtain ⟨i17, e18⟩ := ei_pp h rfl
          rw [Option.some.inj e18] at h
          refine ⟨i17, e18, ?_⟩
          replace h : EV F f 70 z70 31 [some (rf 4 (0)), some (.inl (x1)), some (.inl (x2)), some (rf 7 (i17)), some (.inr (.inr (some q14)))] [.inr (.inr (some q14)), rf 7 (i17)] σ (.inl (some (.inl w)), σ') := h
          replace h := ei_put h rfl
          obtain ⟨ht19, f, g, h⟩ := h
          clear g
          obtain ⟨σ20, e21⟩ : ∃ s, s = m_set σ 7 (i17) (12) (.inr (.inr (some q14))) := ⟨_, rfl⟩
          rw [← e21] at h
          have hsσ20 : HS σ20 := by rw [e21]; exact HS_set hs rfl
          refine ⟨σ20, e21, ?_⟩
          replace h : EV F f 70 z70 34 [some (rf 4 (0)), some (.inl (x1)), some (.inl (x2)), some (rf 7 (i17)), some (.inr (.inr (some q14)))] [] σ20 (.inl (some (.inl w)), σ') := h
          replace h := ei_p h rfl rfl rfl rfl
          obtain ⟨f, g, h⟩ := h
          clear g
          replace h : EV F f 70 z70 36 [some (rf 4 (0)), some (.inl (x1)), some (.inl (x2)), some (rf 7 (i17)), some (.inr (.inr (some q14)))] [.inr (.inr (some q14))] σ20 (.inl (some (.inl w)), σ') := h
          replace h := ei_p h rfl rfl rfl rfl
          obtain ⟨f, g, h⟩ := h
          clear g
          replace h : EV F f 70 z70 37 [some (rf 4 (0)), some (.inl (x1)), some (.inl (x2)), some (rf 7 (i17)), some (.inr (.inr (some q14)))] [rf 7 (i17), .inr (.inr (some q14))] σ20 (.inl (some (.inl w)), σ') := h
          obtain ⟨i22, e23⟩ := ei_pp h rfl
          rw [Option.some.inj e23] at h
          refine ⟨i22, e23, ?_⟩
          replace h : EV F f 70 z70 37 [some (rf 4 (0)), some (.inl (x1)), some (.inl (x2)), some (rf 7 (i17)), some (rf 7 (i22))] [rf 7 (i17), rf 7 (i22)] σ20 (.inl (some (.inl w)), σ') := h
          replace h := ei_put h rfl
          obtain ⟨ht24, f, g, h⟩ := h
          clear g
          obtain ⟨σ25, e26⟩ : ∃ s, s = m_set σ20 7 (i22) (12) (rf 7 (i17)) := ⟨_, rfl⟩
          rw [← e26] at h
          have hsσ25 : HS σ25 := by rw [e26]; exact HS_set hsσ20 rfl
          refine ⟨σ25, e26, ?_⟩
          replace h : EV F f 70 z70 40 [some (rf 4 (0)), some (.inl (x1)), some (.inl (x2)), some (rf 7 (i17)), some (rf 7 (i22))] [] σ25 (.inl (some (.inl w)), σ') := h
          replace h := ei_p h rfl rfl rfl rfl
          obtain ⟨f, g, h⟩ := h
          clear g
          replace h : EV F f 70 z70 41 [some (rf 4 (0)), some (.inl (x1)), some (.inl (x2)), some (rf 7 (i17)), some (rf 7 (i22))] [.inl (Int32.ofInt 0)] σ25 (.inl (some (.inl w)), σ') := h
          have e := ei_iret h rfl
          cases e
          exact ⟨rfl, rfl⟩
def z71 : mAl := ((yX4_cancelOrder, cX4_cancelOrder, 5, (some .int), { frames := 1, cells := 0, slots := 0, locals := 27 }, []), rw_X4_cancelOrder, false)
theorem z71_at : m_alF[71]? = some z71 := rfl
abbrev L71 : List (Nat × Nat) := [(6, 6), (7, 6), (7, 7), (7, 9), (7, 12)]
abbrev w71 : Nat → Nat → Bool := wl L71
def S71 : List Nat := [3, 22, 35, 71, 106]
theorem W71 : fw_S w71 S71 = true := by decide +kernel
def P71 (σ : mS) (x1 : Int32) (w : Int32) (σ' : mS) : Prop := ∃ v1, P3 σ (x1) v1 ∧ ((v1 = none ∧ w = (Int32.ofInt 0) ∧ σ' = σ) ∨ (∃ q6, v1 = some q6 ∧ ∃ i9, (some q6 : mR) = some (7, i9) ∧ ∃ v11, P22 σ (m_i σ 7 (i9) 1) v11 ∧ ((v11 = none ∧ ∃ σ19, fw_e w106 σ σ19 ∧ P106 σ (i9) σ19 ∧ w = (m_i σ 7 (i9) 6) ∧ σ' = σ19) ∨ (∃ q16, v11 = some q16 ∧ (((2 : Int) < ((m_i σ 2 (0) 7) - (m_i σ 7 (i9) 10)).toInt ∧ ∃ σ25, fw_e w106 σ σ25 ∧ P106 σ (i9) σ25 ∧ w = (m_i σ 7 (i9) 6) ∧ σ' = σ25) ∨ (¬ ((2 : Int) < ((m_i σ 2 (0) 7) - (m_i σ 7 (i9) 10)).toInt) ∧ ∃ v28, P35 σ (m_i σ 7 (i9) 1) (m_i σ 7 (i9) 2) ((Int32.ofInt 1) - (m_i σ 7 (i9) 3)) (m_i σ 7 (i9) 10) v28 ∧ (((v28).toInt = (0 : Int) ∧ ∃ σ34, fw_e w106 σ σ34 ∧ P106 σ (i9) σ34 ∧ w = (m_i σ 7 (i9) 6) ∧ σ' = σ34) ∨ (¬ ((v28).toInt = (0 : Int)) ∧ ∃ i37, (some q16 : mR) = some (6, i37) ∧ ∃ σ40, σ40 = m_set σ 6 (i37) (6) (.inl ((m_i σ 6 (i37) 6) + (Int32.ofInt 1))) ∧ ∃ σ43, fw_e w106 σ40 σ43 ∧ P106 σ40 (i9) σ43 ∧ w = (m_i σ40 7 (i9) 6) ∧ σ' = σ43))))))))
theorem x71 {σ σ' : mS} {x1 : Int32} {w : Int32} (hs : HS σ) (h : ev_run sm_all 71 [rf 4 (0), .inl (x1)] σ (.inl (some (.inl w))) σ') : P71 σ x1 w σ' := by
  unfold P71
  obtain ⟨F, f, h⟩ := ei_go h z71_at
  replace h : EV F f 71 z71 0 [some (rf 4 (0)), some (.inl (x1)), none, none, none] [] σ (.inl (some (.inl w)), σ') := h
  replace h := ei_p h rfl rfl rfl rfl
  obtain ⟨f, g, h⟩ := h
  clear g
  replace h : EV F f 71 z71 1 [some (rf 4 (0)), some (.inl (x1)), none, none, none] [rf 4 (0)] σ (.inl (some (.inl w)), σ') := h
  replace h := ei_get h rfl (HS_g4_0 hs)
  obtain ⟨f, g, h⟩ := h
  clear g
  replace h : EV F f 71 z71 4 [some (rf 4 (0)), some (.inl (x1)), none, none, none] [rf 0 (0)] σ (.inl (some (.inl w)), σ') := h
  replace h := ei_p h rfl rfl rfl rfl
  obtain ⟨f, g, h⟩ := h
  clear g
  replace h : EV F f 71 z71 5 [some (rf 4 (0)), some (.inl (x1)), none, none, none] [.inl (x1), rf 0 (0)] σ (.inl (some (.inl w)), σ') := h
  replace h := bk_R (ei_v (as := [.inl (x1)]) h rfl rfl rfl) rfl z3_at rfl
  obtain ⟨v1, σ2, r3, f, g, h⟩ := h
  clear g
  have er3 := ro_run rfl r3
  rw [er3] at h r3
  have p4 := x3 hs r3
  refine ⟨v1, p4, ?_⟩
  replace h : EV F f 71 z71 8 [some (rf 4 (0)), some (.inl (x1)), none, none, none] [.inr (.inr (v1))] σ (.inl (some (.inl w)), σ') := h
  replace h := ei_p h rfl rfl rfl rfl
  obtain ⟨f, g, h⟩ := h
  clear g
  replace h : EV F f 71 z71 9 [some (rf 4 (0)), some (.inl (x1)), some (.inr (.inr (v1))), none, none] [] σ (.inl (some (.inl w)), σ') := h
  replace h := ei_p h rfl rfl rfl rfl
  obtain ⟨f, g, h⟩ := h
  clear g
  replace h : EV F f 71 z71 10 [some (rf 4 (0)), some (.inl (x1)), some (.inr (.inr (v1))), none, none] [.inr (.inr (v1))] σ (.inl (some (.inl w)), σ') := h
  rcases r_cs (v1) with e5 | ⟨q6, e5⟩
  · skip
    rw [e5] at h
    refine Or.inl ⟨e5, ?_⟩
    replace h : EV F f 71 z71 10 [some (rf 4 (0)), some (.inl (x1)), some (.inr (.inr none)), none, none] [.inr (.inr none)] σ (.inl (some (.inl w)), σ') := h
    replace h := ei_c h rfl rfl rfl
    rcases h with ⟨hp7, f, g, h⟩ | ⟨hp7, f, g, h⟩
    · exact absurd rfl hp7
    · skip
      clear g
      replace h : EV F f 71 z71 13 [some (rf 4 (0)), some (.inl (x1)), some (.inr (.inr none)), none, none] [] σ (.inl (some (.inl w)), σ') := h
      replace h := ei_p h rfl rfl rfl rfl
      obtain ⟨f, g, h⟩ := h
      clear g
      replace h : EV F f 71 z71 14 [some (rf 4 (0)), some (.inl (x1)), some (.inr (.inr none)), none, none] [.inl (Int32.ofInt 0)] σ (.inl (some (.inl w)), σ') := h
      have e := ei_iret h rfl
      cases e
      exact ⟨rfl, rfl⟩
  · skip
    rw [e5] at h
    refine Or.inr ⟨q6, e5, ?_⟩
    replace h : EV F f 71 z71 10 [some (rf 4 (0)), some (.inl (x1)), some (.inr (.inr (some q6))), none, none] [.inr (.inr (some q6))] σ (.inl (some (.inl w)), σ') := h
    replace h := ei_c h rfl rfl rfl
    rcases h with ⟨hp8, f, g, h⟩ | ⟨hp8, f, g, h⟩
    · skip
      clear g
      replace h : EV F f 71 z71 15 [some (rf 4 (0)), some (.inl (x1)), some (.inr (.inr (some q6))), none, none] [] σ (.inl (some (.inl w)), σ') := h
      replace h := ei_p h rfl rfl rfl rfl
      obtain ⟨f, g, h⟩ := h
      clear g
      replace h : EV F f 71 z71 16 [some (rf 4 (0)), some (.inl (x1)), some (.inr (.inr (some q6))), none, none] [rf 4 (0)] σ (.inl (some (.inl w)), σ') := h
      replace h := ei_get h rfl (HS_g4_1 hs)
      obtain ⟨f, g, h⟩ := h
      clear g
      replace h : EV F f 71 z71 19 [some (rf 4 (0)), some (.inl (x1)), some (.inr (.inr (some q6))), none, none] [rf 2 (0)] σ (.inl (some (.inl w)), σ') := h
      replace h := ei_p h rfl rfl rfl rfl
      obtain ⟨f, g, h⟩ := h
      clear g
      replace h : EV F f 71 z71 20 [some (rf 4 (0)), some (.inl (x1)), some (.inr (.inr (some q6))), none, none] [.inr (.inr (some q6)), rf 2 (0)] σ (.inl (some (.inl w)), σ') := h
      obtain ⟨i9, e10⟩ := ei_gp h rfl
      rw [Option.some.inj e10] at h
      refine ⟨i9, e10, ?_⟩
      replace h : EV F f 71 z71 20 [some (rf 4 (0)), some (.inl (x1)), some (rf 7 (i9)), none, none] [rf 7 (i9), rf 2 (0)] σ (.inl (some (.inl w)), σ') := h
      replace h := ei_get h rfl rfl
      obtain ⟨f, g, h⟩ := h
      clear g
      replace h : EV F f 71 z71 23 [some (rf 4 (0)), some (.inl (x1)), some (rf 7 (i9)), none, none] [.inl (m_i σ 7 (i9) 1), rf 2 (0)] σ (.inl (some (.inl w)), σ') := h
      replace h := bk_R (ei_v (as := [.inl (m_i σ 7 (i9) 1)]) h rfl rfl rfl) rfl z22_at rfl
      obtain ⟨v11, σ12, r13, f, g, h⟩ := h
      clear g
      have er13 := ro_run rfl r13
      rw [er13] at h r13
      have p14 := x22 hs r13
      refine ⟨v11, p14, ?_⟩
      replace h : EV F f 71 z71 26 [some (rf 4 (0)), some (.inl (x1)), some (rf 7 (i9)), none, none] [.inr (.inr (v11))] σ (.inl (some (.inl w)), σ') := h
      replace h := ei_p h rfl rfl rfl rfl
      obtain ⟨f, g, h⟩ := h
      clear g
      replace h : EV F f 71 z71 27 [some (rf 4 (0)), some (.inl (x1)), some (rf 7 (i9)), some (.inr (.inr (v11))), none] [] σ (.inl (some (.inl w)), σ') := h
      replace h := ei_p h rfl rfl rfl rfl
      obtain ⟨f, g, h⟩ := h
      clear g
      replace h : EV F f 71 z71 28 [some (rf 4 (0)), some (.inl (x1)), some (rf 7 (i9)), some (.inr (.inr (v11))), none] [.inr (.inr (v11))] σ (.inl (some (.inl w)), σ') := h
      rcases r_cs (v11) with e15 | ⟨q16, e15⟩
      · skip
        rw [e15] at h
        refine Or.inl ⟨e15, ?_⟩
        replace h : EV F f 71 z71 28 [some (rf 4 (0)), some (.inl (x1)), some (rf 7 (i9)), some (.inr (.inr none)), none] [.inr (.inr none)] σ (.inl (some (.inl w)), σ') := h
        replace h := ei_c h rfl rfl rfl
        rcases h with ⟨hp17, f, g, h⟩ | ⟨hp17, f, g, h⟩
        · skip
          clear g
          replace h : EV F f 71 z71 85 [some (rf 4 (0)), some (.inl (x1)), some (rf 7 (i9)), some (.inr (.inr none)), none] [] σ (.inl (some (.inl w)), σ') := h
          replace h := ei_p h rfl rfl rfl rfl
          obtain ⟨f, g, h⟩ := h
          clear g
          replace h : EV F f 71 z71 86 [some (rf 4 (0)), some (.inl (x1)), some (rf 7 (i9)), some (.inr (.inr none)), none] [rf 7 (i9)] σ (.inl (some (.inl w)), σ') := h
          replace h := ei_get h rfl rfl
          obtain ⟨f, g, h⟩ := h
          clear g
          replace h : EV F f 71 z71 89 [some (rf 4 (0)), some (.inl (x1)), some (rf 7 (i9)), some (.inr (.inr none)), none] [.inl (m_i σ 7 (i9) 6)] σ (.inl (some (.inl w)), σ') := h
          replace h := ei_p h rfl rfl rfl rfl
          obtain ⟨f, g, h⟩ := h
          clear g
          replace h : EV F f 71 z71 91 [some (rf 4 (0)), some (.inl (x1)), some (rf 7 (i9)), some (.inr (.inr none)), some (.inl (m_i σ 7 (i9) 6))] [] σ (.inl (some (.inl w)), σ') := h
          replace h := ei_p h rfl rfl rfl rfl
          obtain ⟨f, g, h⟩ := h
          clear g
          replace h : EV F f 71 z71 92 [some (rf 4 (0)), some (.inl (x1)), some (rf 7 (i9)), some (.inr (.inr none)), some (.inl (m_i σ 7 (i9) 6))] [rf 7 (i9)] σ (.inl (some (.inl w)), σ') := h
          replace h := bk_0 (ei_v (as := []) h rfl rfl rfl) rfl z106_at rfl
          obtain ⟨σ19, r20, f, g, h⟩ := h
          clear g
          have p21 := x106 hs r20
          have hsσ19 : HS σ19 := HS_run rfl r20 hs
          refine ⟨σ19, fw_run W106 rfl r20, p21, ?_⟩
          replace h : EV F f 71 z71 95 [some (rf 4 (0)), some (.inl (x1)), some (rf 7 (i9)), some (.inr (.inr none)), some (.inl (m_i σ 7 (i9) 6))] [] σ19 (.inl (some (.inl w)), σ') := h
          replace h := ei_p h rfl rfl rfl rfl
          obtain ⟨f, g, h⟩ := h
          clear g
          replace h : EV F f 71 z71 97 [some (rf 4 (0)), some (.inl (x1)), some (rf 7 (i9)), some (.inr (.inr none)), some (.inl (m_i σ 7 (i9) 6))] [.inl (m_i σ 7 (i9) 6)] σ19 (.inl (some (.inl w)), σ') := h
          have e := ei_iret h rfl
          cases e
          exact ⟨rfl, rfl⟩
        · exact absurd rfl hp17
      · skip
        rw [e15] at h
        refine Or.inr ⟨q16, e15, ?_⟩
        replace h : EV F f 71 z71 28 [some (rf 4 (0)), some (.inl (x1)), some (rf 7 (i9)), some (.inr (.inr (some q16))), none] [.inr (.inr (some q16))] σ (.inl (some (.inl w)), σ') := h
        replace h := ei_c h rfl rfl rfl
        rcases h with ⟨hp22, f, g, h⟩ | ⟨hp22, f, g, h⟩
        · exact absurd hp22 (fun z => by cases z)
        · skip
          clear g
          replace h : EV F f 71 z71 31 [some (rf 4 (0)), some (.inl (x1)), some (rf 7 (i9)), some (.inr (.inr (some q16))), none] [] σ (.inl (some (.inl w)), σ') := h
          replace h := ei_p h rfl rfl rfl rfl
          obtain ⟨f, g, h⟩ := h
          clear g
          replace h : EV F f 71 z71 32 [some (rf 4 (0)), some (.inl (x1)), some (rf 7 (i9)), some (.inr (.inr (some q16))), none] [rf 4 (0)] σ (.inl (some (.inl w)), σ') := h
          replace h := ei_get h rfl (HS_g4_1 hs)
          obtain ⟨f, g, h⟩ := h
          clear g
          replace h : EV F f 71 z71 35 [some (rf 4 (0)), some (.inl (x1)), some (rf 7 (i9)), some (.inr (.inr (some q16))), none] [rf 2 (0)] σ (.inl (some (.inl w)), σ') := h
          replace h := ei_get h rfl rfl
          obtain ⟨f, g, h⟩ := h
          clear g
          replace h : EV F f 71 z71 38 [some (rf 4 (0)), some (.inl (x1)), some (rf 7 (i9)), some (.inr (.inr (some q16))), none] [.inl (m_i σ 2 (0) 7)] σ (.inl (some (.inl w)), σ') := h
          replace h := ei_p h rfl rfl rfl rfl
          obtain ⟨f, g, h⟩ := h
          clear g
          replace h : EV F f 71 z71 39 [some (rf 4 (0)), some (.inl (x1)), some (rf 7 (i9)), some (.inr (.inr (some q16))), none] [rf 7 (i9), .inl (m_i σ 2 (0) 7)] σ (.inl (some (.inl w)), σ') := h
          replace h := ei_get h rfl rfl
          obtain ⟨f, g, h⟩ := h
          clear g
          replace h : EV F f 71 z71 42 [some (rf 4 (0)), some (.inl (x1)), some (rf 7 (i9)), some (.inr (.inr (some q16))), none] [.inl (m_i σ 7 (i9) 10), .inl (m_i σ 2 (0) 7)] σ (.inl (some (.inl w)), σ') := h
          replace h := ei_p h rfl rfl rfl rfl
          obtain ⟨f, g, h⟩ := h
          clear g
          replace h : EV F f 71 z71 43 [some (rf 4 (0)), some (.inl (x1)), some (rf 7 (i9)), some (.inr (.inr (some q16))), none] [.inl ((m_i σ 2 (0) 7) - (m_i σ 7 (i9) 10))] σ (.inl (some (.inl w)), σ') := h
          replace h := ei_p h rfl rfl rfl rfl
          obtain ⟨f, g, h⟩ := h
          clear g
          replace h : EV F f 71 z71 44 [some (rf 4 (0)), some (.inl (x1)), some (rf 7 (i9)), some (.inr (.inr (some q16))), none] [.inl (Int32.ofInt 2), .inl ((m_i σ 2 (0) 7) - (m_i σ 7 (i9) 10))] σ (.inl (some (.inl w)), σ') := h
          replace h := ei_c h rfl rfl rfl
          rcases h with ⟨hp23, f, g, h⟩ | ⟨hp23, f, g, h⟩
          · skip
            replace hp23 : (2 : Int) < ((m_i σ 2 (0) 7) - (m_i σ 7 (i9) 10)).toInt := ic_gt.mp hp23
            refine Or.inl ⟨hp23, ?_⟩
            clear g
            replace h : EV F f 71 z71 85 [some (rf 4 (0)), some (.inl (x1)), some (rf 7 (i9)), some (.inr (.inr (some q16))), none] [] σ (.inl (some (.inl w)), σ') := h
            replace h := ei_p h rfl rfl rfl rfl
            obtain ⟨f, g, h⟩ := h
            clear g
            replace h : EV F f 71 z71 86 [some (rf 4 (0)), some (.inl (x1)), some (rf 7 (i9)), some (.inr (.inr (some q16))), none] [rf 7 (i9)] σ (.inl (some (.inl w)), σ') := h
            replace h := ei_get h rfl rfl
            obtain ⟨f, g, h⟩ := h
            clear g
            replace h : EV F f 71 z71 89 [some (rf 4 (0)), some (.inl (x1)), some (rf 7 (i9)), some (.inr (.inr (some q16))), none] [.inl (m_i σ 7 (i9) 6)] σ (.inl (some (.inl w)), σ') := h
            replace h := ei_p h rfl rfl rfl rfl
            obtain ⟨f, g, h⟩ := h
            clear g
            replace h : EV F f 71 z71 91 [some (rf 4 (0)), some (.inl (x1)), some (rf 7 (i9)), some (.inr (.inr (some q16))), some (.inl (m_i σ 7 (i9) 6))] [] σ (.inl (some (.inl w)), σ') := h
            replace h := ei_p h rfl rfl rfl rfl
            obtain ⟨f, g, h⟩ := h
            clear g
            replace h : EV F f 71 z71 92 [some (rf 4 (0)), some (.inl (x1)), some (rf 7 (i9)), some (.inr (.inr (some q16))), some (.inl (m_i σ 7 (i9) 6))] [rf 7 (i9)] σ (.inl (some (.inl w)), σ') := h
            replace h := bk_0 (ei_v (as := []) h rfl rfl rfl) rfl z106_at rfl
            obtain ⟨σ25, r26, f, g, h⟩ := h
            clear g
            have p27 := x106 hs r26
            have hsσ25 : HS σ25 := HS_run rfl r26 hs
            refine ⟨σ25, fw_run W106 rfl r26, p27, ?_⟩
            replace h : EV F f 71 z71 95 [some (rf 4 (0)), some (.inl (x1)), some (rf 7 (i9)), some (.inr (.inr (some q16))), some (.inl (m_i σ 7 (i9) 6))] [] σ25 (.inl (some (.inl w)), σ') := h
            replace h := ei_p h rfl rfl rfl rfl
            obtain ⟨f, g, h⟩ := h
            clear g
            replace h : EV F f 71 z71 97 [some (rf 4 (0)), some (.inl (x1)), some (rf 7 (i9)), some (.inr (.inr (some q16))), some (.inl (m_i σ 7 (i9) 6))] [.inl (m_i σ 7 (i9) 6)] σ25 (.inl (some (.inl w)), σ') := h
            have e := ei_iret h rfl
            cases e
            exact ⟨rfl, rfl⟩
          · skip
            replace hp23 : ¬ ((2 : Int) < ((m_i σ 2 (0) 7) - (m_i σ 7 (i9) 10)).toInt) := (not_congr ic_gt).mp hp23
            refine Or.inr ⟨hp23, ?_⟩
            clear g
            replace h : EV F f 71 z71 47 [some (rf 4 (0)), some (.inl (x1)), some (rf 7 (i9)), some (.inr (.inr (some q16))), none] [] σ (.inl (some (.inl w)), σ') := h
            replace h := ei_p h rfl rfl rfl rfl
            obtain ⟨f, g, h⟩ := h
            clear g
            replace h : EV F f 71 z71 48 [some (rf 4 (0)), some (.inl (x1)), some (rf 7 (i9)), some (.inr (.inr (some q16))), none] [rf 4 (0)] σ (.inl (some (.inl w)), σ') := h
            replace h := ei_get h rfl (HS_g4_1 hs)
            obtain ⟨f, g, h⟩ := h
            clear g
            replace h : EV F f 71 z71 51 [some (rf 4 (0)), some (.inl (x1)), some (rf 7 (i9)), some (.inr (.inr (some q16))), none] [rf 2 (0)] σ (.inl (some (.inl w)), σ') := h
            replace h := ei_p h rfl rfl rfl rfl
            obtain ⟨f, g, h⟩ := h
            clear g
            replace h : EV F f 71 z71 52 [some (rf 4 (0)), some (.inl (x1)), some (rf 7 (i9)), some (.inr (.inr (some q16))), none] [rf 7 (i9), rf 2 (0)] σ (.inl (some (.inl w)), σ') := h
            replace h := ei_get h rfl rfl
            obtain ⟨f, g, h⟩ := h
            clear g
            replace h : EV F f 71 z71 55 [some (rf 4 (0)), some (.inl (x1)), some (rf 7 (i9)), some (.inr (.inr (some q16))), none] [.inl (m_i σ 7 (i9) 1), rf 2 (0)] σ (.inl (some (.inl w)), σ') := h
            replace h := ei_p h rfl rfl rfl rfl
            obtain ⟨f, g, h⟩ := h
            clear g
            replace h : EV F f 71 z71 56 [some (rf 4 (0)), some (.inl (x1)), some (rf 7 (i9)), some (.inr (.inr (some q16))), none] [rf 7 (i9), .inl (m_i σ 7 (i9) 1), rf 2 (0)] σ (.inl (some (.inl w)), σ') := h
            replace h := ei_get h rfl rfl
            obtain ⟨f, g, h⟩ := h
            clear g
            replace h : EV F f 71 z71 59 [some (rf 4 (0)), some (.inl (x1)), some (rf 7 (i9)), some (.inr (.inr (some q16))), none] [.inl (m_i σ 7 (i9) 2), .inl (m_i σ 7 (i9) 1), rf 2 (0)] σ (.inl (some (.inl w)), σ') := h
            replace h := ei_p h rfl rfl rfl rfl
            obtain ⟨f, g, h⟩ := h
            clear g
            replace h : EV F f 71 z71 60 [some (rf 4 (0)), some (.inl (x1)), some (rf 7 (i9)), some (.inr (.inr (some q16))), none] [.inl (Int32.ofInt 1), .inl (m_i σ 7 (i9) 2), .inl (m_i σ 7 (i9) 1), rf 2 (0)] σ (.inl (some (.inl w)), σ') := h
            replace h := ei_p h rfl rfl rfl rfl
            obtain ⟨f, g, h⟩ := h
            clear g
            replace h : EV F f 71 z71 61 [some (rf 4 (0)), some (.inl (x1)), some (rf 7 (i9)), some (.inr (.inr (some q16))), none] [rf 7 (i9), .inl (Int32.ofInt 1), .inl (m_i σ 7 (i9) 2), .inl (m_i σ 7 (i9) 1), rf 2 (0)] σ (.inl (some (.inl w)), σ') := h
            replace h := ei_get h rfl rfl
            obtain ⟨f, g, h⟩ := h
            clear g
            replace h : EV F f 71 z71 64 [some (rf 4 (0)), some (.inl (x1)), some (rf 7 (i9)), some (.inr (.inr (some q16))), none] [.inl (m_i σ 7 (i9) 3), .inl (Int32.ofInt 1), .inl (m_i σ 7 (i9) 2), .inl (m_i σ 7 (i9) 1), rf 2 (0)] σ (.inl (some (.inl w)), σ') := h
            replace h := ei_p h rfl rfl rfl rfl
            obtain ⟨f, g, h⟩ := h
            clear g
            replace h : EV F f 71 z71 65 [some (rf 4 (0)), some (.inl (x1)), some (rf 7 (i9)), some (.inr (.inr (some q16))), none] [.inl ((Int32.ofInt 1) - (m_i σ 7 (i9) 3)), .inl (m_i σ 7 (i9) 2), .inl (m_i σ 7 (i9) 1), rf 2 (0)] σ (.inl (some (.inl w)), σ') := h
            replace h := ei_p h rfl rfl rfl rfl
            obtain ⟨f, g, h⟩ := h
            clear g
            replace h : EV F f 71 z71 66 [some (rf 4 (0)), some (.inl (x1)), some (rf 7 (i9)), some (.inr (.inr (some q16))), none] [rf 7 (i9), .inl ((Int32.ofInt 1) - (m_i σ 7 (i9) 3)), .inl (m_i σ 7 (i9) 2), .inl (m_i σ 7 (i9) 1), rf 2 (0)] σ (.inl (some (.inl w)), σ') := h
            replace h := ei_get h rfl rfl
            obtain ⟨f, g, h⟩ := h
            clear g
            replace h : EV F f 71 z71 69 [some (rf 4 (0)), some (.inl (x1)), some (rf 7 (i9)), some (.inr (.inr (some q16))), none] [.inl (m_i σ 7 (i9) 10), .inl ((Int32.ofInt 1) - (m_i σ 7 (i9) 3)), .inl (m_i σ 7 (i9) 2), .inl (m_i σ 7 (i9) 1), rf 2 (0)] σ (.inl (some (.inl w)), σ') := h
            replace h := bk_I (ei_v (as := [.inl (m_i σ 7 (i9) 10), .inl ((Int32.ofInt 1) - (m_i σ 7 (i9) 3)), .inl (m_i σ 7 (i9) 2), .inl (m_i σ 7 (i9) 1)]) h rfl rfl rfl) rfl z35_at (Or.inr rfl)
            obtain ⟨v28, σ29, r30, f, g, h⟩ := h
            clear g
            have er30 := ro_run rfl r30
            rw [er30] at h r30
            have p31 := x35 hs r30
            refine ⟨v28, p31, ?_⟩
            replace h : EV F f 71 z71 72 [some (rf 4 (0)), some (.inl (x1)), some (rf 7 (i9)), some (.inr (.inr (some q16))), none] [.inl (v28)] σ (.inl (some (.inl w)), σ') := h
            replace h := ei_c h rfl rfl rfl
            rcases h with ⟨hp32, f, g, h⟩ | ⟨hp32, f, g, h⟩
            · skip
              replace hp32 : (v28).toInt = (0 : Int) := ic_eq.mp hp32
              refine Or.inl ⟨hp32, ?_⟩
              clear g
              replace h : EV F f 71 z71 85 [some (rf 4 (0)), some (.inl (x1)), some (rf 7 (i9)), some (.inr (.inr (some q16))), none] [] σ (.inl (some (.inl w)), σ') := h
              replace h := ei_p h rfl rfl rfl rfl
              obtain ⟨f, g, h⟩ := h
              clear g
              replace h : EV F f 71 z71 86 [some (rf 4 (0)), some (.inl (x1)), some (rf 7 (i9)), some (.inr (.inr (some q16))), none] [rf 7 (i9)] σ (.inl (some (.inl w)), σ') := h
              replace h := ei_get h rfl rfl
              obtain ⟨f, g, h⟩ := h
              clear g
              replace h : EV F f 71 z71 89 [some (rf 4 (0)), some (.inl (x1)), some (rf 7 (i9)), some (.inr (.inr (some q16))), none] [.inl (m_i σ 7 (i9) 6)] σ (.inl (some (.inl w)), σ') := h
              replace h := ei_p h rfl rfl rfl rfl
              obtain ⟨f, g, h⟩ := h
              clear g
              replace h : EV F f 71 z71 91 [some (rf 4 (0)), some (.inl (x1)), some (rf 7 (i9)), some (.inr (.inr (some q16))), some (.inl (m_i σ 7 (i9) 6))] [] σ (.inl (some (.inl w)), σ') := h
              replace h := ei_p h rfl rfl rfl rfl
              obtain ⟨f, g, h⟩ := h
              clear g
              replace h : EV F f 71 z71 92 [some (rf 4 (0)), some (.inl (x1)), some (rf 7 (i9)), some (.inr (.inr (some q16))), some (.inl (m_i σ 7 (i9) 6))] [rf 7 (i9)] σ (.inl (some (.inl w)), σ') := h
              replace h := bk_0 (ei_v (as := []) h rfl rfl rfl) rfl z106_at rfl
              obtain ⟨σ34, r35, f, g, h⟩ := h
              clear g
              have p36 := x106 hs r35
              have hsσ34 : HS σ34 := HS_run rfl r35 hs
              refine ⟨σ34, fw_run W106 rfl r35, p36, ?_⟩
              replace h : EV F f 71 z71 95 [some (rf 4 (0)), some (.inl (x1)), some (rf 7 (i9)), some (.inr (.inr (some q16))), some (.inl (m_i σ 7 (i9) 6))] [] σ34 (.inl (some (.inl w)), σ') := h
              replace h := ei_p h rfl rfl rfl rfl
              obtain ⟨f, g, h⟩ := h
              clear g
              replace h : EV F f 71 z71 97 [some (rf 4 (0)), some (.inl (x1)), some (rf 7 (i9)), some (.inr (.inr (some q16))), some (.inl (m_i σ 7 (i9) 6))] [.inl (m_i σ 7 (i9) 6)] σ34 (.inl (some (.inl w)), σ') := h
              have e := ei_iret h rfl
              cases e
              exact ⟨rfl, rfl⟩
            · skip
              replace hp32 : ¬ ((v28).toInt = (0 : Int)) := (not_congr ic_eq).mp hp32
              refine Or.inr ⟨hp32, ?_⟩
              clear g
              replace h : EV F f 71 z71 75 [some (rf 4 (0)), some (.inl (x1)), some (rf 7 (i9)), some (.inr (.inr (some q16))), none] [] σ (.inl (some (.inl w)), σ') := h
              replace h := ei_p h rfl rfl rfl rfl
              obtain ⟨f, g, h⟩ := h
              clear g
              replace h : EV F f 71 z71 76 [some (rf 4 (0)), some (.inl (x1)), some (rf 7 (i9)), some (.inr (.inr (some q16))), none] [.inr (.inr (some q16))] σ (.inl (some (.inl w)), σ') := h
              replace h := ei_p h rfl rfl rfl rfl
              obtain ⟨f, g, h⟩ := h
              clear g
              replace h : EV F f 71 z71 77 [some (rf 4 (0)), some (.inl (x1)), some (rf 7 (i9)), some (.inr (.inr (some q16))), none] [.inr (.inr (some q16)), .inr (.inr (some q16))] σ (.inl (some (.inl w)), σ') := h
              obtain ⟨i37, e38⟩ := ei_gp h rfl
              rw [Option.some.inj e38] at h
              refine ⟨i37, e38, ?_⟩
              replace h : EV F f 71 z71 77 [some (rf 4 (0)), some (.inl (x1)), some (rf 7 (i9)), some (rf 6 (i37)), none] [rf 6 (i37), rf 6 (i37)] σ (.inl (some (.inl w)), σ') := h
              replace h := ei_get h rfl rfl
              obtain ⟨f, g, h⟩ := h
              clear g
              replace h : EV F f 71 z71 80 [some (rf 4 (0)), some (.inl (x1)), some (rf 7 (i9)), some (rf 6 (i37)), none] [.inl (m_i σ 6 (i37) 6), rf 6 (i37)] σ (.inl (some (.inl w)), σ') := h
              replace h := ei_p h rfl rfl rfl rfl
              obtain ⟨f, g, h⟩ := h
              clear g
              replace h : EV F f 71 z71 81 [some (rf 4 (0)), some (.inl (x1)), some (rf 7 (i9)), some (rf 6 (i37)), none] [.inl (Int32.ofInt 1), .inl (m_i σ 6 (i37) 6), rf 6 (i37)] σ (.inl (some (.inl w)), σ') := h
              replace h := ei_p h rfl rfl rfl rfl
              obtain ⟨f, g, h⟩ := h
              clear g
              replace h : EV F f 71 z71 82 [some (rf 4 (0)), some (.inl (x1)), some (rf 7 (i9)), some (rf 6 (i37)), none] [.inl ((m_i σ 6 (i37) 6) + (Int32.ofInt 1)), rf 6 (i37)] σ (.inl (some (.inl w)), σ') := h
              replace h := ei_put h rfl
              obtain ⟨ht39, f, g, h⟩ := h
              clear g
              obtain ⟨σ40, e41⟩ : ∃ s, s = m_set σ 6 (i37) (6) (.inl ((m_i σ 6 (i37) 6) + (Int32.ofInt 1))) := ⟨_, rfl⟩
              rw [← e41] at h
              have hsσ40 : HS σ40 := by rw [e41]; exact HS_set hs rfl
              refine ⟨σ40, e41, ?_⟩
              replace h : EV F f 71 z71 85 [some (rf 4 (0)), some (.inl (x1)), some (rf 7 (i9)), some (rf 6 (i37)), none] [] σ40 (.inl (some (.inl w)), σ') := h
              replace h := ei_p h rfl rfl rfl rfl
              obtain ⟨f, g, h⟩ := h
              clear g
              replace h : EV F f 71 z71 86 [some (rf 4 (0)), some (.inl (x1)), some (rf 7 (i9)), some (rf 6 (i37)), none] [rf 7 (i9)] σ40 (.inl (some (.inl w)), σ') := h
              replace h := ei_get h rfl rfl
              obtain ⟨f, g, h⟩ := h
              clear g
              replace h : EV F f 71 z71 89 [some (rf 4 (0)), some (.inl (x1)), some (rf 7 (i9)), some (rf 6 (i37)), none] [.inl (m_i σ40 7 (i9) 6)] σ40 (.inl (some (.inl w)), σ') := h
              replace h := ei_p h rfl rfl rfl rfl
              obtain ⟨f, g, h⟩ := h
              clear g
              replace h : EV F f 71 z71 91 [some (rf 4 (0)), some (.inl (x1)), some (rf 7 (i9)), some (rf 6 (i37)), some (.inl (m_i σ40 7 (i9) 6))] [] σ40 (.inl (some (.inl w)), σ') := h
              replace h := ei_p h rfl rfl rfl rfl
              obtain ⟨f, g, h⟩ := h
              clear g
              replace h : EV F f 71 z71 92 [some (rf 4 (0)), some (.inl (x1)), some (rf 7 (i9)), some (rf 6 (i37)), some (.inl (m_i σ40 7 (i9) 6))] [rf 7 (i9)] σ40 (.inl (some (.inl w)), σ') := h
              replace h := bk_0 (ei_v (as := []) h rfl rfl rfl) rfl z106_at rfl
              obtain ⟨σ43, r44, f, g, h⟩ := h
              clear g
              have p45 := x106 hsσ40 r44
              have hsσ43 : HS σ43 := HS_run rfl r44 hsσ40
              refine ⟨σ43, fw_run W106 rfl r44, p45, ?_⟩
              replace h : EV F f 71 z71 95 [some (rf 4 (0)), some (.inl (x1)), some (rf 7 (i9)), some (rf 6 (i37)), some (.inl (m_i σ40 7 (i9) 6))] [] σ43 (.inl (some (.inl w)), σ') := h
              replace h := ei_p h rfl rfl rfl rfl
              obtain ⟨f, g, h⟩ := h
              clear g
              replace h : EV F f 71 z71 97 [some (rf 4 (0)), some (.inl (x1)), some (rf 7 (i9)), some (rf 6 (i37)), some (.inl (m_i σ40 7 (i9) 6))] [.inl (m_i σ40 7 (i9) 6)] σ43 (.inl (some (.inl w)), σ') := h
              have e := ei_iret h rfl
              cases e
              exact ⟨rfl, rfl⟩
    · exact absurd (fun z => by cases z) hp8
def z73 : mAl := ((yX4_tradeSpread, cX4_tradeSpread, 10, (some .int), { frames := 3, cells := 0, slots := 0, locals := 63 }, []), rw_X4_tradeSpread, false)
theorem z73_at : m_alF[73]? = some z73 := rfl
abbrev L73 : List (Nat × Nat) := [(0, 2), (2, 5), (6, 2), (6, 5), (7, 6), (7, 7), (7, 9), (7, 11), (7, 12), (8, 2), (8, 3), (8, 7), (10, 0), (10, 1), (10, 2), (10, 3), (10, 4), (10, 5), (10, 6), (10, 7), (10, 8), (10, 9), (14, 0)]
abbrev w73 : Nat → Nat → Bool := wl L73
def S73 : List Nat := [5, 12, 22, 24, 32, 68, 73, 91, 95, 105, 106, 114]
theorem W73 : fw_S w73 S73 = true := by decide +kernel
def J73_36 (u4 : Int32) (τ : mS) (w : Int32) (σ' : mS) : Prop := w = (u4) ∧ σ' = τ
theorem j73_36 {F f : Nat} {σ' τ : mS} {u4 : Int32} {y0 : Option mV} {y1 : Option mV} {y2 : Option mV} {y3 : Option mV} {y5 : Option mV} {y6 : Option mV} {y7 : Option mV} {y8 : Option mV} {y9 : Option mV} {w : Int32} (hsτ : HS τ) (h : EV F f 73 z73 36 [y0, y1, y2, y3, some (.inl (u4)), y5, y6, y7, y8, y9] [] τ (.inl (some (.inl w)), σ')) : J73_36 u4 τ w σ' := by
  unfold J73_36
  replace h := ei_p h rfl rfl rfl rfl
  obtain ⟨f, g, h⟩ := h
  clear g
  replace h : EV F f 73 z73 38 [y0, y1, y2, y3, some (.inl (u4)), y5, y6, y7, y8, y9] [.inl (u4)] τ (.inl (some (.inl w)), σ') := h
  have e := ei_iret h rfl
  cases e
  exact ⟨rfl, rfl⟩
def P73 (σ : mS) (x1 : Int32) (x2 : mR) (x3 : mR) (x4 : Int32) (w : Int32) (σ' : mS) : Prop := ∃ i1, x2 = some (7, i1) ∧ ∃ v3, P24 σ (m_i σ 7 (i1) 2) v3 ∧ ∃ i7, x3 = some (7, i7) ∧ ∃ v9, P24 σ (m_i σ 7 (i7) 2) v9 ∧ ((v3 = none ∧ J73_36 (x4) σ w σ') ∨ (∃ q14, v3 = some q14 ∧ ((v9 = none ∧ J73_36 (x4) σ w σ') ∨ (∃ q18, v9 = some q18 ∧ ∃ n21, n21 = jmin (x4) (jmin (m_i σ 7 (i1) 7) (m_i σ 7 (i7) 7)) ∧ ∃ σ24, fw_e w32 σ σ24 ∧ P32 σ (some q14) (m_i σ 7 (i1) 4) (n21) (x1) (m_i σ 7 (i1) 1) (Int32.ofInt 1) σ24 ∧ ∃ σ28, fw_e w32 σ24 σ28 ∧ P32 σ24 (some q18) (m_i σ24 7 (i7) 4) (n21) (m_i σ24 7 (i7) 1) (x1) (Int32.ofInt 0) σ28 ∧ ∃ σ32, fw_e w12 σ28 σ32 ∧ P12 σ28 (some (7, i1)) (n21) σ32 ∧ ∃ σ36, fw_e w12 σ32 σ36 ∧ P12 σ32 (some (7, i7)) (n21) σ36 ∧ ∃ σ40, fw_e w68 σ36 σ40 ∧ P68 σ36 (m_r σ28 7 (i1) 12) σ40 ∧ ∃ σ44, fw_e w68 σ40 σ44 ∧ P68 σ40 (m_r σ28 7 (i7) 12) σ44 ∧ w = (n21) ∧ σ' = σ44))))
theorem x73 {σ σ' : mS} {x1 : Int32} {x2 : mR} {x3 : mR} {x4 : Int32} {w : Int32} (hs : HS σ) (h : ev_run sm_all 73 [rf 4 (0), .inl (x1), .inr (.inr (x2)), .inr (.inr (x3)), .inl (x4)] σ (.inl (some (.inl w))) σ') : P73 σ x1 x2 x3 x4 w σ' := by
  unfold P73
  obtain ⟨F, f, h⟩ := ei_go h z73_at
  replace h : EV F f 73 z73 0 [some (rf 4 (0)), some (.inl (x1)), some (.inr (.inr (x2))), some (.inr (.inr (x3))), some (.inl (x4)), none, none, none, none, none] [] σ (.inl (some (.inl w)), σ') := h
  replace h := ei_p h rfl rfl rfl rfl
  obtain ⟨f, g, h⟩ := h
  clear g
  replace h : EV F f 73 z73 1 [some (rf 4 (0)), some (.inl (x1)), some (.inr (.inr (x2))), some (.inr (.inr (x3))), some (.inl (x4)), none, none, none, none, none] [rf 4 (0)] σ (.inl (some (.inl w)), σ') := h
  replace h := ei_get h rfl (HS_g4_1 hs)
  obtain ⟨f, g, h⟩ := h
  clear g
  replace h : EV F f 73 z73 4 [some (rf 4 (0)), some (.inl (x1)), some (.inr (.inr (x2))), some (.inr (.inr (x3))), some (.inl (x4)), none, none, none, none, none] [rf 2 (0)] σ (.inl (some (.inl w)), σ') := h
  replace h := ei_p h rfl rfl rfl rfl
  obtain ⟨f, g, h⟩ := h
  clear g
  replace h : EV F f 73 z73 5 [some (rf 4 (0)), some (.inl (x1)), some (.inr (.inr (x2))), some (.inr (.inr (x3))), some (.inl (x4)), none, none, none, none, none] [.inr (.inr (x2)), rf 2 (0)] σ (.inl (some (.inl w)), σ') := h
  obtain ⟨i1, e2⟩ := ei_gp h rfl
  rw [e2] at h
  refine ⟨i1, e2, ?_⟩
  replace h : EV F f 73 z73 5 [some (rf 4 (0)), some (.inl (x1)), some (rf 7 (i1)), some (.inr (.inr (x3))), some (.inl (x4)), none, none, none, none, none] [rf 7 (i1), rf 2 (0)] σ (.inl (some (.inl w)), σ') := h
  replace h := ei_get h rfl rfl
  obtain ⟨f, g, h⟩ := h
  clear g
  replace h : EV F f 73 z73 8 [some (rf 4 (0)), some (.inl (x1)), some (rf 7 (i1)), some (.inr (.inr (x3))), some (.inl (x4)), none, none, none, none, none] [.inl (m_i σ 7 (i1) 2), rf 2 (0)] σ (.inl (some (.inl w)), σ') := h
  replace h := bk_R (ei_v (as := [.inl (m_i σ 7 (i1) 2)]) h rfl rfl rfl) rfl z24_at rfl
  obtain ⟨v3, σ4, r5, f, g, h⟩ := h
  clear g
  have er5 := ro_run rfl r5
  rw [er5] at h r5
  have p6 := x24 hs r5
  refine ⟨v3, p6, ?_⟩
  replace h : EV F f 73 z73 11 [some (rf 4 (0)), some (.inl (x1)), some (rf 7 (i1)), some (.inr (.inr (x3))), some (.inl (x4)), none, none, none, none, none] [.inr (.inr (v3))] σ (.inl (some (.inl w)), σ') := h
  replace h := ei_p h rfl rfl rfl rfl
  obtain ⟨f, g, h⟩ := h
  clear g
  replace h : EV F f 73 z73 13 [some (rf 4 (0)), some (.inl (x1)), some (rf 7 (i1)), some (.inr (.inr (x3))), some (.inl (x4)), some (.inr (.inr (v3))), none, none, none, none] [] σ (.inl (some (.inl w)), σ') := h
  replace h := ei_p h rfl rfl rfl rfl
  obtain ⟨f, g, h⟩ := h
  clear g
  replace h : EV F f 73 z73 14 [some (rf 4 (0)), some (.inl (x1)), some (rf 7 (i1)), some (.inr (.inr (x3))), some (.inl (x4)), some (.inr (.inr (v3))), none, none, none, none] [rf 4 (0)] σ (.inl (some (.inl w)), σ') := h
  replace h := ei_get h rfl (HS_g4_1 hs)
  obtain ⟨f, g, h⟩ := h
  clear g
  replace h : EV F f 73 z73 17 [some (rf 4 (0)), some (.inl (x1)), some (rf 7 (i1)), some (.inr (.inr (x3))), some (.inl (x4)), some (.inr (.inr (v3))), none, none, none, none] [rf 2 (0)] σ (.inl (some (.inl w)), σ') := h
  replace h := ei_p h rfl rfl rfl rfl
  obtain ⟨f, g, h⟩ := h
  clear g
  replace h : EV F f 73 z73 18 [some (rf 4 (0)), some (.inl (x1)), some (rf 7 (i1)), some (.inr (.inr (x3))), some (.inl (x4)), some (.inr (.inr (v3))), none, none, none, none] [.inr (.inr (x3)), rf 2 (0)] σ (.inl (some (.inl w)), σ') := h
  obtain ⟨i7, e8⟩ := ei_gp h rfl
  rw [e8] at h
  refine ⟨i7, e8, ?_⟩
  replace h : EV F f 73 z73 18 [some (rf 4 (0)), some (.inl (x1)), some (rf 7 (i1)), some (rf 7 (i7)), some (.inl (x4)), some (.inr (.inr (v3))), none, none, none, none] [rf 7 (i7), rf 2 (0)] σ (.inl (some (.inl w)), σ') := h
  replace h := ei_get h rfl rfl
  obtain ⟨f, g, h⟩ := h
  clear g
  replace h : EV F f 73 z73 21 [some (rf 4 (0)), some (.inl (x1)), some (rf 7 (i1)), some (rf 7 (i7)), some (.inl (x4)), some (.inr (.inr (v3))), none, none, none, none] [.inl (m_i σ 7 (i7) 2), rf 2 (0)] σ (.inl (some (.inl w)), σ') := h
  replace h := bk_R (ei_v (as := [.inl (m_i σ 7 (i7) 2)]) h rfl rfl rfl) rfl z24_at rfl
  obtain ⟨v9, σ10, r11, f, g, h⟩ := h
  clear g
  have er11 := ro_run rfl r11
  rw [er11] at h r11
  have p12 := x24 hs r11
  refine ⟨v9, p12, ?_⟩
  replace h : EV F f 73 z73 24 [some (rf 4 (0)), some (.inl (x1)), some (rf 7 (i1)), some (rf 7 (i7)), some (.inl (x4)), some (.inr (.inr (v3))), none, none, none, none] [.inr (.inr (v9))] σ (.inl (some (.inl w)), σ') := h
  replace h := ei_p h rfl rfl rfl rfl
  obtain ⟨f, g, h⟩ := h
  clear g
  replace h : EV F f 73 z73 26 [some (rf 4 (0)), some (.inl (x1)), some (rf 7 (i1)), some (rf 7 (i7)), some (.inl (x4)), some (.inr (.inr (v3))), some (.inr (.inr (v9))), none, none, none] [] σ (.inl (some (.inl w)), σ') := h
  replace h := ei_p h rfl rfl rfl rfl
  obtain ⟨f, g, h⟩ := h
  clear g
  replace h : EV F f 73 z73 28 [some (rf 4 (0)), some (.inl (x1)), some (rf 7 (i1)), some (rf 7 (i7)), some (.inl (x4)), some (.inr (.inr (v3))), some (.inr (.inr (v9))), none, none, none] [.inr (.inr (v3))] σ (.inl (some (.inl w)), σ') := h
  rcases r_cs (v3) with e13 | ⟨q14, e13⟩
  · skip
    rw [e13] at h
    refine Or.inl ⟨e13, ?_⟩
    replace h : EV F f 73 z73 28 [some (rf 4 (0)), some (.inl (x1)), some (rf 7 (i1)), some (rf 7 (i7)), some (.inl (x4)), some (.inr (.inr none)), some (.inr (.inr (v9))), none, none, none] [.inr (.inr none)] σ (.inl (some (.inl w)), σ') := h
    replace h := ei_c h rfl rfl rfl
    rcases h with ⟨hp15, f, g, h⟩ | ⟨hp15, f, g, h⟩
    · skip
      clear g
      replace h : EV F f 73 z73 36 [some (rf 4 (0)), some (.inl (x1)), some (rf 7 (i1)), some (rf 7 (i7)), some (.inl (x4)), some (.inr (.inr none)), some (.inr (.inr (v9))), none, none, none] [] σ (.inl (some (.inl w)), σ') := h
      exact j73_36 hs h
    · exact absurd rfl hp15
  · skip
    rw [e13] at h
    refine Or.inr ⟨q14, e13, ?_⟩
    replace h : EV F f 73 z73 28 [some (rf 4 (0)), some (.inl (x1)), some (rf 7 (i1)), some (rf 7 (i7)), some (.inl (x4)), some (.inr (.inr (some q14))), some (.inr (.inr (v9))), none, none, none] [.inr (.inr (some q14))] σ (.inl (some (.inl w)), σ') := h
    replace h := ei_c h rfl rfl rfl
    rcases h with ⟨hp16, f, g, h⟩ | ⟨hp16, f, g, h⟩
    · exact absurd hp16 (fun z => by cases z)
    · skip
      clear g
      replace h : EV F f 73 z73 31 [some (rf 4 (0)), some (.inl (x1)), some (rf 7 (i1)), some (rf 7 (i7)), some (.inl (x4)), some (.inr (.inr (some q14))), some (.inr (.inr (v9))), none, none, none] [] σ (.inl (some (.inl w)), σ') := h
      replace h := ei_p h rfl rfl rfl rfl
      obtain ⟨f, g, h⟩ := h
      clear g
      replace h : EV F f 73 z73 33 [some (rf 4 (0)), some (.inl (x1)), some (rf 7 (i1)), some (rf 7 (i7)), some (.inl (x4)), some (.inr (.inr (some q14))), some (.inr (.inr (v9))), none, none, none] [.inr (.inr (v9))] σ (.inl (some (.inl w)), σ') := h
      rcases r_cs (v9) with e17 | ⟨q18, e17⟩
      · skip
        rw [e17] at h
        refine Or.inl ⟨e17, ?_⟩
        replace h : EV F f 73 z73 33 [some (rf 4 (0)), some (.inl (x1)), some (rf 7 (i1)), some (rf 7 (i7)), some (.inl (x4)), some (.inr (.inr (some q14))), some (.inr (.inr none)), none, none, none] [.inr (.inr none)] σ (.inl (some (.inl w)), σ') := h
        replace h := ei_c h rfl rfl rfl
        rcases h with ⟨hp19, f, g, h⟩ | ⟨hp19, f, g, h⟩
        · exact absurd rfl hp19
        · skip
          clear g
          replace h : EV F f 73 z73 36 [some (rf 4 (0)), some (.inl (x1)), some (rf 7 (i1)), some (rf 7 (i7)), some (.inl (x4)), some (.inr (.inr (some q14))), some (.inr (.inr none)), none, none, none] [] σ (.inl (some (.inl w)), σ') := h
          exact j73_36 hs h
      · skip
        rw [e17] at h
        refine Or.inr ⟨q18, e17, ?_⟩
        replace h : EV F f 73 z73 33 [some (rf 4 (0)), some (.inl (x1)), some (rf 7 (i1)), some (rf 7 (i7)), some (.inl (x4)), some (.inr (.inr (some q14))), some (.inr (.inr (some q18))), none, none, none] [.inr (.inr (some q18))] σ (.inl (some (.inl w)), σ') := h
        replace h := ei_c h rfl rfl rfl
        rcases h with ⟨hp20, f, g, h⟩ | ⟨hp20, f, g, h⟩
        · skip
          clear g
          replace h : EV F f 73 z73 39 [some (rf 4 (0)), some (.inl (x1)), some (rf 7 (i1)), some (rf 7 (i7)), some (.inl (x4)), some (.inr (.inr (some q14))), some (.inr (.inr (some q18))), none, none, none] [] σ (.inl (some (.inl w)), σ') := h
          replace h := ei_p h rfl rfl rfl rfl
          obtain ⟨f, g, h⟩ := h
          clear g
          replace h : EV F f 73 z73 41 [some (rf 4 (0)), some (.inl (x1)), some (rf 7 (i1)), some (rf 7 (i7)), some (.inl (x4)), some (.inr (.inr (some q14))), some (.inr (.inr (some q18))), none, none, none] [.inl (x4)] σ (.inl (some (.inl w)), σ') := h
          replace h := ei_p h rfl rfl rfl rfl
          obtain ⟨f, g, h⟩ := h
          clear g
          replace h : EV F f 73 z73 42 [some (rf 4 (0)), some (.inl (x1)), some (rf 7 (i1)), some (rf 7 (i7)), some (.inl (x4)), some (.inr (.inr (some q14))), some (.inr (.inr (some q18))), none, none, none] [rf 7 (i1), .inl (x4)] σ (.inl (some (.inl w)), σ') := h
          replace h := ei_get h rfl rfl
          obtain ⟨f, g, h⟩ := h
          clear g
          replace h : EV F f 73 z73 45 [some (rf 4 (0)), some (.inl (x1)), some (rf 7 (i1)), some (rf 7 (i7)), some (.inl (x4)), some (.inr (.inr (some q14))), some (.inr (.inr (some q18))), none, none, none] [.inl (m_i σ 7 (i1) 7), .inl (x4)] σ (.inl (some (.inl w)), σ') := h
          replace h := ei_p h rfl rfl rfl rfl
          obtain ⟨f, g, h⟩ := h
          clear g
          replace h : EV F f 73 z73 46 [some (rf 4 (0)), some (.inl (x1)), some (rf 7 (i1)), some (rf 7 (i7)), some (.inl (x4)), some (.inr (.inr (some q14))), some (.inr (.inr (some q18))), none, none, none] [rf 7 (i7), .inl (m_i σ 7 (i1) 7), .inl (x4)] σ (.inl (some (.inl w)), σ') := h
          replace h := ei_get h rfl rfl
          obtain ⟨f, g, h⟩ := h
          clear g
          replace h : EV F f 73 z73 49 [some (rf 4 (0)), some (.inl (x1)), some (rf 7 (i1)), some (rf 7 (i7)), some (.inl (x4)), some (.inr (.inr (some q14))), some (.inr (.inr (some q18))), none, none, none] [.inl (m_i σ 7 (i7) 7), .inl (m_i σ 7 (i1) 7), .inl (x4)] σ (.inl (some (.inl w)), σ') := h
          replace h := ei_m (st' := [.inl (jmin (m_i σ 7 (i1) 7) (m_i σ 7 (i7) 7)), .inl (x4)]) h rfl (Nat.le_of_ble_eq_true rfl) (fun w hw => (Option.some.inj (ev_if_some.mp hw).2).symm)
          obtain ⟨f, g, h⟩ := h
          clear g
          replace h : EV F f 73 z73 52 [some (rf 4 (0)), some (.inl (x1)), some (rf 7 (i1)), some (rf 7 (i7)), some (.inl (x4)), some (.inr (.inr (some q14))), some (.inr (.inr (some q18))), none, none, none] [.inl (jmin (m_i σ 7 (i1) 7) (m_i σ 7 (i7) 7)), .inl (x4)] σ (.inl (some (.inl w)), σ') := h
          replace h := ei_m (st' := [.inl (jmin (x4) (jmin (m_i σ 7 (i1) 7) (m_i σ 7 (i7) 7)))]) h rfl (Nat.le_of_ble_eq_true rfl) (fun w hw => (Option.some.inj (ev_if_some.mp hw).2).symm)
          obtain ⟨f, g, h⟩ := h
          clear g
          replace h : EV F f 73 z73 55 [some (rf 4 (0)), some (.inl (x1)), some (rf 7 (i1)), some (rf 7 (i7)), some (.inl (x4)), some (.inr (.inr (some q14))), some (.inr (.inr (some q18))), none, none, none] [.inl (jmin (x4) (jmin (m_i σ 7 (i1) 7) (m_i σ 7 (i7) 7)))] σ (.inl (some (.inl w)), σ') := h
          replace h := ei_p h rfl rfl rfl rfl
          obtain ⟨f, g, h⟩ := h
          clear g
          replace h : EV F f 73 z73 57 [some (rf 4 (0)), some (.inl (x1)), some (rf 7 (i1)), some (rf 7 (i7)), some (.inl (x4)), some (.inr (.inr (some q14))), some (.inr (.inr (some q18))), some (.inl (jmin (x4) (jmin (m_i σ 7 (i1) 7) (m_i σ 7 (i7) 7)))), none, none] [] σ (.inl (some (.inl w)), σ') := h
          obtain ⟨n21, e22⟩ : ∃ s, s = jmin (x4) (jmin (m_i σ 7 (i1) 7) (m_i σ 7 (i7) 7)) := ⟨_, rfl⟩
          rw [← e22] at h
          refine ⟨n21, e22, ?_⟩
          replace h : EV F f 73 z73 57 [some (rf 4 (0)), some (.inl (x1)), some (rf 7 (i1)), some (rf 7 (i7)), some (.inl (x4)), some (.inr (.inr (some q14))), some (.inr (.inr (some q18))), some (.inl (n21)), none, none] [] σ (.inl (some (.inl w)), σ') := h
          replace h := ei_p h rfl rfl rfl rfl
          obtain ⟨f, g, h⟩ := h
          clear g
          replace h : EV F f 73 z73 58 [some (rf 4 (0)), some (.inl (x1)), some (rf 7 (i1)), some (rf 7 (i7)), some (.inl (x4)), some (.inr (.inr (some q14))), some (.inr (.inr (some q18))), some (.inl (n21)), none, none] [rf 4 (0)] σ (.inl (some (.inl w)), σ') := h
          replace h := ei_get h rfl (HS_g4_1 hs)
          obtain ⟨f, g, h⟩ := h
          clear g
          replace h : EV F f 73 z73 61 [some (rf 4 (0)), some (.inl (x1)), some (rf 7 (i1)), some (rf 7 (i7)), some (.inl (x4)), some (.inr (.inr (some q14))), some (.inr (.inr (some q18))), some (.inl (n21)), none, none] [rf 2 (0)] σ (.inl (some (.inl w)), σ') := h
          replace h := ei_p h rfl rfl rfl rfl
          obtain ⟨f, g, h⟩ := h
          clear g
          replace h : EV F f 73 z73 63 [some (rf 4 (0)), some (.inl (x1)), some (rf 7 (i1)), some (rf 7 (i7)), some (.inl (x4)), some (.inr (.inr (some q14))), some (.inr (.inr (some q18))), some (.inl (n21)), none, none] [.inr (.inr (some q14)), rf 2 (0)] σ (.inl (some (.inl w)), σ') := h
          replace h := ei_p h rfl rfl rfl rfl
          obtain ⟨f, g, h⟩ := h
          clear g
          replace h : EV F f 73 z73 64 [some (rf 4 (0)), some (.inl (x1)), some (rf 7 (i1)), some (rf 7 (i7)), some (.inl (x4)), some (.inr (.inr (some q14))), some (.inr (.inr (some q18))), some (.inl (n21)), none, none] [rf 7 (i1), .inr (.inr (some q14)), rf 2 (0)] σ (.inl (some (.inl w)), σ') := h
          replace h := ei_get h rfl rfl
          obtain ⟨f, g, h⟩ := h
          clear g
          replace h : EV F f 73 z73 67 [some (rf 4 (0)), some (.inl (x1)), some (rf 7 (i1)), some (rf 7 (i7)), some (.inl (x4)), some (.inr (.inr (some q14))), some (.inr (.inr (some q18))), some (.inl (n21)), none, none] [.inl (m_i σ 7 (i1) 4), .inr (.inr (some q14)), rf 2 (0)] σ (.inl (some (.inl w)), σ') := h
          replace h := ei_p h rfl rfl rfl rfl
          obtain ⟨f, g, h⟩ := h
          clear g
          replace h : EV F f 73 z73 69 [some (rf 4 (0)), some (.inl (x1)), some (rf 7 (i1)), some (rf 7 (i7)), some (.inl (x4)), some (.inr (.inr (some q14))), some (.inr (.inr (some q18))), some (.inl (n21)), none, none] [.inl (n21), .inl (m_i σ 7 (i1) 4), .inr (.inr (some q14)), rf 2 (0)] σ (.inl (some (.inl w)), σ') := h
          replace h := ei_p h rfl rfl rfl rfl
          obtain ⟨f, g, h⟩ := h
          clear g
          replace h : EV F f 73 z73 70 [some (rf 4 (0)), some (.inl (x1)), some (rf 7 (i1)), some (rf 7 (i7)), some (.inl (x4)), some (.inr (.inr (some q14))), some (.inr (.inr (some q18))), some (.inl (n21)), none, none] [.inl (x1), .inl (n21), .inl (m_i σ 7 (i1) 4), .inr (.inr (some q14)), rf 2 (0)] σ (.inl (some (.inl w)), σ') := h
          replace h := ei_p h rfl rfl rfl rfl
          obtain ⟨f, g, h⟩ := h
          clear g
          replace h : EV F f 73 z73 71 [some (rf 4 (0)), some (.inl (x1)), some (rf 7 (i1)), some (rf 7 (i7)), some (.inl (x4)), some (.inr (.inr (some q14))), some (.inr (.inr (some q18))), some (.inl (n21)), none, none] [rf 7 (i1), .inl (x1), .inl (n21), .inl (m_i σ 7 (i1) 4), .inr (.inr (some q14)), rf 2 (0)] σ (.inl (some (.inl w)), σ') := h
          replace h := ei_get h rfl rfl
          obtain ⟨f, g, h⟩ := h
          clear g
          replace h : EV F f 73 z73 74 [some (rf 4 (0)), some (.inl (x1)), some (rf 7 (i1)), some (rf 7 (i7)), some (.inl (x4)), some (.inr (.inr (some q14))), some (.inr (.inr (some q18))), some (.inl (n21)), none, none] [.inl (m_i σ 7 (i1) 1), .inl (x1), .inl (n21), .inl (m_i σ 7 (i1) 4), .inr (.inr (some q14)), rf 2 (0)] σ (.inl (some (.inl w)), σ') := h
          replace h := ei_p h rfl rfl rfl rfl
          obtain ⟨f, g, h⟩ := h
          clear g
          replace h : EV F f 73 z73 75 [some (rf 4 (0)), some (.inl (x1)), some (rf 7 (i1)), some (rf 7 (i7)), some (.inl (x4)), some (.inr (.inr (some q14))), some (.inr (.inr (some q18))), some (.inl (n21)), none, none] [.inl (Int32.ofInt 1), .inl (m_i σ 7 (i1) 1), .inl (x1), .inl (n21), .inl (m_i σ 7 (i1) 4), .inr (.inr (some q14)), rf 2 (0)] σ (.inl (some (.inl w)), σ') := h
          replace h := bk_0 (ei_v (as := [.inl (Int32.ofInt 1), .inl (m_i σ 7 (i1) 1), .inl (x1), .inl (n21), .inl (m_i σ 7 (i1) 4), .inr (.inr (some q14))]) h rfl rfl rfl) rfl z32_at rfl
          obtain ⟨σ24, r25, f, g, h⟩ := h
          clear g
          have p26 := x32 hs r25
          have hsσ24 : HS σ24 := HS_run rfl r25 hs
          refine ⟨σ24, fw_run W32 rfl r25, p26, ?_⟩
          replace h : EV F f 73 z73 78 [some (rf 4 (0)), some (.inl (x1)), some (rf 7 (i1)), some (rf 7 (i7)), some (.inl (x4)), some (.inr (.inr (some q14))), some (.inr (.inr (some q18))), some (.inl (n21)), none, none] [] σ24 (.inl (some (.inl w)), σ') := h
          replace h := ei_p h rfl rfl rfl rfl
          obtain ⟨f, g, h⟩ := h
          clear g
          replace h : EV F f 73 z73 79 [some (rf 4 (0)), some (.inl (x1)), some (rf 7 (i1)), some (rf 7 (i7)), some (.inl (x4)), some (.inr (.inr (some q14))), some (.inr (.inr (some q18))), some (.inl (n21)), none, none] [rf 4 (0)] σ24 (.inl (some (.inl w)), σ') := h
          replace h := ei_get h rfl (HS_g4_1 hsσ24)
          obtain ⟨f, g, h⟩ := h
          clear g
          replace h : EV F f 73 z73 82 [some (rf 4 (0)), some (.inl (x1)), some (rf 7 (i1)), some (rf 7 (i7)), some (.inl (x4)), some (.inr (.inr (some q14))), some (.inr (.inr (some q18))), some (.inl (n21)), none, none] [rf 2 (0)] σ24 (.inl (some (.inl w)), σ') := h
          replace h := ei_p h rfl rfl rfl rfl
          obtain ⟨f, g, h⟩ := h
          clear g
          replace h : EV F f 73 z73 84 [some (rf 4 (0)), some (.inl (x1)), some (rf 7 (i1)), some (rf 7 (i7)), some (.inl (x4)), some (.inr (.inr (some q14))), some (.inr (.inr (some q18))), some (.inl (n21)), none, none] [.inr (.inr (some q18)), rf 2 (0)] σ24 (.inl (some (.inl w)), σ') := h
          replace h := ei_p h rfl rfl rfl rfl
          obtain ⟨f, g, h⟩ := h
          clear g
          replace h : EV F f 73 z73 85 [some (rf 4 (0)), some (.inl (x1)), some (rf 7 (i1)), some (rf 7 (i7)), some (.inl (x4)), some (.inr (.inr (some q14))), some (.inr (.inr (some q18))), some (.inl (n21)), none, none] [rf 7 (i7), .inr (.inr (some q18)), rf 2 (0)] σ24 (.inl (some (.inl w)), σ') := h
          replace h := ei_get h rfl rfl
          obtain ⟨f, g, h⟩ := h
          clear g
          replace h : EV F f 73 z73 88 [some (rf 4 (0)), some (.inl (x1)), some (rf 7 (i1)), some (rf 7 (i7)), some (.inl (x4)), some (.inr (.inr (some q14))), some (.inr (.inr (some q18))), some (.inl (n21)), none, none] [.inl (m_i σ24 7 (i7) 4), .inr (.inr (some q18)), rf 2 (0)] σ24 (.inl (some (.inl w)), σ') := h
          replace h := ei_p h rfl rfl rfl rfl
          obtain ⟨f, g, h⟩ := h
          clear g
          replace h : EV F f 73 z73 90 [some (rf 4 (0)), some (.inl (x1)), some (rf 7 (i1)), some (rf 7 (i7)), some (.inl (x4)), some (.inr (.inr (some q14))), some (.inr (.inr (some q18))), some (.inl (n21)), none, none] [.inl (n21), .inl (m_i σ24 7 (i7) 4), .inr (.inr (some q18)), rf 2 (0)] σ24 (.inl (some (.inl w)), σ') := h
          replace h := ei_p h rfl rfl rfl rfl
          obtain ⟨f, g, h⟩ := h
          clear g
          replace h : EV F f 73 z73 91 [some (rf 4 (0)), some (.inl (x1)), some (rf 7 (i1)), some (rf 7 (i7)), some (.inl (x4)), some (.inr (.inr (some q14))), some (.inr (.inr (some q18))), some (.inl (n21)), none, none] [rf 7 (i7), .inl (n21), .inl (m_i σ24 7 (i7) 4), .inr (.inr (some q18)), rf 2 (0)] σ24 (.inl (some (.inl w)), σ') := h
          replace h := ei_get h rfl rfl
          obtain ⟨f, g, h⟩ := h
          clear g
          replace h : EV F f 73 z73 94 [some (rf 4 (0)), some (.inl (x1)), some (rf 7 (i1)), some (rf 7 (i7)), some (.inl (x4)), some (.inr (.inr (some q14))), some (.inr (.inr (some q18))), some (.inl (n21)), none, none] [.inl (m_i σ24 7 (i7) 1), .inl (n21), .inl (m_i σ24 7 (i7) 4), .inr (.inr (some q18)), rf 2 (0)] σ24 (.inl (some (.inl w)), σ') := h
          replace h := ei_p h rfl rfl rfl rfl
          obtain ⟨f, g, h⟩ := h
          clear g
          replace h : EV F f 73 z73 95 [some (rf 4 (0)), some (.inl (x1)), some (rf 7 (i1)), some (rf 7 (i7)), some (.inl (x4)), some (.inr (.inr (some q14))), some (.inr (.inr (some q18))), some (.inl (n21)), none, none] [.inl (x1), .inl (m_i σ24 7 (i7) 1), .inl (n21), .inl (m_i σ24 7 (i7) 4), .inr (.inr (some q18)), rf 2 (0)] σ24 (.inl (some (.inl w)), σ') := h
          replace h := ei_p h rfl rfl rfl rfl
          obtain ⟨f, g, h⟩ := h
          clear g
          replace h : EV F f 73 z73 96 [some (rf 4 (0)), some (.inl (x1)), some (rf 7 (i1)), some (rf 7 (i7)), some (.inl (x4)), some (.inr (.inr (some q14))), some (.inr (.inr (some q18))), some (.inl (n21)), none, none] [.inl (Int32.ofInt 0), .inl (x1), .inl (m_i σ24 7 (i7) 1), .inl (n21), .inl (m_i σ24 7 (i7) 4), .inr (.inr (some q18)), rf 2 (0)] σ24 (.inl (some (.inl w)), σ') := h
          replace h := bk_0 (ei_v (as := [.inl (Int32.ofInt 0), .inl (x1), .inl (m_i σ24 7 (i7) 1), .inl (n21), .inl (m_i σ24 7 (i7) 4), .inr (.inr (some q18))]) h rfl rfl rfl) rfl z32_at rfl
          obtain ⟨σ28, r29, f, g, h⟩ := h
          clear g
          have p30 := x32 hsσ24 r29
          have hsσ28 : HS σ28 := HS_run rfl r29 hsσ24
          refine ⟨σ28, fw_run W32 rfl r29, p30, ?_⟩
          replace h : EV F f 73 z73 99 [some (rf 4 (0)), some (.inl (x1)), some (rf 7 (i1)), some (rf 7 (i7)), some (.inl (x4)), some (.inr (.inr (some q14))), some (.inr (.inr (some q18))), some (.inl (n21)), none, none] [] σ28 (.inl (some (.inl w)), σ') := h
          replace h := ei_p h rfl rfl rfl rfl
          obtain ⟨f, g, h⟩ := h
          clear g
          replace h : EV F f 73 z73 100 [some (rf 4 (0)), some (.inl (x1)), some (rf 7 (i1)), some (rf 7 (i7)), some (.inl (x4)), some (.inr (.inr (some q14))), some (.inr (.inr (some q18))), some (.inl (n21)), none, none] [rf 7 (i1)] σ28 (.inl (some (.inl w)), σ') := h
          replace h := ei_get h rfl rfl
          obtain ⟨f, g, h⟩ := h
          clear g
          replace h : EV F f 73 z73 103 [some (rf 4 (0)), some (.inl (x1)), some (rf 7 (i1)), some (rf 7 (i7)), some (.inl (x4)), some (.inr (.inr (some q14))), some (.inr (.inr (some q18))), some (.inl (n21)), none, none] [.inr (.inr (m_r σ28 7 (i1) 12))] σ28 (.inl (some (.inl w)), σ') := h
          replace h := ei_p h rfl rfl rfl rfl
          obtain ⟨f, g, h⟩ := h
          clear g
          replace h : EV F f 73 z73 105 [some (rf 4 (0)), some (.inl (x1)), some (rf 7 (i1)), some (rf 7 (i7)), some (.inl (x4)), some (.inr (.inr (some q14))), some (.inr (.inr (some q18))), some (.inl (n21)), some (.inr (.inr (m_r σ28 7 (i1) 12))), none] [] σ28 (.inl (some (.inl w)), σ') := h
          replace h := ei_p h rfl rfl rfl rfl
          obtain ⟨f, g, h⟩ := h
          clear g
          replace h : EV F f 73 z73 106 [some (rf 4 (0)), some (.inl (x1)), some (rf 7 (i1)), some (rf 7 (i7)), some (.inl (x4)), some (.inr (.inr (some q14))), some (.inr (.inr (some q18))), some (.inl (n21)), some (.inr (.inr (m_r σ28 7 (i1) 12))), none] [rf 7 (i7)] σ28 (.inl (some (.inl w)), σ') := h
          replace h := ei_get h rfl rfl
          obtain ⟨f, g, h⟩ := h
          clear g
          replace h : EV F f 73 z73 109 [some (rf 4 (0)), some (.inl (x1)), some (rf 7 (i1)), some (rf 7 (i7)), some (.inl (x4)), some (.inr (.inr (some q14))), some (.inr (.inr (some q18))), some (.inl (n21)), some (.inr (.inr (m_r σ28 7 (i1) 12))), none] [.inr (.inr (m_r σ28 7 (i7) 12))] σ28 (.inl (some (.inl w)), σ') := h
          replace h := ei_p h rfl rfl rfl rfl
          obtain ⟨f, g, h⟩ := h
          clear g
          replace h : EV F f 73 z73 111 [some (rf 4 (0)), some (.inl (x1)), some (rf 7 (i1)), some (rf 7 (i7)), some (.inl (x4)), some (.inr (.inr (some q14))), some (.inr (.inr (some q18))), some (.inl (n21)), some (.inr (.inr (m_r σ28 7 (i1) 12))), some (.inr (.inr (m_r σ28 7 (i7) 12)))] [] σ28 (.inl (some (.inl w)), σ') := h
          replace h := ei_p h rfl rfl rfl rfl
          obtain ⟨f, g, h⟩ := h
          clear g
          replace h : EV F f 73 z73 112 [some (rf 4 (0)), some (.inl (x1)), some (rf 7 (i1)), some (rf 7 (i7)), some (.inl (x4)), some (.inr (.inr (some q14))), some (.inr (.inr (some q18))), some (.inl (n21)), some (.inr (.inr (m_r σ28 7 (i1) 12))), some (.inr (.inr (m_r σ28 7 (i7) 12)))] [rf 4 (0)] σ28 (.inl (some (.inl w)), σ') := h
          replace h := ei_get h rfl (HS_g4_0 hsσ28)
          obtain ⟨f, g, h⟩ := h
          clear g
          replace h : EV F f 73 z73 115 [some (rf 4 (0)), some (.inl (x1)), some (rf 7 (i1)), some (rf 7 (i7)), some (.inl (x4)), some (.inr (.inr (some q14))), some (.inr (.inr (some q18))), some (.inl (n21)), some (.inr (.inr (m_r σ28 7 (i1) 12))), some (.inr (.inr (m_r σ28 7 (i7) 12)))] [rf 0 (0)] σ28 (.inl (some (.inl w)), σ') := h
          replace h := ei_p h rfl rfl rfl rfl
          obtain ⟨f, g, h⟩ := h
          clear g
          replace h : EV F f 73 z73 116 [some (rf 4 (0)), some (.inl (x1)), some (rf 7 (i1)), some (rf 7 (i7)), some (.inl (x4)), some (.inr (.inr (some q14))), some (.inr (.inr (some q18))), some (.inl (n21)), some (.inr (.inr (m_r σ28 7 (i1) 12))), some (.inr (.inr (m_r σ28 7 (i7) 12)))] [rf 7 (i1), rf 0 (0)] σ28 (.inl (some (.inl w)), σ') := h
          replace h := ei_p h rfl rfl rfl rfl
          obtain ⟨f, g, h⟩ := h
          clear g
          replace h : EV F f 73 z73 118 [some (rf 4 (0)), some (.inl (x1)), some (rf 7 (i1)), some (rf 7 (i7)), some (.inl (x4)), some (.inr (.inr (some q14))), some (.inr (.inr (some q18))), some (.inl (n21)), some (.inr (.inr (m_r σ28 7 (i1) 12))), some (.inr (.inr (m_r σ28 7 (i7) 12)))] [.inl (n21), rf 7 (i1), rf 0 (0)] σ28 (.inl (some (.inl w)), σ') := h
          replace h := bk_0 (ei_v (as := [.inl (n21), rf 7 (i1)]) h rfl rfl rfl) rfl z12_at rfl
          obtain ⟨σ32, r33, f, g, h⟩ := h
          clear g
          have p34 := x12 hsσ28 r33
          have hsσ32 : HS σ32 := HS_run rfl r33 hsσ28
          refine ⟨σ32, fw_run W12 rfl r33, p34, ?_⟩
          replace h : EV F f 73 z73 121 [some (rf 4 (0)), some (.inl (x1)), some (rf 7 (i1)), some (rf 7 (i7)), some (.inl (x4)), some (.inr (.inr (some q14))), some (.inr (.inr (some q18))), some (.inl (n21)), some (.inr (.inr (m_r σ28 7 (i1) 12))), some (.inr (.inr (m_r σ28 7 (i7) 12)))] [] σ32 (.inl (some (.inl w)), σ') := h
          replace h := ei_p h rfl rfl rfl rfl
          obtain ⟨f, g, h⟩ := h
          clear g
          replace h : EV F f 73 z73 122 [some (rf 4 (0)), some (.inl (x1)), some (rf 7 (i1)), some (rf 7 (i7)), some (.inl (x4)), some (.inr (.inr (some q14))), some (.inr (.inr (some q18))), some (.inl (n21)), some (.inr (.inr (m_r σ28 7 (i1) 12))), some (.inr (.inr (m_r σ28 7 (i7) 12)))] [rf 4 (0)] σ32 (.inl (some (.inl w)), σ') := h
          replace h := ei_get h rfl (HS_g4_0 hsσ32)
          obtain ⟨f, g, h⟩ := h
          clear g
          replace h : EV F f 73 z73 125 [some (rf 4 (0)), some (.inl (x1)), some (rf 7 (i1)), some (rf 7 (i7)), some (.inl (x4)), some (.inr (.inr (some q14))), some (.inr (.inr (some q18))), some (.inl (n21)), some (.inr (.inr (m_r σ28 7 (i1) 12))), some (.inr (.inr (m_r σ28 7 (i7) 12)))] [rf 0 (0)] σ32 (.inl (some (.inl w)), σ') := h
          replace h := ei_p h rfl rfl rfl rfl
          obtain ⟨f, g, h⟩ := h
          clear g
          replace h : EV F f 73 z73 126 [some (rf 4 (0)), some (.inl (x1)), some (rf 7 (i1)), some (rf 7 (i7)), some (.inl (x4)), some (.inr (.inr (some q14))), some (.inr (.inr (some q18))), some (.inl (n21)), some (.inr (.inr (m_r σ28 7 (i1) 12))), some (.inr (.inr (m_r σ28 7 (i7) 12)))] [rf 7 (i7), rf 0 (0)] σ32 (.inl (some (.inl w)), σ') := h
          replace h := ei_p h rfl rfl rfl rfl
          obtain ⟨f, g, h⟩ := h
          clear g
          replace h : EV F f 73 z73 128 [some (rf 4 (0)), some (.inl (x1)), some (rf 7 (i1)), some (rf 7 (i7)), some (.inl (x4)), some (.inr (.inr (some q14))), some (.inr (.inr (some q18))), some (.inl (n21)), some (.inr (.inr (m_r σ28 7 (i1) 12))), some (.inr (.inr (m_r σ28 7 (i7) 12)))] [.inl (n21), rf 7 (i7), rf 0 (0)] σ32 (.inl (some (.inl w)), σ') := h
          replace h := bk_0 (ei_v (as := [.inl (n21), rf 7 (i7)]) h rfl rfl rfl) rfl z12_at rfl
          obtain ⟨σ36, r37, f, g, h⟩ := h
          clear g
          have p38 := x12 hsσ32 r37
          have hsσ36 : HS σ36 := HS_run rfl r37 hsσ32
          refine ⟨σ36, fw_run W12 rfl r37, p38, ?_⟩
          replace h : EV F f 73 z73 131 [some (rf 4 (0)), some (.inl (x1)), some (rf 7 (i1)), some (rf 7 (i7)), some (.inl (x4)), some (.inr (.inr (some q14))), some (.inr (.inr (some q18))), some (.inl (n21)), some (.inr (.inr (m_r σ28 7 (i1) 12))), some (.inr (.inr (m_r σ28 7 (i7) 12)))] [] σ36 (.inl (some (.inl w)), σ') := h
          replace h := ei_p h rfl rfl rfl rfl
          obtain ⟨f, g, h⟩ := h
          clear g
          replace h : EV F f 73 z73 133 [some (rf 4 (0)), some (.inl (x1)), some (rf 7 (i1)), some (rf 7 (i7)), some (.inl (x4)), some (.inr (.inr (some q14))), some (.inr (.inr (some q18))), some (.inl (n21)), some (.inr (.inr (m_r σ28 7 (i1) 12))), some (.inr (.inr (m_r σ28 7 (i7) 12)))] [.inr (.inr (m_r σ28 7 (i1) 12))] σ36 (.inl (some (.inl w)), σ') := h
          replace h := bk_0 (ei_s (as := [.inr (.inr (m_r σ28 7 (i1) 12))]) h rfl (Nat.le_of_ble_eq_true rfl) rfl rfl) rfl z68_at rfl
          obtain ⟨σ40, r41, f, g, h⟩ := h
          clear g
          have p42 := x68 hsσ36 r41
          have hsσ40 : HS σ40 := HS_run rfl r41 hsσ36
          refine ⟨σ40, fw_run W68 rfl r41, p42, ?_⟩
          replace h : EV F f 73 z73 136 [some (rf 4 (0)), some (.inl (x1)), some (rf 7 (i1)), some (rf 7 (i7)), some (.inl (x4)), some (.inr (.inr (some q14))), some (.inr (.inr (some q18))), some (.inl (n21)), some (.inr (.inr (m_r σ28 7 (i1) 12))), some (.inr (.inr (m_r σ28 7 (i7) 12)))] [] σ40 (.inl (some (.inl w)), σ') := h
          replace h := ei_p h rfl rfl rfl rfl
          obtain ⟨f, g, h⟩ := h
          clear g
          replace h : EV F f 73 z73 138 [some (rf 4 (0)), some (.inl (x1)), some (rf 7 (i1)), some (rf 7 (i7)), some (.inl (x4)), some (.inr (.inr (some q14))), some (.inr (.inr (some q18))), some (.inl (n21)), some (.inr (.inr (m_r σ28 7 (i1) 12))), some (.inr (.inr (m_r σ28 7 (i7) 12)))] [.inr (.inr (m_r σ28 7 (i7) 12))] σ40 (.inl (some (.inl w)), σ') := h
          replace h := bk_0 (ei_s (as := [.inr (.inr (m_r σ28 7 (i7) 12))]) h rfl (Nat.le_of_ble_eq_true rfl) rfl rfl) rfl z68_at rfl
          obtain ⟨σ44, r45, f, g, h⟩ := h
          clear g
          have p46 := x68 hsσ40 r45
          have hsσ44 : HS σ44 := HS_run rfl r45 hsσ40
          refine ⟨σ44, fw_run W68 rfl r45, p46, ?_⟩
          replace h : EV F f 73 z73 141 [some (rf 4 (0)), some (.inl (x1)), some (rf 7 (i1)), some (rf 7 (i7)), some (.inl (x4)), some (.inr (.inr (some q14))), some (.inr (.inr (some q18))), some (.inl (n21)), some (.inr (.inr (m_r σ28 7 (i1) 12))), some (.inr (.inr (m_r σ28 7 (i7) 12)))] [] σ44 (.inl (some (.inl w)), σ') := h
          replace h := ei_p h rfl rfl rfl rfl
          obtain ⟨f, g, h⟩ := h
          clear g
          replace h : EV F f 73 z73 143 [some (rf 4 (0)), some (.inl (x1)), some (rf 7 (i1)), some (rf 7 (i7)), some (.inl (x4)), some (.inr (.inr (some q14))), some (.inr (.inr (some q18))), some (.inl (n21)), some (.inr (.inr (m_r σ28 7 (i1) 12))), some (.inr (.inr (m_r σ28 7 (i7) 12)))] [.inl (n21)] σ44 (.inl (some (.inl w)), σ') := h
          have e := ei_iret h rfl
          cases e
          exact ⟨rfl, rfl⟩
        · exact absurd (fun z => by cases z) hp20
