/-! the law: what it does under handlers -/
def z174 : mAl := ((yL_tied, cL_tied, 3, (some .int), { frames := 8, cells := 4, slots := 27, locals := 215 }, []), rw_L_tied, false)
theorem z174_at : m_alF[174]? = some z174 := rfl
def P174 (σ : mS) (x2 : Int32) (x3 : Int32) (w : mX) (σ' : mS) : Prop := ((∃ σ2, gF σ σ2 ∧ P128 σ (x2) (x3) (.inl none) σ2 ∧ w = .inl (some (.inl (Int32.ofInt 0))) ∧ σ' = σ2) ∨ (∃ b, gF σ σ' ∧ P128 σ (x2) (x3) (.inr b) σ' ∧ w = .inr b))
set_option maxRecDepth 100000 in
theorem x174 {σ σ' : mS} {x2 : Int32} {x3 : Int32} {w : mX} (hs : HL σ) (h : ev_run sm_all 174 [rf 11 (0), .inl (x2), .inl (x3)] σ (w) σ') : P174 σ x2 x3 w σ' := by
  unfold P174
  obtain ⟨F, f, h⟩ := ei_go h z174_at
  replace h : EV F f 174 z174 0 [some (rf 11 (0)), some (.inl (x2)), some (.inl (x3))] [] σ (w, σ') := h
  replace h := ei_p h rfl rfl rfl rfl
  obtain ⟨f, g, h⟩ := h
  clear g
  replace h : EV F f 174 z174 1 [some (rf 11 (0)), some (.inl (x2)), some (.inl (x3))] [rf 11 (0)] σ (w, σ') := h
  replace h := ei_p h rfl rfl rfl rfl
  obtain ⟨f, g, h⟩ := h
  clear g
  replace h : EV F f 174 z174 2 [some (rf 11 (0)), some (.inl (x2)), some (.inl (x3))] [.inl (x2), rf 11 (0)] σ (w, σ') := h
  replace h := ei_p h rfl rfl rfl rfl
  obtain ⟨f, g, h⟩ := h
  clear g
  replace h : EV F f 174 z174 3 [some (rf 11 (0)), some (.inl (x2)), some (.inl (x3))] [.inl (x3), .inl (x2), rf 11 (0)] σ (w, σ') := h
  replace h := bx_0 (ei_v (as := [.inl (x3), .inl (x2)]) h rfl rfl rfl) z128_at rfl
  rcases h with ⟨σ2, r3, f, g, h⟩ | ⟨b, σ2, r3, e⟩
  · skip
    clear g
    have p4 := x128 hs.1 r3
    have hsσ2 : HL σ2 := HL_r2 rfl r3 rfl hs
    refine Or.inl ⟨σ2, gF_r r3 rfl hs, p4, ?_⟩
    replace h : EV F f 174 z174 6 [some (rf 11 (0)), some (.inl (x2)), some (.inl (x3))] [] σ2 (w, σ') := h
    replace h := ei_p h rfl rfl rfl rfl
    obtain ⟨f, g, h⟩ := h
    clear g
    replace h : EV F f 174 z174 7 [some (rf 11 (0)), some (.inl (x2)), some (.inl (x3))] [.inl (Int32.ofInt 0)] σ2 (w, σ') := h
    have e := ei_iret h rfl
    cases e
    exact ⟨rfl, rfl⟩
  · skip
    have p4 := x128 hs.1 r3
    cases e
    exact Or.inr ⟨b, gF_r r3 rfl hs, p4, rfl⟩
def z175 : mAl := ((yL_halted, cL_halted, 2, (some .int), { frames := 8, cells := 3, slots := 21, locals := 212 }, []), rw_L_halted, false)
theorem z175_at : m_alF[175]? = some z175 := rfl
def P175 (σ : mS) (x2 : Int32) (w : mX) (σ' : mS) : Prop := ((∃ σ2, gF σ σ2 ∧ P135 σ (x2) (.inl none) σ2 ∧ w = .inl (some (.inl (Int32.ofInt 0))) ∧ σ' = σ2) ∨ (∃ b, gF σ σ' ∧ P135 σ (x2) (.inr b) σ' ∧ w = .inr b))
set_option maxRecDepth 100000 in
theorem x175 {σ σ' : mS} {x2 : Int32} {w : mX} (hs : HL σ) (h : ev_run sm_all 175 [rf 11 (0), .inl (x2)] σ (w) σ') : P175 σ x2 w σ' := by
  unfold P175
  obtain ⟨F, f, h⟩ := ei_go h z175_at
  replace h : EV F f 175 z175 0 [some (rf 11 (0)), some (.inl (x2))] [] σ (w, σ') := h
  replace h := ei_p h rfl rfl rfl rfl
  obtain ⟨f, g, h⟩ := h
  clear g
  replace h : EV F f 175 z175 1 [some (rf 11 (0)), some (.inl (x2))] [rf 11 (0)] σ (w, σ') := h
  replace h := ei_p h rfl rfl rfl rfl
  obtain ⟨f, g, h⟩ := h
  clear g
  replace h : EV F f 175 z175 2 [some (rf 11 (0)), some (.inl (x2))] [.inl (x2), rf 11 (0)] σ (w, σ') := h
  replace h := bx_0 (ei_v (as := [.inl (x2)]) h rfl rfl rfl) z135_at rfl
  rcases h with ⟨σ2, r3, f, g, h⟩ | ⟨b, σ2, r3, e⟩
  · skip
    clear g
    have p4 := x135 hs.1 r3
    have hsσ2 : HL σ2 := HL_r2 rfl r3 rfl hs
    refine Or.inl ⟨σ2, gF_r r3 rfl hs, p4, ?_⟩
    replace h : EV F f 175 z175 5 [some (rf 11 (0)), some (.inl (x2))] [] σ2 (w, σ') := h
    replace h := ei_p h rfl rfl rfl rfl
    obtain ⟨f, g, h⟩ := h
    clear g
    replace h : EV F f 175 z175 6 [some (rf 11 (0)), some (.inl (x2))] [.inl (Int32.ofInt 0)] σ2 (w, σ') := h
    have e := ei_iret h rfl
    cases e
    exact ⟨rfl, rfl⟩
  · skip
    have p4 := x135 hs.1 r3
    cases e
    exact Or.inr ⟨b, gF_r r3 rfl hs, p4, rfl⟩
def z176 : mAl := ((yL_broken, cL_broken, 2, (some .int), { frames := 8, cells := 3, slots := 21, locals := 213 }, []), rw_L_broken, false)
theorem z176_at : m_alF[176]? = some z176 := rfl
def P176 (σ : mS) (x2 : Int32) (w : mX) (σ' : mS) : Prop := ((∃ σ2, gF σ σ2 ∧ P143 σ (x2) (.inl none) σ2 ∧ w = .inl (some (.inl (Int32.ofInt 0))) ∧ σ' = σ2) ∨ (∃ b, gF σ σ' ∧ P143 σ (x2) (.inr b) σ' ∧ w = .inr b))
set_option maxRecDepth 100000 in
theorem x176 {σ σ' : mS} {x2 : Int32} {w : mX} (hs : HL σ) (h : ev_run sm_all 176 [rf 11 (0), .inl (x2)] σ (w) σ') : P176 σ x2 w σ' := by
  unfold P176
  obtain ⟨F, f, h⟩ := ei_go h z176_at
  replace h : EV F f 176 z176 0 [some (rf 11 (0)), some (.inl (x2))] [] σ (w, σ') := h
  replace h := ei_p h rfl rfl rfl rfl
  obtain ⟨f, g, h⟩ := h
  clear g
  replace h : EV F f 176 z176 1 [some (rf 11 (0)), some (.inl (x2))] [rf 11 (0)] σ (w, σ') := h
  replace h := ei_p h rfl rfl rfl rfl
  obtain ⟨f, g, h⟩ := h
  clear g
  replace h : EV F f 176 z176 2 [some (rf 11 (0)), some (.inl (x2))] [.inl (x2), rf 11 (0)] σ (w, σ') := h
  replace h := bx_0 (ei_v (as := [.inl (x2)]) h rfl rfl rfl) z143_at rfl
  rcases h with ⟨σ2, r3, f, g, h⟩ | ⟨b, σ2, r3, e⟩
  · skip
    clear g
    have p4 := x143 hs.1 r3
    have hsσ2 : HL σ2 := HL_r2 rfl r3 rfl hs
    refine Or.inl ⟨σ2, gF_r r3 rfl hs, p4, ?_⟩
    replace h : EV F f 176 z176 5 [some (rf 11 (0)), some (.inl (x2))] [] σ2 (w, σ') := h
    replace h := ei_p h rfl rfl rfl rfl
    obtain ⟨f, g, h⟩ := h
    clear g
    replace h : EV F f 176 z176 6 [some (rf 11 (0)), some (.inl (x2))] [.inl (Int32.ofInt 0)] σ2 (w, σ') := h
    have e := ei_iret h rfl
    cases e
    exact ⟨rfl, rfl⟩
  · skip
    have p4 := x143 hs.1 r3
    cases e
    exact Or.inr ⟨b, gF_r r3 rfl hs, p4, rfl⟩
def dw (x : mX) : Int32 := match x with
  | .inl (some (.inl v)) => v
  | .inr b => hw b
  | _ => 0
def z173 : mAl := ((yL_acts, cL_acts, 5, (some .int), { frames := 9, cells := 10, slots := 69, locals := 237 }, [(0, 31, 32, 94), (0, 31, 37, 98), (0, 31, 42, 102)]), rw_L_acts, false)
theorem z173_at : m_alF[173]? = some z173 := rfl
set_option maxRecDepth 100000 in
theorem hb173_0 : z173.1.2.2.2.2.2.isEmpty = false := rfl
set_option maxRecDepth 100000 in
theorem hb173 : z173.1.2.2.2.2.2.all (fun w => match m_at z173.2.1 w.2.2.1 with
  | some r => (match r.1 with
    | .astore _ => true
    | _ => false)
  | none => false) = true := rfl
set_option maxRecDepth 100000 in
theorem hx173 {F f pc b H i : Nat} {rr : mRow} {L : List (Option mV)} {τ : mS} {q : mX × mS} (hp : pc < 31) (e1 : m_hnd z173.1.2.2.2.2.2 pc b = some H) (e2 : m_at z173.2.1 H = some rr) (e3 : rr.1 = .astore i) (h : EV F f 173 z173 (H + 2) ((m_clr L i).set i none) [] τ q) : q = (.inl (some (.inl (hw b))), τ) := by
  have c0 : Nat.ble 0 pc = true := rfl
  have c1 : Nat.blt pc 31 = true := by rw [Nat.blt_eq]; exact hp
  have e9 : (bif (Nat.ble 0 pc && Nat.blt pc 31) && Nat.beq 0 b then some 32 else bif (Nat.ble 0 pc && Nat.blt pc 31) && Nat.beq 1 b then some 37 else bif (Nat.ble 0 pc && Nat.blt pc 31) && Nat.beq 2 b then some 42 else none) = some H := e1
  rw [c0, c1] at e9
  cases g0 : Nat.beq 0 b with
  | true =>
    rw [g0] at e9
    have eb := Nat.eq_of_beq_eq_true g0
    subst eb
    have e9 : some 32 = some H := e9
    cases e9
    replace h := ei_p h rfl rfl rfl rfl
    obtain ⟨f, g, h⟩ := h
    replace h : EV F f 173 z173 36 ((m_clr L i).set i none) [.inl (Int32.ofInt (-3))] τ q := h
    have e := ei_iret h rfl
    rw [e]
    rfl
  | false =>
  rw [g0] at e9
  cases g1 : Nat.beq 1 b with
  | true =>
    rw [g1] at e9
    have eb := Nat.eq_of_beq_eq_true g1
    subst eb
    have e9 : some 37 = some H := e9
    cases e9
    replace h := ei_p h rfl rfl rfl rfl
    obtain ⟨f, g, h⟩ := h
    replace h : EV F f 173 z173 41 ((m_clr L i).set i none) [.inl (Int32.ofInt (-2))] τ q := h
    have e := ei_iret h rfl
    rw [e]
    rfl
  | false =>
  rw [g1] at e9
  cases g2 : Nat.beq 2 b with
  | true =>
    rw [g2] at e9
    have eb := Nat.eq_of_beq_eq_true g2
    subst eb
    have e9 : some 42 = some H := e9
    cases e9
    replace h := ei_p h rfl rfl rfl rfl
    obtain ⟨f, g, h⟩ := h
    replace h : EV F f 173 z173 45 ((m_clr L i).set i none) [.inl (Int32.ofInt (-1))] τ q := h
    have e := ei_iret h rfl
    rw [e]
    rfl
  | false =>
  rw [g2] at e9
  have e9 : (none : Option Nat) = some H := e9
  cases e9
def P173 (σ : mS) (x2 : Int32) (x3 : Int32) (x4 : Int32) (w : mX) (σ' : mS) : Prop := (((x2).toInt ≠ (0 : Int) ∧ (((x2).toInt ≠ (1 : Int) ∧ ((∃ v3 σ4, gF σ σ4 ∧ P176 σ (x3) (.inl (some (.inl v3))) σ4 ∧ w = .inl (some (.inl (v3))) ∧ σ' = σ4 ∧ HL σ4) ∨ (∃ b, gF σ σ' ∧ P176 σ (x3) (.inr b) σ' ∧ w = .inl (some (.inl (hw b))) ∧ HL σ'))) ∨ (¬ ((x2).toInt ≠ (1 : Int)) ∧ ((∃ v7 σ8, gF σ σ8 ∧ P175 σ (x3) (.inl (some (.inl v7))) σ8 ∧ w = .inl (some (.inl (v7))) ∧ σ' = σ8 ∧ HL σ8) ∨ (∃ b, gF σ σ' ∧ P175 σ (x3) (.inr b) σ' ∧ w = .inl (some (.inl (hw b))) ∧ HL σ'))))) ∨ (¬ ((x2).toInt ≠ (0 : Int)) ∧ ((∃ v11 σ12, gF σ σ12 ∧ P174 σ (x3) (x4) (.inl (some (.inl v11))) σ12 ∧ w = .inl (some (.inl (v11))) ∧ σ' = σ12 ∧ HL σ12) ∨ (∃ b, gF σ σ' ∧ P174 σ (x3) (x4) (.inr b) σ' ∧ w = .inl (some (.inl (hw b))) ∧ HL σ'))))
set_option maxRecDepth 100000 in
theorem x173 {σ σ' : mS} {x2 : Int32} {x3 : Int32} {x4 : Int32} {w : mX} (hs : HL σ) (h : ev_run sm_all 173 [rf 11 (0), .inl (x2), .inl (x3), .inl (x4)] σ (w) σ') : P173 σ x2 x3 x4 w σ' := by
  unfold P173
  obtain ⟨F, f, h⟩ := ei_go h z173_at
  replace h : EV F f 173 z173 0 [some (rf 11 (0)), some (.inl (x2)), some (.inl (x3)), some (.inl (x4)), none] [] σ (w, σ') := h
  replace h := ei_p h rfl rfl rfl rfl
  obtain ⟨f, g, h⟩ := h
  clear g
  replace h : EV F f 173 z173 1 [some (rf 11 (0)), some (.inl (x2)), some (.inl (x3)), some (.inl (x4)), none] [.inl (x2)] σ (w, σ') := h
  replace h := ei_c h rfl rfl rfl
  rcases h with ⟨hp1, f, g, h⟩ | ⟨hp1, f, g, h⟩
  · skip
    replace hp1 : (x2).toInt ≠ (0 : Int) := ic_ne.mp hp1
    refine Or.inl ⟨hp1, ?_⟩
    clear g
    replace h : EV F f 173 z173 13 [some (rf 11 (0)), some (.inl (x2)), some (.inl (x3)), some (.inl (x4)), none] [] σ (w, σ') := h
    replace h := ei_p h rfl rfl rfl rfl
    obtain ⟨f, g, h⟩ := h
    clear g
    replace h : EV F f 173 z173 14 [some (rf 11 (0)), some (.inl (x2)), some (.inl (x3)), some (.inl (x4)), none] [.inl (x2)] σ (w, σ') := h
    replace h := ei_p h rfl rfl rfl rfl
    obtain ⟨f, g, h⟩ := h
    clear g
    replace h : EV F f 173 z173 15 [some (rf 11 (0)), some (.inl (x2)), some (.inl (x3)), some (.inl (x4)), none] [.inl (Int32.ofInt 1), .inl (x2)] σ (w, σ') := h
    replace h := ei_c h rfl rfl rfl
    rcases h with ⟨hp2, f, g, h⟩ | ⟨hp2, f, g, h⟩
    · skip
      replace hp2 : (x2).toInt ≠ (1 : Int) := ic_ne.mp hp2
      refine Or.inl ⟨hp2, ?_⟩
      clear g
      replace h : EV F f 173 z173 26 [some (rf 11 (0)), some (.inl (x2)), some (.inl (x3)), some (.inl (x4)), none] [] σ (w, σ') := h
      replace h := ei_p h rfl rfl rfl rfl
      obtain ⟨f, g, h⟩ := h
      clear g
      replace h : EV F f 173 z173 27 [some (rf 11 (0)), some (.inl (x2)), some (.inl (x3)), some (.inl (x4)), none] [rf 11 (0)] σ (w, σ') := h
      replace h := ei_p h rfl rfl rfl rfl
      obtain ⟨f, g, h⟩ := h
      clear g
      replace h : EV F f 173 z173 28 [some (rf 11 (0)), some (.inl (x2)), some (.inl (x3)), some (.inl (x4)), none] [.inl (x3), rf 11 (0)] σ (w, σ') := h
      replace h := bh_I (ei_sh (as := [.inl (x3), rf 11 (0)]) h rfl (Nat.le_of_ble_eq_true rfl) rfl hb173_0 hb173) z176_at (Or.inl rfl)
      rcases h with ⟨v3, σ4, r5, f, g, h⟩ | ⟨b, σ4, r5, H, i, rr, e1, e2, e3, f, g, h⟩
      · skip
        clear g
        have p6 := x176 hs r5
        have hsσ4 : HL σ4 := HL_r2 rfl r5 rfl hs
        refine Or.inl ⟨v3, σ4, gF_r r5 rfl hs, p6, ?_⟩
        replace h : EV F f 173 z173 31 [some (rf 11 (0)), some (.inl (x2)), some (.inl (x3)), some (.inl (x4)), none] [.inl (v3)] σ4 (w, σ') := h
        have e := ei_iret h rfl
        cases e
        exact ⟨rfl, rfl, hsσ4⟩
      · skip
        have p6 := x176 hs r5
        have hsσ4 : HL σ4 := HL_r2 rfl r5 rfl hs
        have e := hx173 (Nat.lt_of_lt_of_le (by decide : 28 < 31) (Nat.le_refl _)) e1 e2 e3 h
        cases e
        exact Or.inr ⟨b, gF_r r5 rfl hs, p6, rfl, hsσ4⟩
    · skip
      replace hp2 : ¬ ((x2).toInt ≠ (1 : Int)) := (not_congr ic_ne).mp hp2
      refine Or.inr ⟨hp2, ?_⟩
      clear g
      replace h : EV F f 173 z173 18 [some (rf 11 (0)), some (.inl (x2)), some (.inl (x3)), some (.inl (x4)), none] [] σ (w, σ') := h
      replace h := ei_p h rfl rfl rfl rfl
      obtain ⟨f, g, h⟩ := h
      clear g
      replace h : EV F f 173 z173 19 [some (rf 11 (0)), some (.inl (x2)), some (.inl (x3)), some (.inl (x4)), none] [rf 11 (0)] σ (w, σ') := h
      replace h := ei_p h rfl rfl rfl rfl
      obtain ⟨f, g, h⟩ := h
      clear g
      replace h : EV F f 173 z173 20 [some (rf 11 (0)), some (.inl (x2)), some (.inl (x3)), some (.inl (x4)), none] [.inl (x3), rf 11 (0)] σ (w, σ') := h
      replace h := bh_I (ei_sh (as := [.inl (x3), rf 11 (0)]) h rfl (Nat.le_of_ble_eq_true rfl) rfl hb173_0 hb173) z175_at (Or.inl rfl)
      rcases h with ⟨v7, σ8, r9, f, g, h⟩ | ⟨b, σ8, r9, H, i, rr, e1, e2, e3, f, g, h⟩
      · skip
        clear g
        have p10 := x175 hs r9
        have hsσ8 : HL σ8 := HL_r2 rfl r9 rfl hs
        refine Or.inl ⟨v7, σ8, gF_r r9 rfl hs, p10, ?_⟩
        replace h : EV F f 173 z173 23 [some (rf 11 (0)), some (.inl (x2)), some (.inl (x3)), some (.inl (x4)), none] [.inl (v7)] σ8 (w, σ') := h
        replace h := ei_p h rfl rfl rfl rfl
        obtain ⟨f, g, h⟩ := h
        clear g
        replace h : EV F f 173 z173 31 [some (rf 11 (0)), some (.inl (x2)), some (.inl (x3)), some (.inl (x4)), none] [.inl (v7)] σ8 (w, σ') := h
        have e := ei_iret h rfl
        cases e
        exact ⟨rfl, rfl, hsσ8⟩
      · skip
        have p10 := x175 hs r9
        have hsσ8 : HL σ8 := HL_r2 rfl r9 rfl hs
        have e := hx173 (Nat.lt_of_lt_of_le (by decide : 20 < 31) (Nat.le_refl _)) e1 e2 e3 h
        cases e
        exact Or.inr ⟨b, gF_r r9 rfl hs, p10, rfl, hsσ8⟩
  · skip
    replace hp1 : ¬ ((x2).toInt ≠ (0 : Int)) := (not_congr ic_ne).mp hp1
    refine Or.inr ⟨hp1, ?_⟩
    clear g
    replace h : EV F f 173 z173 4 [some (rf 11 (0)), some (.inl (x2)), some (.inl (x3)), some (.inl (x4)), none] [] σ (w, σ') := h
    replace h := ei_p h rfl rfl rfl rfl
    obtain ⟨f, g, h⟩ := h
    clear g
    replace h : EV F f 173 z173 5 [some (rf 11 (0)), some (.inl (x2)), some (.inl (x3)), some (.inl (x4)), none] [rf 11 (0)] σ (w, σ') := h
    replace h := ei_p h rfl rfl rfl rfl
    obtain ⟨f, g, h⟩ := h
    clear g
    replace h : EV F f 173 z173 6 [some (rf 11 (0)), some (.inl (x2)), some (.inl (x3)), some (.inl (x4)), none] [.inl (x3), rf 11 (0)] σ (w, σ') := h
    replace h := ei_p h rfl rfl rfl rfl
    obtain ⟨f, g, h⟩ := h
    clear g
    replace h : EV F f 173 z173 7 [some (rf 11 (0)), some (.inl (x2)), some (.inl (x3)), some (.inl (x4)), none] [.inl (x4), .inl (x3), rf 11 (0)] σ (w, σ') := h
    replace h := bh_I (ei_sh (as := [.inl (x4), .inl (x3), rf 11 (0)]) h rfl (Nat.le_of_ble_eq_true rfl) rfl hb173_0 hb173) z174_at (Or.inl rfl)
    rcases h with ⟨v11, σ12, r13, f, g, h⟩ | ⟨b, σ12, r13, H, i, rr, e1, e2, e3, f, g, h⟩
    · skip
      clear g
      have p14 := x174 hs r13
      have hsσ12 : HL σ12 := HL_r2 rfl r13 rfl hs
      refine Or.inl ⟨v11, σ12, gF_r r13 rfl hs, p14, ?_⟩
      replace h : EV F f 173 z173 10 [some (rf 11 (0)), some (.inl (x2)), some (.inl (x3)), some (.inl (x4)), none] [.inl (v11)] σ12 (w, σ') := h
      replace h := ei_p h rfl rfl rfl rfl
      obtain ⟨f, g, h⟩ := h
      clear g
      replace h : EV F f 173 z173 31 [some (rf 11 (0)), some (.inl (x2)), some (.inl (x3)), some (.inl (x4)), none] [.inl (v11)] σ12 (w, σ') := h
      have e := ei_iret h rfl
      cases e
      exact ⟨rfl, rfl, hsσ12⟩
    · skip
      have p14 := x174 hs r13
      have hsσ12 : HL σ12 := HL_r2 rfl r13 rfl hs
      have e := hx173 (Nat.lt_of_lt_of_le (by decide : 7 < 31) (Nat.le_refl _)) e1 e2 e3 h
      cases e
      exact Or.inr ⟨b, gF_r r13 rfl hs, p14, rfl, hsσ12⟩
theorem t173 {σ σ' : mS} {x2 x3 x4 : Int32} {w : mX} (p : P173 σ x2 x3 x4 w σ') : (∃ v : Int32, w = .inl (some (.inl v))) ∧ HL σ' := by
  unfold P173 at p
  rcases p with ⟨_, p⟩ | ⟨_, p⟩
  rotate_left
  · rcases p with ⟨v, τ, _, _, hw, rfl, hl⟩ | ⟨b, _, _, hw, hl⟩
    · exact ⟨⟨_, hw⟩, hl⟩
    · exact ⟨⟨_, hw⟩, hl⟩
  rcases p with ⟨_, p⟩ | ⟨_, p⟩
  rotate_left
  · rcases p with ⟨v, τ, _, _, hw, rfl, hl⟩ | ⟨b, _, _, hw, hl⟩
    · exact ⟨⟨_, hw⟩, hl⟩
    · exact ⟨⟨_, hw⟩, hl⟩
  rcases p with ⟨v, τ, _, _, hw, rfl, hl⟩ | ⟨b, _, _, hw, hl⟩
  · exact ⟨⟨_, hw⟩, hl⟩
  · exact ⟨⟨_, hw⟩, hl⟩
theorem nt173 {σ σ' : mS} {x2 x3 x4 : Int32} {b : Nat} (p : P173 σ x2 x3 x4 (.inr b) σ') : False := by
  obtain ⟨v, e⟩ := (t173 p).1
  cases e
theorem hl173 {σ σ' : mS} {x2 x3 x4 : Int32} {w : mX} (p : P173 σ x2 x3 x4 w σ') : HL σ' := (t173 p).2
theorem d173_0 {σ σ' : mS} {x2 x3 x4 : Int32} {w : Int32} (hk : x2.toInt = 0) (p : P173 σ x2 x3 x4 (.inl (some (.inl w))) σ') : ∃ y : mX, P174 σ x3 x4 y σ' ∧ gF σ σ' ∧ HL σ' ∧ w = dw y := by
  unfold P173 at p
  rcases p with ⟨z, _⟩ | ⟨_, p⟩
  · omega
  rcases p with ⟨v, τ, h1, h2, hw, rfl, hl⟩ | ⟨b, h1, h2, hw, hl⟩
  · cases hw
    exact ⟨_, h2, h1, hl, rfl⟩
  · cases hw
    exact ⟨_, h2, h1, hl, rfl⟩
theorem d173_1 {σ σ' : mS} {x2 x3 x4 : Int32} {w : Int32} (hk : x2.toInt = 1) (p : P173 σ x2 x3 x4 (.inl (some (.inl w))) σ') : ∃ y : mX, P175 σ x3 y σ' ∧ gF σ σ' ∧ HL σ' ∧ w = dw y := by
  unfold P173 at p
  rcases p with ⟨_, p⟩ | ⟨z, _⟩
  rotate_left
  · omega
  rcases p with ⟨z, _⟩ | ⟨_, p⟩
  · omega
  rcases p with ⟨v, τ, h1, h2, hw, rfl, hl⟩ | ⟨b, h1, h2, hw, hl⟩
  · cases hw
    exact ⟨_, h2, h1, hl, rfl⟩
  · cases hw
    exact ⟨_, h2, h1, hl, rfl⟩
theorem d173_2 {σ σ' : mS} {x2 x3 x4 : Int32} {w : Int32} (hk : x2.toInt = 2) (p : P173 σ x2 x3 x4 (.inl (some (.inl w))) σ') : ∃ y : mX, P176 σ x3 y σ' ∧ gF σ σ' ∧ HL σ' ∧ w = dw y := by
  unfold P173 at p
  rcases p with ⟨_, p⟩ | ⟨z, _⟩
  rotate_left
  · omega
  rcases p with ⟨_, p⟩ | ⟨z, _⟩
  rotate_left
  · omega
  rcases p with ⟨v, τ, h1, h2, hw, rfl, hl⟩ | ⟨b, h1, h2, hw, hl⟩
  · cases hw
    exact ⟨_, h2, h1, hl, rfl⟩
  · cases hw
    exact ⟨_, h2, h1, hl, rfl⟩
def z172 : mAl := ((yL_does, cL_does, 10, (some .long), { frames := 8, cells := 66, slots := 438, locals := 218 }, [(0, 396, 397, 94), (0, 396, 403, 98), (0, 396, 409, 102)]), rw_L_does, false)
theorem z172_at : m_alF[172]? = some z172 := rfl
set_option maxRecDepth 100000 in
theorem hb172_0 : z172.1.2.2.2.2.2.isEmpty = false := rfl
set_option maxRecDepth 100000 in
theorem hb172 : z172.1.2.2.2.2.2.all (fun w => match m_at z172.2.1 w.2.2.1 with
  | some r => (match r.1 with
    | .astore _ => true
    | _ => false)
  | none => false) = true := rfl
set_option maxRecDepth 100000 in
theorem hx172 {F f pc b H i : Nat} {rr : mRow} {L : List (Option mV)} {τ : mS} {q : mX × mS} (hp : pc < 396) (e1 : m_hnd z172.1.2.2.2.2.2 pc b = some H) (e2 : m_at z172.2.1 H = some rr) (e3 : rr.1 = .astore i) (h : EV F f 172 z172 (H + 2) ((m_clr L i).set i none) [] τ q) : q = (.inl (some (.inr (.inl (hv b)))), τ) := by
  have c0 : Nat.ble 0 pc = true := rfl
  have c1 : Nat.blt pc 396 = true := by rw [Nat.blt_eq]; exact hp
  have e9 : (bif (Nat.ble 0 pc && Nat.blt pc 396) && Nat.beq 0 b then some 397 else bif (Nat.ble 0 pc && Nat.blt pc 396) && Nat.beq 1 b then some 403 else bif (Nat.ble 0 pc && Nat.blt pc 396) && Nat.beq 2 b then some 409 else none) = some H := e1
  rw [c0, c1] at e9
  cases g0 : Nat.beq 0 b with
  | true =>
    rw [g0] at e9
    have eb := Nat.eq_of_beq_eq_true g0
    subst eb
    have e9 : some 397 = some H := e9
    cases e9
    replace h := ei_p h rfl rfl rfl rfl
    obtain ⟨f, g, h⟩ := h
    replace h : EV F f 172 z172 402 ((m_clr L i).set i none) [.inr (.inl (Int64.ofInt (-3000000000)))] τ q := h
    have e := ei_lret h rfl
    rw [e]
    rfl
  | false =>
  rw [g0] at e9
  cases g1 : Nat.beq 1 b with
  | true =>
    rw [g1] at e9
    have eb := Nat.eq_of_beq_eq_true g1
    subst eb
    have e9 : some 403 = some H := e9
    cases e9
    replace h := ei_p h rfl rfl rfl rfl
    obtain ⟨f, g, h⟩ := h
    replace h : EV F f 172 z172 408 ((m_clr L i).set i none) [.inr (.inl (Int64.ofInt (-2000000000)))] τ q := h
    have e := ei_lret h rfl
    rw [e]
    rfl
  | false =>
  rw [g1] at e9
  cases g2 : Nat.beq 2 b with
  | true =>
    rw [g2] at e9
    have eb := Nat.eq_of_beq_eq_true g2
    subst eb
    have e9 : some 409 = some H := e9
    cases e9
    replace h := ei_p h rfl rfl rfl rfl
    obtain ⟨f, g, h⟩ := h
    replace h : EV F f 172 z172 414 ((m_clr L i).set i none) [.inr (.inl (Int64.ofInt (-1000000000)))] τ q := h
    have e := ei_lret h rfl
    rw [e]
    rfl
  | false =>
  rw [g2] at e9
  have e9 : (none : Option Nat) = some H := e9
  cases e9
def P172 (σ : mS) (x2 : Int32) (x3 : Int32) (x4 : Int32) (x5 : Int32) (x6 : Int32) (x7 : Int32) (x8 : Int32) (x9 : Int32) (w : mX) (σ' : mS) : Prop := (((x2).toInt ≠ (0 : Int) ∧ (((x2).toInt ≠ (1 : Int) ∧ (((x2).toInt ≠ (2 : Int) ∧ (((x2).toInt ≠ (3 : Int) ∧ (((x2).toInt ≠ (4 : Int) ∧ (((x2).toInt ≠ (5 : Int) ∧ (((x2).toInt ≠ (6 : Int) ∧ (((x2).toInt ≠ (7 : Int) ∧ (((x2).toInt ≠ (8 : Int) ∧ (((x2).toInt ≠ (9 : Int) ∧ (((x2).toInt ≠ (10 : Int) ∧ (((x2).toInt ≠ (11 : Int) ∧ (((x2).toInt ≠ (12 : Int) ∧ (((x2).toInt ≠ (13 : Int) ∧ (((x2).toInt ≠ (14 : Int) ∧ (((x2).toInt ≠ (15 : Int) ∧ (((x2).toInt ≠ (16 : Int) ∧ (((x2).toInt ≠ (17 : Int) ∧ (((x2).toInt ≠ (18 : Int) ∧ (((x2).toInt ≠ (19 : Int) ∧ (((x2).toInt ≠ (20 : Int) ∧ (((x2).toInt ≠ (21 : Int) ∧ (((x2).toInt ≠ (22 : Int) ∧ (((x2).toInt ≠ (23 : Int) ∧ ((∃ v25 σ26, gF σ σ26 ∧ P140 σ (x3) (.inl (some (.inl v25))) σ26 ∧ w = .inl (some (.inr (.inl ((v25).toInt64)))) ∧ σ' = σ26 ∧ HL σ26) ∨ (∃ b, gF σ σ' ∧ P140 σ (x3) (.inr b) σ' ∧ w = .inl (some (.inr (.inl (hv b)))) ∧ HL σ'))) ∨ (¬ ((x2).toInt ≠ (23 : Int)) ∧ ((∃ v29 σ30, gF σ σ30 ∧ P132 σ (x3) (x4) (.inl (some (.inl v29))) σ30 ∧ w = .inl (some (.inr (.inl ((v29).toInt64)))) ∧ σ' = σ30 ∧ HL σ30) ∨ (∃ b, gF σ σ' ∧ P132 σ (x3) (x4) (.inr b) σ' ∧ w = .inl (some (.inr (.inl (hv b)))) ∧ HL σ'))))) ∨ (¬ ((x2).toInt ≠ (22 : Int)) ∧ ((∃ v33 σ34, gF σ σ34 ∧ P133 σ (x3) (x4) (x5) (.inl (some (.inl v33))) σ34 ∧ w = .inl (some (.inr (.inl ((v33).toInt64)))) ∧ σ' = σ34 ∧ HL σ34) ∨ (∃ b, gF σ σ' ∧ P133 σ (x3) (x4) (x5) (.inr b) σ' ∧ w = .inl (some (.inr (.inl (hv b)))) ∧ HL σ'))))) ∨ (¬ ((x2).toInt ≠ (21 : Int)) ∧ ((∃ v37 σ38, gF σ σ38 ∧ P149 σ (x3) (.inl (some (.inl v37))) σ38 ∧ w = .inl (some (.inr (.inl ((v37).toInt64)))) ∧ σ' = σ38 ∧ HL σ38) ∨ (∃ b, gF σ σ' ∧ P149 σ (x3) (.inr b) σ' ∧ w = .inl (some (.inr (.inl (hv b)))) ∧ HL σ'))))) ∨ (¬ ((x2).toInt ≠ (20 : Int)) ∧ ((∃ v41 σ42, gF σ σ42 ∧ P145 σ (x3) (x4) (.inl (some (.inr (.inl v41)))) σ42 ∧ w = .inl (some (.inr (.inl (v41)))) ∧ σ' = σ42 ∧ HL σ42) ∨ (∃ b, gF σ σ' ∧ P145 σ (x3) (x4) (.inr b) σ' ∧ w = .inl (some (.inr (.inl (hv b)))) ∧ HL σ'))))) ∨ (¬ ((x2).toInt ≠ (19 : Int)) ∧ ((∃ v45 σ46, gF σ σ46 ∧ P144 σ (x3) (x4) (.inl (some (.inr (.inl v45)))) σ46 ∧ w = .inl (some (.inr (.inl (v45)))) ∧ σ' = σ46 ∧ HL σ46) ∨ (∃ b, gF σ σ' ∧ P144 σ (x3) (x4) (.inr b) σ' ∧ w = .inl (some (.inr (.inl (hv b)))) ∧ HL σ'))))) ∨ (¬ ((x2).toInt ≠ (18 : Int)) ∧ ((∃ v49 σ50, gF σ σ50 ∧ P142 σ (x3) (x4) (.inl (some (.inl v49))) σ50 ∧ w = .inl (some (.inr (.inl ((v49).toInt64)))) ∧ σ' = σ50 ∧ HL σ50) ∨ (∃ b, gF σ σ' ∧ P142 σ (x3) (x4) (.inr b) σ' ∧ w = .inl (some (.inr (.inl (hv b)))) ∧ HL σ'))))) ∨ (¬ ((x2).toInt ≠ (17 : Int)) ∧ ((∃ v53 σ54, gF σ σ54 ∧ P131 σ (x3) (.inl (some (.inl v53))) σ54 ∧ w = .inl (some (.inr (.inl ((v53).toInt64)))) ∧ σ' = σ54 ∧ HL σ54) ∨ (∃ b, gF σ σ' ∧ P131 σ (x3) (.inr b) σ' ∧ w = .inl (some (.inr (.inl (hv b)))) ∧ HL σ'))))) ∨ (¬ ((x2).toInt ≠ (16 : Int)) ∧ ((∃ v57 σ58, gF σ σ58 ∧ P155 σ (x3) (.inl (some (.inl v57))) σ58 ∧ w = .inl (some (.inr (.inl ((v57).toInt64)))) ∧ σ' = σ58 ∧ HL σ58) ∨ (∃ b, gF σ σ' ∧ P155 σ (x3) (.inr b) σ' ∧ w = .inl (some (.inr (.inl (hv b)))) ∧ HL σ'))))) ∨ (¬ ((x2).toInt ≠ (15 : Int)) ∧ ((∃ v61 σ62, gF σ σ62 ∧ P154 σ (x3) (.inl (some (.inl v61))) σ62 ∧ w = .inl (some (.inr (.inl ((v61).toInt64)))) ∧ σ' = σ62 ∧ HL σ62) ∨ (∃ b, gF σ σ' ∧ P154 σ (x3) (.inr b) σ' ∧ w = .inl (some (.inr (.inl (hv b)))) ∧ HL σ'))))) ∨ (¬ ((x2).toInt ≠ (14 : Int)) ∧ ((∃ v65 σ66, gF σ σ66 ∧ P153 σ (x3) (.inl (some (.inl v65))) σ66 ∧ w = .inl (some (.inr (.inl ((v65).toInt64)))) ∧ σ' = σ66 ∧ HL σ66) ∨ (∃ b, gF σ σ' ∧ P153 σ (x3) (.inr b) σ' ∧ w = .inl (some (.inr (.inl (hv b)))) ∧ HL σ'))))) ∨ (¬ ((x2).toInt ≠ (13 : Int)) ∧ ((∃ v69 σ70, gF σ σ70 ∧ P152 σ (.inl (some (.inr (.inl v69)))) σ70 ∧ w = .inl (some (.inr (.inl (v69)))) ∧ σ' = σ70 ∧ HL σ70) ∨ (∃ b, gF σ σ' ∧ P152 σ (.inr b) σ' ∧ w = .inl (some (.inr (.inl (hv b)))) ∧ HL σ'))))) ∨ (¬ ((x2).toInt ≠ (12 : Int)) ∧ ((∃ v73 σ74, gF σ σ74 ∧ P151 σ (x3) (x4) (x5) (.inl (some (.inr (.inl v73)))) σ74 ∧ w = .inl (some (.inr (.inl (v73)))) ∧ σ' = σ74 ∧ HL σ74) ∨ (∃ b, gF σ σ' ∧ P151 σ (x3) (x4) (x5) (.inr b) σ' ∧ w = .inl (some (.inr (.inl (hv b)))) ∧ HL σ'))))) ∨ (¬ ((x2).toInt ≠ (11 : Int)) ∧ ((∃ v77 σ78, gF σ σ78 ∧ P150 σ (x3) (.inl (some (.inl v77))) σ78 ∧ w = .inl (some (.inr (.inl ((v77).toInt64)))) ∧ σ' = σ78 ∧ HL σ78) ∨ (∃ b, gF σ σ' ∧ P150 σ (x3) (.inr b) σ' ∧ w = .inl (some (.inr (.inl (hv b)))) ∧ HL σ'))))) ∨ (¬ ((x2).toInt ≠ (10 : Int)) ∧ ((∃ v81 σ82, gF σ σ82 ∧ P146 σ (x3) (x4) (x5) (.inl (some (.inl v81))) σ82 ∧ w = .inl (some (.inr (.inl ((v81).toInt64)))) ∧ σ' = σ82 ∧ HL σ82) ∨ (∃ b, gF σ σ' ∧ P146 σ (x3) (x4) (x5) (.inr b) σ' ∧ w = .inl (some (.inr (.inl (hv b)))) ∧ HL σ'))))) ∨ (¬ ((x2).toInt ≠ (9 : Int)) ∧ ((∃ v85 σ86, gF σ σ86 ∧ P139 σ (x3) (x4) (.inl (some (.inr (.inl v85)))) σ86 ∧ w = .inl (some (.inr (.inl (v85)))) ∧ σ' = σ86 ∧ HL σ86) ∨ (∃ b, gF σ σ' ∧ P139 σ (x3) (x4) (.inr b) σ' ∧ w = .inl (some (.inr (.inl (hv b)))) ∧ HL σ'))))) ∨ (¬ ((x2).toInt ≠ (8 : Int)) ∧ ((∃ v89 σ90, gF σ σ90 ∧ P138 σ (x3) (x4) (.inl (some (.inl v89))) σ90 ∧ w = .inl (some (.inr (.inl ((v89).toInt64)))) ∧ σ' = σ90 ∧ HL σ90) ∨ (∃ b, gF σ σ' ∧ P138 σ (x3) (x4) (.inr b) σ' ∧ w = .inl (some (.inr (.inl (hv b)))) ∧ HL σ'))))) ∨ (¬ ((x2).toInt ≠ (7 : Int)) ∧ ((∃ v93 σ94, gF σ σ94 ∧ P137 σ (x3) (.inl (some (.inl v93))) σ94 ∧ w = .inl (some (.inr (.inl ((v93).toInt64)))) ∧ σ' = σ94 ∧ HL σ94) ∨ (∃ b, gF σ σ' ∧ P137 σ (x3) (.inr b) σ' ∧ w = .inl (some (.inr (.inl (hv b)))) ∧ HL σ'))))) ∨ (¬ ((x2).toInt ≠ (6 : Int)) ∧ ((∃ v97 σ98, gF σ σ98 ∧ P134 σ (x3) (x4) (.inl (some (.inl v97))) σ98 ∧ w = .inl (some (.inr (.inl ((v97).toInt64)))) ∧ σ' = σ98 ∧ HL σ98) ∨ (∃ b, gF σ σ' ∧ P134 σ (x3) (x4) (.inr b) σ' ∧ w = .inl (some (.inr (.inl (hv b)))) ∧ HL σ'))))) ∨ (¬ ((x2).toInt ≠ (5 : Int)) ∧ ((∃ v101 σ102, gF σ σ102 ∧ P130 σ (x3) (x4) (x5) (x6) (x7) (.inl (some (.inl v101))) σ102 ∧ w = .inl (some (.inr (.inl ((v101).toInt64)))) ∧ σ' = σ102 ∧ HL σ102) ∨ (∃ b, gF σ σ' ∧ P130 σ (x3) (x4) (x5) (x6) (x7) (.inr b) σ' ∧ w = .inl (some (.inr (.inl (hv b)))) ∧ HL σ'))))) ∨ (¬ ((x2).toInt ≠ (4 : Int)) ∧ ((∃ v105 σ106, gF σ σ106 ∧ P129 σ (x3) (.inl (some (.inl v105))) σ106 ∧ w = .inl (some (.inr (.inl ((v105).toInt64)))) ∧ σ' = σ106 ∧ HL σ106) ∨ (∃ b, gF σ σ' ∧ P129 σ (x3) (.inr b) σ' ∧ w = .inl (some (.inr (.inl (hv b)))) ∧ HL σ'))))) ∨ (¬ ((x2).toInt ≠ (3 : Int)) ∧ ((∃ v109 σ110, gF σ σ110 ∧ P127 σ (x3) (x4) (x5) (x6) (x7) (x8) (.inl (some (.inl v109))) σ110 ∧ w = .inl (some (.inr (.inl ((v109).toInt64)))) ∧ σ' = σ110 ∧ HL σ110) ∨ (∃ b, gF σ σ' ∧ P127 σ (x3) (x4) (x5) (x6) (x7) (x8) (.inr b) σ' ∧ w = .inl (some (.inr (.inl (hv b)))) ∧ HL σ'))))) ∨ (¬ ((x2).toInt ≠ (2 : Int)) ∧ ((∃ v113 σ114, gF σ σ114 ∧ P126 σ (x3) (x4) (x5) (x6) (x7) (x8) (x9) (.inl (some (.inl v113))) σ114 ∧ w = .inl (some (.inr (.inl ((v113).toInt64)))) ∧ σ' = σ114 ∧ HL σ114) ∨ (∃ b, gF σ σ' ∧ P126 σ (x3) (x4) (x5) (x6) (x7) (x8) (x9) (.inr b) σ' ∧ w = .inl (some (.inr (.inl (hv b)))) ∧ HL σ'))))) ∨ (¬ ((x2).toInt ≠ (1 : Int)) ∧ ((∃ v117 σ118, gF σ σ118 ∧ P125 σ (x3) (x4) (.inl (some (.inr (.inl v117)))) σ118 ∧ w = .inl (some (.inr (.inl (v117)))) ∧ σ' = σ118 ∧ HL σ118) ∨ (∃ b, gF σ σ' ∧ P125 σ (x3) (x4) (.inr b) σ' ∧ w = .inl (some (.inr (.inl (hv b)))) ∧ HL σ'))))) ∨ (¬ ((x2).toInt ≠ (0 : Int)) ∧ ((∃ v121 σ122, gF σ σ122 ∧ P124 σ (x3) (x4) (.inl (some (.inr (.inl v121)))) σ122 ∧ w = .inl (some (.inr (.inl (v121)))) ∧ σ' = σ122 ∧ HL σ122) ∨ (∃ b, gF σ σ' ∧ P124 σ (x3) (x4) (.inr b) σ' ∧ w = .inl (some (.inr (.inl (hv b)))) ∧ HL σ'))))
set_option maxRecDepth 100000 in
theorem x172 {σ σ' : mS} {x2 : Int32} {x3 : Int32} {x4 : Int32} {x5 : Int32} {x6 : Int32} {x7 : Int32} {x8 : Int32} {x9 : Int32} {w : mX} (hs : HL σ) (h : ev_run sm_all 172 [rf 11 (0), .inl (x2), .inl (x3), .inl (x4), .inl (x5), .inl (x6), .inl (x7), .inl (x8), .inl (x9)] σ (w) σ') : P172 σ x2 x3 x4 x5 x6 x7 x8 x9 w σ' := by
  unfold P172
  obtain ⟨F, f, h⟩ := ei_go h z172_at
  replace h : EV F f 172 z172 0 [some (rf 11 (0)), some (.inl (x2)), some (.inl (x3)), some (.inl (x4)), some (.inl (x5)), some (.inl (x6)), some (.inl (x7)), some (.inl (x8)), some (.inl (x9)), none] [] σ (w, σ') := h
  replace h := ei_p h rfl rfl rfl rfl
  obtain ⟨f, g, h⟩ := h
  clear g
  replace h : EV F f 172 z172 1 [some (rf 11 (0)), some (.inl (x2)), some (.inl (x3)), some (.inl (x4)), some (.inl (x5)), some (.inl (x6)), some (.inl (x7)), some (.inl (x8)), some (.inl (x9)), none] [.inl (x2)] σ (w, σ') := h
  replace h := ei_c h rfl rfl rfl
  rcases h with ⟨hp1, f, g, h⟩ | ⟨hp1, f, g, h⟩
  · skip
    replace hp1 : (x2).toInt ≠ (0 : Int) := ic_ne.mp hp1
    refine Or.inl ⟨hp1, ?_⟩
    clear g
    replace h : EV F f 172 z172 13 [some (rf 11 (0)), some (.inl (x2)), some (.inl (x3)), some (.inl (x4)), some (.inl (x5)), some (.inl (x6)), some (.inl (x7)), some (.inl (x8)), some (.inl (x9)), none] [] σ (w, σ') := h
    replace h := ei_p h rfl rfl rfl rfl
    obtain ⟨f, g, h⟩ := h
    clear g
    replace h : EV F f 172 z172 14 [some (rf 11 (0)), some (.inl (x2)), some (.inl (x3)), some (.inl (x4)), some (.inl (x5)), some (.inl (x6)), some (.inl (x7)), some (.inl (x8)), some (.inl (x9)), none] [.inl (x2)] σ (w, σ') := h
    replace h := ei_p h rfl rfl rfl rfl
    obtain ⟨f, g, h⟩ := h
    clear g
    replace h : EV F f 172 z172 15 [some (rf 11 (0)), some (.inl (x2)), some (.inl (x3)), some (.inl (x4)), some (.inl (x5)), some (.inl (x6)), some (.inl (x7)), some (.inl (x8)), some (.inl (x9)), none] [.inl (Int32.ofInt 1), .inl (x2)] σ (w, σ') := h
    replace h := ei_c h rfl rfl rfl
    rcases h with ⟨hp2, f, g, h⟩ | ⟨hp2, f, g, h⟩
    · skip
      replace hp2 : (x2).toInt ≠ (1 : Int) := ic_ne.mp hp2
      refine Or.inl ⟨hp2, ?_⟩
      clear g
      replace h : EV F f 172 z172 27 [some (rf 11 (0)), some (.inl (x2)), some (.inl (x3)), some (.inl (x4)), some (.inl (x5)), some (.inl (x6)), some (.inl (x7)), some (.inl (x8)), some (.inl (x9)), none] [] σ (w, σ') := h
      replace h := ei_p h rfl rfl rfl rfl
      obtain ⟨f, g, h⟩ := h
      clear g
      replace h : EV F f 172 z172 28 [some (rf 11 (0)), some (.inl (x2)), some (.inl (x3)), some (.inl (x4)), some (.inl (x5)), some (.inl (x6)), some (.inl (x7)), some (.inl (x8)), some (.inl (x9)), none] [.inl (x2)] σ (w, σ') := h
      replace h := ei_p h rfl rfl rfl rfl
      obtain ⟨f, g, h⟩ := h
      clear g
      replace h : EV F f 172 z172 29 [some (rf 11 (0)), some (.inl (x2)), some (.inl (x3)), some (.inl (x4)), some (.inl (x5)), some (.inl (x6)), some (.inl (x7)), some (.inl (x8)), some (.inl (x9)), none] [.inl (Int32.ofInt 2), .inl (x2)] σ (w, σ') := h
      replace h := ei_c h rfl rfl rfl
      rcases h with ⟨hp3, f, g, h⟩ | ⟨hp3, f, g, h⟩
      · skip
        replace hp3 : (x2).toInt ≠ (2 : Int) := ic_ne.mp hp3
        refine Or.inl ⟨hp3, ?_⟩
        clear g
        replace h : EV F f 172 z172 52 [some (rf 11 (0)), some (.inl (x2)), some (.inl (x3)), some (.inl (x4)), some (.inl (x5)), some (.inl (x6)), some (.inl (x7)), some (.inl (x8)), some (.inl (x9)), none] [] σ (w, σ') := h
        replace h := ei_p h rfl rfl rfl rfl
        obtain ⟨f, g, h⟩ := h
        clear g
        replace h : EV F f 172 z172 53 [some (rf 11 (0)), some (.inl (x2)), some (.inl (x3)), some (.inl (x4)), some (.inl (x5)), some (.inl (x6)), some (.inl (x7)), some (.inl (x8)), some (.inl (x9)), none] [.inl (x2)] σ (w, σ') := h
        replace h := ei_p h rfl rfl rfl rfl
        obtain ⟨f, g, h⟩ := h
        clear g
        replace h : EV F f 172 z172 54 [some (rf 11 (0)), some (.inl (x2)), some (.inl (x3)), some (.inl (x4)), some (.inl (x5)), some (.inl (x6)), some (.inl (x7)), some (.inl (x8)), some (.inl (x9)), none] [.inl (Int32.ofInt 3), .inl (x2)] σ (w, σ') := h
        replace h := ei_c h rfl rfl rfl
        rcases h with ⟨hp4, f, g, h⟩ | ⟨hp4, f, g, h⟩
        · skip
          replace hp4 : (x2).toInt ≠ (3 : Int) := ic_ne.mp hp4
          refine Or.inl ⟨hp4, ?_⟩
          clear g
          replace h : EV F f 172 z172 75 [some (rf 11 (0)), some (.inl (x2)), some (.inl (x3)), some (.inl (x4)), some (.inl (x5)), some (.inl (x6)), some (.inl (x7)), some (.inl (x8)), some (.inl (x9)), none] [] σ (w, σ') := h
          replace h := ei_p h rfl rfl rfl rfl
          obtain ⟨f, g, h⟩ := h
          clear g
          replace h : EV F f 172 z172 76 [some (rf 11 (0)), some (.inl (x2)), some (.inl (x3)), some (.inl (x4)), some (.inl (x5)), some (.inl (x6)), some (.inl (x7)), some (.inl (x8)), some (.inl (x9)), none] [.inl (x2)] σ (w, σ') := h
          replace h := ei_p h rfl rfl rfl rfl
          obtain ⟨f, g, h⟩ := h
          clear g
          replace h : EV F f 172 z172 77 [some (rf 11 (0)), some (.inl (x2)), some (.inl (x3)), some (.inl (x4)), some (.inl (x5)), some (.inl (x6)), some (.inl (x7)), some (.inl (x8)), some (.inl (x9)), none] [.inl (Int32.ofInt 4), .inl (x2)] σ (w, σ') := h
          replace h := ei_c h rfl rfl rfl
          rcases h with ⟨hp5, f, g, h⟩ | ⟨hp5, f, g, h⟩
          · skip
            replace hp5 : (x2).toInt ≠ (4 : Int) := ic_ne.mp hp5
            refine Or.inl ⟨hp5, ?_⟩
            clear g
            replace h : EV F f 172 z172 89 [some (rf 11 (0)), some (.inl (x2)), some (.inl (x3)), some (.inl (x4)), some (.inl (x5)), some (.inl (x6)), some (.inl (x7)), some (.inl (x8)), some (.inl (x9)), none] [] σ (w, σ') := h
            replace h := ei_p h rfl rfl rfl rfl
            obtain ⟨f, g, h⟩ := h
            clear g
            replace h : EV F f 172 z172 90 [some (rf 11 (0)), some (.inl (x2)), some (.inl (x3)), some (.inl (x4)), some (.inl (x5)), some (.inl (x6)), some (.inl (x7)), some (.inl (x8)), some (.inl (x9)), none] [.inl (x2)] σ (w, σ') := h
            replace h := ei_p h rfl rfl rfl rfl
            obtain ⟨f, g, h⟩ := h
            clear g
            replace h : EV F f 172 z172 91 [some (rf 11 (0)), some (.inl (x2)), some (.inl (x3)), some (.inl (x4)), some (.inl (x5)), some (.inl (x6)), some (.inl (x7)), some (.inl (x8)), some (.inl (x9)), none] [.inl (Int32.ofInt 5), .inl (x2)] σ (w, σ') := h
            replace h := ei_c h rfl rfl rfl
            rcases h with ⟨hp6, f, g, h⟩ | ⟨hp6, f, g, h⟩
            · skip
              replace hp6 : (x2).toInt ≠ (5 : Int) := ic_ne.mp hp6
              refine Or.inl ⟨hp6, ?_⟩
              clear g
              replace h : EV F f 172 z172 110 [some (rf 11 (0)), some (.inl (x2)), some (.inl (x3)), some (.inl (x4)), some (.inl (x5)), some (.inl (x6)), some (.inl (x7)), some (.inl (x8)), some (.inl (x9)), none] [] σ (w, σ') := h
              replace h := ei_p h rfl rfl rfl rfl
              obtain ⟨f, g, h⟩ := h
              clear g
              replace h : EV F f 172 z172 111 [some (rf 11 (0)), some (.inl (x2)), some (.inl (x3)), some (.inl (x4)), some (.inl (x5)), some (.inl (x6)), some (.inl (x7)), some (.inl (x8)), some (.inl (x9)), none] [.inl (x2)] σ (w, σ') := h
              replace h := ei_p h rfl rfl rfl rfl
              obtain ⟨f, g, h⟩ := h
              clear g
              replace h : EV F f 172 z172 113 [some (rf 11 (0)), some (.inl (x2)), some (.inl (x3)), some (.inl (x4)), some (.inl (x5)), some (.inl (x6)), some (.inl (x7)), some (.inl (x8)), some (.inl (x9)), none] [.inl (Int32.ofInt 6), .inl (x2)] σ (w, σ') := h
              replace h := ei_c h rfl rfl rfl
              rcases h with ⟨hp7, f, g, h⟩ | ⟨hp7, f, g, h⟩
              · skip
                replace hp7 : (x2).toInt ≠ (6 : Int) := ic_ne.mp hp7
                refine Or.inl ⟨hp7, ?_⟩
                clear g
                replace h : EV F f 172 z172 126 [some (rf 11 (0)), some (.inl (x2)), some (.inl (x3)), some (.inl (x4)), some (.inl (x5)), some (.inl (x6)), some (.inl (x7)), some (.inl (x8)), some (.inl (x9)), none] [] σ (w, σ') := h
                replace h := ei_p h rfl rfl rfl rfl
                obtain ⟨f, g, h⟩ := h
                clear g
                replace h : EV F f 172 z172 127 [some (rf 11 (0)), some (.inl (x2)), some (.inl (x3)), some (.inl (x4)), some (.inl (x5)), some (.inl (x6)), some (.inl (x7)), some (.inl (x8)), some (.inl (x9)), none] [.inl (x2)] σ (w, σ') := h
                replace h := ei_p h rfl rfl rfl rfl
                obtain ⟨f, g, h⟩ := h
                clear g
                replace h : EV F f 172 z172 129 [some (rf 11 (0)), some (.inl (x2)), some (.inl (x3)), some (.inl (x4)), some (.inl (x5)), some (.inl (x6)), some (.inl (x7)), some (.inl (x8)), some (.inl (x9)), none] [.inl (Int32.ofInt 7), .inl (x2)] σ (w, σ') := h
                replace h := ei_c h rfl rfl rfl
                rcases h with ⟨hp8, f, g, h⟩ | ⟨hp8, f, g, h⟩
                · skip
                  replace hp8 : (x2).toInt ≠ (7 : Int) := ic_ne.mp hp8
                  refine Or.inl ⟨hp8, ?_⟩
                  clear g
                  replace h : EV F f 172 z172 141 [some (rf 11 (0)), some (.inl (x2)), some (.inl (x3)), some (.inl (x4)), some (.inl (x5)), some (.inl (x6)), some (.inl (x7)), some (.inl (x8)), some (.inl (x9)), none] [] σ (w, σ') := h
                  replace h := ei_p h rfl rfl rfl rfl
                  obtain ⟨f, g, h⟩ := h
                  clear g
                  replace h : EV F f 172 z172 142 [some (rf 11 (0)), some (.inl (x2)), some (.inl (x3)), some (.inl (x4)), some (.inl (x5)), some (.inl (x6)), some (.inl (x7)), some (.inl (x8)), some (.inl (x9)), none] [.inl (x2)] σ (w, σ') := h
                  replace h := ei_p h rfl rfl rfl rfl
                  obtain ⟨f, g, h⟩ := h
                  clear g
                  replace h : EV F f 172 z172 144 [some (rf 11 (0)), some (.inl (x2)), some (.inl (x3)), some (.inl (x4)), some (.inl (x5)), some (.inl (x6)), some (.inl (x7)), some (.inl (x8)), some (.inl (x9)), none] [.inl (Int32.ofInt 8), .inl (x2)] σ (w, σ') := h
                  replace h := ei_c h rfl rfl rfl
                  rcases h with ⟨hp9, f, g, h⟩ | ⟨hp9, f, g, h⟩
                  · skip
                    replace hp9 : (x2).toInt ≠ (8 : Int) := ic_ne.mp hp9
                    refine Or.inl ⟨hp9, ?_⟩
                    clear g
                    replace h : EV F f 172 z172 157 [some (rf 11 (0)), some (.inl (x2)), some (.inl (x3)), some (.inl (x4)), some (.inl (x5)), some (.inl (x6)), some (.inl (x7)), some (.inl (x8)), some (.inl (x9)), none] [] σ (w, σ') := h
                    replace h := ei_p h rfl rfl rfl rfl
                    obtain ⟨f, g, h⟩ := h
                    clear g
                    replace h : EV F f 172 z172 158 [some (rf 11 (0)), some (.inl (x2)), some (.inl (x3)), some (.inl (x4)), some (.inl (x5)), some (.inl (x6)), some (.inl (x7)), some (.inl (x8)), some (.inl (x9)), none] [.inl (x2)] σ (w, σ') := h
                    replace h := ei_p h rfl rfl rfl rfl
                    obtain ⟨f, g, h⟩ := h
                    clear g
                    replace h : EV F f 172 z172 160 [some (rf 11 (0)), some (.inl (x2)), some (.inl (x3)), some (.inl (x4)), some (.inl (x5)), some (.inl (x6)), some (.inl (x7)), some (.inl (x8)), some (.inl (x9)), none] [.inl (Int32.ofInt 9), .inl (x2)] σ (w, σ') := h
                    replace h := ei_c h rfl rfl rfl
                    rcases h with ⟨hp10, f, g, h⟩ | ⟨hp10, f, g, h⟩
                    · skip
                      replace hp10 : (x2).toInt ≠ (9 : Int) := ic_ne.mp hp10
                      refine Or.inl ⟨hp10, ?_⟩
                      clear g
                      replace h : EV F f 172 z172 172 [some (rf 11 (0)), some (.inl (x2)), some (.inl (x3)), some (.inl (x4)), some (.inl (x5)), some (.inl (x6)), some (.inl (x7)), some (.inl (x8)), some (.inl (x9)), none] [] σ (w, σ') := h
                      replace h := ei_p h rfl rfl rfl rfl
                      obtain ⟨f, g, h⟩ := h
                      clear g
                      replace h : EV F f 172 z172 173 [some (rf 11 (0)), some (.inl (x2)), some (.inl (x3)), some (.inl (x4)), some (.inl (x5)), some (.inl (x6)), some (.inl (x7)), some (.inl (x8)), some (.inl (x9)), none] [.inl (x2)] σ (w, σ') := h
                      replace h := ei_p h rfl rfl rfl rfl
                      obtain ⟨f, g, h⟩ := h
                      clear g
                      replace h : EV F f 172 z172 175 [some (rf 11 (0)), some (.inl (x2)), some (.inl (x3)), some (.inl (x4)), some (.inl (x5)), some (.inl (x6)), some (.inl (x7)), some (.inl (x8)), some (.inl (x9)), none] [.inl (Int32.ofInt 10), .inl (x2)] σ (w, σ') := h
                      replace h := ei_c h rfl rfl rfl
                      rcases h with ⟨hp11, f, g, h⟩ | ⟨hp11, f, g, h⟩
                      · skip
                        replace hp11 : (x2).toInt ≠ (10 : Int) := ic_ne.mp hp11
                        refine Or.inl ⟨hp11, ?_⟩
                        clear g
                        replace h : EV F f 172 z172 190 [some (rf 11 (0)), some (.inl (x2)), some (.inl (x3)), some (.inl (x4)), some (.inl (x5)), some (.inl (x6)), some (.inl (x7)), some (.inl (x8)), some (.inl (x9)), none] [] σ (w, σ') := h
                        replace h := ei_p h rfl rfl rfl rfl
                        obtain ⟨f, g, h⟩ := h
                        clear g
                        replace h : EV F f 172 z172 191 [some (rf 11 (0)), some (.inl (x2)), some (.inl (x3)), some (.inl (x4)), some (.inl (x5)), some (.inl (x6)), some (.inl (x7)), some (.inl (x8)), some (.inl (x9)), none] [.inl (x2)] σ (w, σ') := h
                        replace h := ei_p h rfl rfl rfl rfl
                        obtain ⟨f, g, h⟩ := h
                        clear g
                        replace h : EV F f 172 z172 193 [some (rf 11 (0)), some (.inl (x2)), some (.inl (x3)), some (.inl (x4)), some (.inl (x5)), some (.inl (x6)), some (.inl (x7)), some (.inl (x8)), some (.inl (x9)), none] [.inl (Int32.ofInt 11), .inl (x2)] σ (w, σ') := h
                        replace h := ei_c h rfl rfl rfl
                        rcases h with ⟨hp12, f, g, h⟩ | ⟨hp12, f, g, h⟩
                        · skip
                          replace hp12 : (x2).toInt ≠ (11 : Int) := ic_ne.mp hp12
                          refine Or.inl ⟨hp12, ?_⟩
                          clear g
                          replace h : EV F f 172 z172 205 [some (rf 11 (0)), some (.inl (x2)), some (.inl (x3)), some (.inl (x4)), some (.inl (x5)), some (.inl (x6)), some (.inl (x7)), some (.inl (x8)), some (.inl (x9)), none] [] σ (w, σ') := h
                          replace h := ei_p h rfl rfl rfl rfl
                          obtain ⟨f, g, h⟩ := h
                          clear g
                          replace h : EV F f 172 z172 206 [some (rf 11 (0)), some (.inl (x2)), some (.inl (x3)), some (.inl (x4)), some (.inl (x5)), some (.inl (x6)), some (.inl (x7)), some (.inl (x8)), some (.inl (x9)), none] [.inl (x2)] σ (w, σ') := h
                          replace h := ei_p h rfl rfl rfl rfl
                          obtain ⟨f, g, h⟩ := h
                          clear g
                          replace h : EV F f 172 z172 208 [some (rf 11 (0)), some (.inl (x2)), some (.inl (x3)), some (.inl (x4)), some (.inl (x5)), some (.inl (x6)), some (.inl (x7)), some (.inl (x8)), some (.inl (x9)), none] [.inl (Int32.ofInt 12), .inl (x2)] σ (w, σ') := h
                          replace h := ei_c h rfl rfl rfl
                          rcases h with ⟨hp13, f, g, h⟩ | ⟨hp13, f, g, h⟩
                          · skip
                            replace hp13 : (x2).toInt ≠ (12 : Int) := ic_ne.mp hp13
                            refine Or.inl ⟨hp13, ?_⟩
                            clear g
                            replace h : EV F f 172 z172 222 [some (rf 11 (0)), some (.inl (x2)), some (.inl (x3)), some (.inl (x4)), some (.inl (x5)), some (.inl (x6)), some (.inl (x7)), some (.inl (x8)), some (.inl (x9)), none] [] σ (w, σ') := h
                            replace h := ei_p h rfl rfl rfl rfl
                            obtain ⟨f, g, h⟩ := h
                            clear g
                            replace h : EV F f 172 z172 223 [some (rf 11 (0)), some (.inl (x2)), some (.inl (x3)), some (.inl (x4)), some (.inl (x5)), some (.inl (x6)), some (.inl (x7)), some (.inl (x8)), some (.inl (x9)), none] [.inl (x2)] σ (w, σ') := h
                            replace h := ei_p h rfl rfl rfl rfl
                            obtain ⟨f, g, h⟩ := h
                            clear g
                            replace h : EV F f 172 z172 225 [some (rf 11 (0)), some (.inl (x2)), some (.inl (x3)), some (.inl (x4)), some (.inl (x5)), some (.inl (x6)), some (.inl (x7)), some (.inl (x8)), some (.inl (x9)), none] [.inl (Int32.ofInt 13), .inl (x2)] σ (w, σ') := h
                            replace h := ei_c h rfl rfl rfl
                            rcases h with ⟨hp14, f, g, h⟩ | ⟨hp14, f, g, h⟩
                            · skip
                              replace hp14 : (x2).toInt ≠ (13 : Int) := ic_ne.mp hp14
                              refine Or.inl ⟨hp14, ?_⟩
                              clear g
                              replace h : EV F f 172 z172 235 [some (rf 11 (0)), some (.inl (x2)), some (.inl (x3)), some (.inl (x4)), some (.inl (x5)), some (.inl (x6)), some (.inl (x7)), some (.inl (x8)), some (.inl (x9)), none] [] σ (w, σ') := h
                              replace h := ei_p h rfl rfl rfl rfl
                              obtain ⟨f, g, h⟩ := h
                              clear g
                              replace h : EV F f 172 z172 236 [some (rf 11 (0)), some (.inl (x2)), some (.inl (x3)), some (.inl (x4)), some (.inl (x5)), some (.inl (x6)), some (.inl (x7)), some (.inl (x8)), some (.inl (x9)), none] [.inl (x2)] σ (w, σ') := h
                              replace h := ei_p h rfl rfl rfl rfl
                              obtain ⟨f, g, h⟩ := h
                              clear g
                              replace h : EV F f 172 z172 238 [some (rf 11 (0)), some (.inl (x2)), some (.inl (x3)), some (.inl (x4)), some (.inl (x5)), some (.inl (x6)), some (.inl (x7)), some (.inl (x8)), some (.inl (x9)), none] [.inl (Int32.ofInt 14), .inl (x2)] σ (w, σ') := h
                              replace h := ei_c h rfl rfl rfl
                              rcases h with ⟨hp15, f, g, h⟩ | ⟨hp15, f, g, h⟩
                              · skip
                                replace hp15 : (x2).toInt ≠ (14 : Int) := ic_ne.mp hp15
                                refine Or.inl ⟨hp15, ?_⟩
                                clear g
                                replace h : EV F f 172 z172 250 [some (rf 11 (0)), some (.inl (x2)), some (.inl (x3)), some (.inl (x4)), some (.inl (x5)), some (.inl (x6)), some (.inl (x7)), some (.inl (x8)), some (.inl (x9)), none] [] σ (w, σ') := h
                                replace h := ei_p h rfl rfl rfl rfl
                                obtain ⟨f, g, h⟩ := h
                                clear g
                                replace h : EV F f 172 z172 251 [some (rf 11 (0)), some (.inl (x2)), some (.inl (x3)), some (.inl (x4)), some (.inl (x5)), some (.inl (x6)), some (.inl (x7)), some (.inl (x8)), some (.inl (x9)), none] [.inl (x2)] σ (w, σ') := h
                                replace h := ei_p h rfl rfl rfl rfl
                                obtain ⟨f, g, h⟩ := h
                                clear g
                                replace h : EV F f 172 z172 253 [some (rf 11 (0)), some (.inl (x2)), some (.inl (x3)), some (.inl (x4)), some (.inl (x5)), some (.inl (x6)), some (.inl (x7)), some (.inl (x8)), some (.inl (x9)), none] [.inl (Int32.ofInt 15), .inl (x2)] σ (w, σ') := h
                                replace h := ei_c h rfl rfl rfl
                                rcases h with ⟨hp16, f, g, h⟩ | ⟨hp16, f, g, h⟩
                                · skip
                                  replace hp16 : (x2).toInt ≠ (15 : Int) := ic_ne.mp hp16
                                  refine Or.inl ⟨hp16, ?_⟩
                                  clear g
                                  replace h : EV F f 172 z172 265 [some (rf 11 (0)), some (.inl (x2)), some (.inl (x3)), some (.inl (x4)), some (.inl (x5)), some (.inl (x6)), some (.inl (x7)), some (.inl (x8)), some (.inl (x9)), none] [] σ (w, σ') := h
                                  replace h := ei_p h rfl rfl rfl rfl
                                  obtain ⟨f, g, h⟩ := h
                                  clear g
                                  replace h : EV F f 172 z172 266 [some (rf 11 (0)), some (.inl (x2)), some (.inl (x3)), some (.inl (x4)), some (.inl (x5)), some (.inl (x6)), some (.inl (x7)), some (.inl (x8)), some (.inl (x9)), none] [.inl (x2)] σ (w, σ') := h
                                  replace h := ei_p h rfl rfl rfl rfl
                                  obtain ⟨f, g, h⟩ := h
                                  clear g
                                  replace h : EV F f 172 z172 268 [some (rf 11 (0)), some (.inl (x2)), some (.inl (x3)), some (.inl (x4)), some (.inl (x5)), some (.inl (x6)), some (.inl (x7)), some (.inl (x8)), some (.inl (x9)), none] [.inl (Int32.ofInt 16), .inl (x2)] σ (w, σ') := h
                                  replace h := ei_c h rfl rfl rfl
                                  rcases h with ⟨hp17, f, g, h⟩ | ⟨hp17, f, g, h⟩
                                  · skip
                                    replace hp17 : (x2).toInt ≠ (16 : Int) := ic_ne.mp hp17
                                    refine Or.inl ⟨hp17, ?_⟩
                                    clear g
                                    replace h : EV F f 172 z172 280 [some (rf 11 (0)), some (.inl (x2)), some (.inl (x3)), some (.inl (x4)), some (.inl (x5)), some (.inl (x6)), some (.inl (x7)), some (.inl (x8)), some (.inl (x9)), none] [] σ (w, σ') := h
                                    replace h := ei_p h rfl rfl rfl rfl
                                    obtain ⟨f, g, h⟩ := h
                                    clear g
                                    replace h : EV F f 172 z172 281 [some (rf 11 (0)), some (.inl (x2)), some (.inl (x3)), some (.inl (x4)), some (.inl (x5)), some (.inl (x6)), some (.inl (x7)), some (.inl (x8)), some (.inl (x9)), none] [.inl (x2)] σ (w, σ') := h
                                    replace h := ei_p h rfl rfl rfl rfl
                                    obtain ⟨f, g, h⟩ := h
                                    clear g
                                    replace h : EV F f 172 z172 283 [some (rf 11 (0)), some (.inl (x2)), some (.inl (x3)), some (.inl (x4)), some (.inl (x5)), some (.inl (x6)), some (.inl (x7)), some (.inl (x8)), some (.inl (x9)), none] [.inl (Int32.ofInt 17), .inl (x2)] σ (w, σ') := h
                                    replace h := ei_c h rfl rfl rfl
                                    rcases h with ⟨hp18, f, g, h⟩ | ⟨hp18, f, g, h⟩
                                    · skip
                                      replace hp18 : (x2).toInt ≠ (17 : Int) := ic_ne.mp hp18
                                      refine Or.inl ⟨hp18, ?_⟩
                                      clear g
                                      replace h : EV F f 172 z172 295 [some (rf 11 (0)), some (.inl (x2)), some (.inl (x3)), some (.inl (x4)), some (.inl (x5)), some (.inl (x6)), some (.inl (x7)), some (.inl (x8)), some (.inl (x9)), none] [] σ (w, σ') := h
                                      replace h := ei_p h rfl rfl rfl rfl
                                      obtain ⟨f, g, h⟩ := h
                                      clear g
                                      replace h : EV F f 172 z172 296 [some (rf 11 (0)), some (.inl (x2)), some (.inl (x3)), some (.inl (x4)), some (.inl (x5)), some (.inl (x6)), some (.inl (x7)), some (.inl (x8)), some (.inl (x9)), none] [.inl (x2)] σ (w, σ') := h
                                      replace h := ei_p h rfl rfl rfl rfl
                                      obtain ⟨f, g, h⟩ := h
                                      clear g
                                      replace h : EV F f 172 z172 298 [some (rf 11 (0)), some (.inl (x2)), some (.inl (x3)), some (.inl (x4)), some (.inl (x5)), some (.inl (x6)), some (.inl (x7)), some (.inl (x8)), some (.inl (x9)), none] [.inl (Int32.ofInt 18), .inl (x2)] σ (w, σ') := h
                                      replace h := ei_c h rfl rfl rfl
                                      rcases h with ⟨hp19, f, g, h⟩ | ⟨hp19, f, g, h⟩
                                      · skip
                                        replace hp19 : (x2).toInt ≠ (18 : Int) := ic_ne.mp hp19
                                        refine Or.inl ⟨hp19, ?_⟩
                                        clear g
                                        replace h : EV F f 172 z172 311 [some (rf 11 (0)), some (.inl (x2)), some (.inl (x3)), some (.inl (x4)), some (.inl (x5)), some (.inl (x6)), some (.inl (x7)), some (.inl (x8)), some (.inl (x9)), none] [] σ (w, σ') := h
                                        replace h := ei_p h rfl rfl rfl rfl
                                        obtain ⟨f, g, h⟩ := h
                                        clear g
                                        replace h : EV F f 172 z172 312 [some (rf 11 (0)), some (.inl (x2)), some (.inl (x3)), some (.inl (x4)), some (.inl (x5)), some (.inl (x6)), some (.inl (x7)), some (.inl (x8)), some (.inl (x9)), none] [.inl (x2)] σ (w, σ') := h
                                        replace h := ei_p h rfl rfl rfl rfl
                                        obtain ⟨f, g, h⟩ := h
                                        clear g
                                        replace h : EV F f 172 z172 314 [some (rf 11 (0)), some (.inl (x2)), some (.inl (x3)), some (.inl (x4)), some (.inl (x5)), some (.inl (x6)), some (.inl (x7)), some (.inl (x8)), some (.inl (x9)), none] [.inl (Int32.ofInt 19), .inl (x2)] σ (w, σ') := h
                                        replace h := ei_c h rfl rfl rfl
                                        rcases h with ⟨hp20, f, g, h⟩ | ⟨hp20, f, g, h⟩
                                        · skip
                                          replace hp20 : (x2).toInt ≠ (19 : Int) := ic_ne.mp hp20
                                          refine Or.inl ⟨hp20, ?_⟩
                                          clear g
                                          replace h : EV F f 172 z172 326 [some (rf 11 (0)), some (.inl (x2)), some (.inl (x3)), some (.inl (x4)), some (.inl (x5)), some (.inl (x6)), some (.inl (x7)), some (.inl (x8)), some (.inl (x9)), none] [] σ (w, σ') := h
                                          replace h := ei_p h rfl rfl rfl rfl
                                          obtain ⟨f, g, h⟩ := h
                                          clear g
                                          replace h : EV F f 172 z172 327 [some (rf 11 (0)), some (.inl (x2)), some (.inl (x3)), some (.inl (x4)), some (.inl (x5)), some (.inl (x6)), some (.inl (x7)), some (.inl (x8)), some (.inl (x9)), none] [.inl (x2)] σ (w, σ') := h
                                          replace h := ei_p h rfl rfl rfl rfl
                                          obtain ⟨f, g, h⟩ := h
                                          clear g
                                          replace h : EV F f 172 z172 329 [some (rf 11 (0)), some (.inl (x2)), some (.inl (x3)), some (.inl (x4)), some (.inl (x5)), some (.inl (x6)), some (.inl (x7)), some (.inl (x8)), some (.inl (x9)), none] [.inl (Int32.ofInt 20), .inl (x2)] σ (w, σ') := h
                                          replace h := ei_c h rfl rfl rfl
                                          rcases h with ⟨hp21, f, g, h⟩ | ⟨hp21, f, g, h⟩
                                          · skip
                                            replace hp21 : (x2).toInt ≠ (20 : Int) := ic_ne.mp hp21
                                            refine Or.inl ⟨hp21, ?_⟩
                                            clear g
                                            replace h : EV F f 172 z172 341 [some (rf 11 (0)), some (.inl (x2)), some (.inl (x3)), some (.inl (x4)), some (.inl (x5)), some (.inl (x6)), some (.inl (x7)), some (.inl (x8)), some (.inl (x9)), none] [] σ (w, σ') := h
                                            replace h := ei_p h rfl rfl rfl rfl
                                            obtain ⟨f, g, h⟩ := h
                                            clear g
                                            replace h : EV F f 172 z172 342 [some (rf 11 (0)), some (.inl (x2)), some (.inl (x3)), some (.inl (x4)), some (.inl (x5)), some (.inl (x6)), some (.inl (x7)), some (.inl (x8)), some (.inl (x9)), none] [.inl (x2)] σ (w, σ') := h
                                            replace h := ei_p h rfl rfl rfl rfl
                                            obtain ⟨f, g, h⟩ := h
                                            clear g
                                            replace h : EV F f 172 z172 344 [some (rf 11 (0)), some (.inl (x2)), some (.inl (x3)), some (.inl (x4)), some (.inl (x5)), some (.inl (x6)), some (.inl (x7)), some (.inl (x8)), some (.inl (x9)), none] [.inl (Int32.ofInt 21), .inl (x2)] σ (w, σ') := h
                                            replace h := ei_c h rfl rfl rfl
                                            rcases h with ⟨hp22, f, g, h⟩ | ⟨hp22, f, g, h⟩
                                            · skip
                                              replace hp22 : (x2).toInt ≠ (21 : Int) := ic_ne.mp hp22
                                              refine Or.inl ⟨hp22, ?_⟩
                                              clear g
                                              replace h : EV F f 172 z172 356 [some (rf 11 (0)), some (.inl (x2)), some (.inl (x3)), some (.inl (x4)), some (.inl (x5)), some (.inl (x6)), some (.inl (x7)), some (.inl (x8)), some (.inl (x9)), none] [] σ (w, σ') := h
                                              replace h := ei_p h rfl rfl rfl rfl
                                              obtain ⟨f, g, h⟩ := h
                                              clear g
                                              replace h : EV F f 172 z172 357 [some (rf 11 (0)), some (.inl (x2)), some (.inl (x3)), some (.inl (x4)), some (.inl (x5)), some (.inl (x6)), some (.inl (x7)), some (.inl (x8)), some (.inl (x9)), none] [.inl (x2)] σ (w, σ') := h
                                              replace h := ei_p h rfl rfl rfl rfl
                                              obtain ⟨f, g, h⟩ := h
                                              clear g
                                              replace h : EV F f 172 z172 359 [some (rf 11 (0)), some (.inl (x2)), some (.inl (x3)), some (.inl (x4)), some (.inl (x5)), some (.inl (x6)), some (.inl (x7)), some (.inl (x8)), some (.inl (x9)), none] [.inl (Int32.ofInt 22), .inl (x2)] σ (w, σ') := h
                                              replace h := ei_c h rfl rfl rfl
                                              rcases h with ⟨hp23, f, g, h⟩ | ⟨hp23, f, g, h⟩
                                              · skip
                                                replace hp23 : (x2).toInt ≠ (22 : Int) := ic_ne.mp hp23
                                                refine Or.inl ⟨hp23, ?_⟩
                                                clear g
                                                replace h : EV F f 172 z172 374 [some (rf 11 (0)), some (.inl (x2)), some (.inl (x3)), some (.inl (x4)), some (.inl (x5)), some (.inl (x6)), some (.inl (x7)), some (.inl (x8)), some (.inl (x9)), none] [] σ (w, σ') := h
                                                replace h := ei_p h rfl rfl rfl rfl
                                                obtain ⟨f, g, h⟩ := h
                                                clear g
                                                replace h : EV F f 172 z172 375 [some (rf 11 (0)), some (.inl (x2)), some (.inl (x3)), some (.inl (x4)), some (.inl (x5)), some (.inl (x6)), some (.inl (x7)), some (.inl (x8)), some (.inl (x9)), none] [.inl (x2)] σ (w, σ') := h
                                                replace h := ei_p h rfl rfl rfl rfl
                                                obtain ⟨f, g, h⟩ := h
                                                clear g
                                                replace h : EV F f 172 z172 377 [some (rf 11 (0)), some (.inl (x2)), some (.inl (x3)), some (.inl (x4)), some (.inl (x5)), some (.inl (x6)), some (.inl (x7)), some (.inl (x8)), some (.inl (x9)), none] [.inl (Int32.ofInt 23), .inl (x2)] σ (w, σ') := h
                                                replace h := ei_c h rfl rfl rfl
                                                rcases h with ⟨hp24, f, g, h⟩ | ⟨hp24, f, g, h⟩
                                                · skip
                                                  replace hp24 : (x2).toInt ≠ (23 : Int) := ic_ne.mp hp24
                                                  refine Or.inl ⟨hp24, ?_⟩
                                                  clear g
                                                  replace h : EV F f 172 z172 390 [some (rf 11 (0)), some (.inl (x2)), some (.inl (x3)), some (.inl (x4)), some (.inl (x5)), some (.inl (x6)), some (.inl (x7)), some (.inl (x8)), some (.inl (x9)), none] [] σ (w, σ') := h
                                                  replace h := ei_p h rfl rfl rfl rfl
                                                  obtain ⟨f, g, h⟩ := h
                                                  clear g
                                                  replace h : EV F f 172 z172 391 [some (rf 11 (0)), some (.inl (x2)), some (.inl (x3)), some (.inl (x4)), some (.inl (x5)), some (.inl (x6)), some (.inl (x7)), some (.inl (x8)), some (.inl (x9)), none] [rf 11 (0)] σ (w, σ') := h
                                                  replace h := ei_p h rfl rfl rfl rfl
                                                  obtain ⟨f, g, h⟩ := h
                                                  clear g
                                                  replace h : EV F f 172 z172 392 [some (rf 11 (0)), some (.inl (x2)), some (.inl (x3)), some (.inl (x4)), some (.inl (x5)), some (.inl (x6)), some (.inl (x7)), some (.inl (x8)), some (.inl (x9)), none] [.inl (x3), rf 11 (0)] σ (w, σ') := h
                                                  replace h := bh_I (ei_vh (as := [.inl (x3)]) h rfl rfl hb172_0 hb172) z140_at (Or.inl rfl)
                                                  rcases h with ⟨v25, σ26, r27, f, g, h⟩ | ⟨b, σ26, r27, H, i, rr, e1, e2, e3, f, g, h⟩
                                                  · skip
                                                    clear g
                                                    have p28 := x140 hs.1 r27
                                                    have hsσ26 : HL σ26 := HL_r2 rfl r27 rfl hs
                                                    refine Or.inl ⟨v25, σ26, gF_r r27 rfl hs, p28, ?_⟩
                                                    replace h : EV F f 172 z172 395 [some (rf 11 (0)), some (.inl (x2)), some (.inl (x3)), some (.inl (x4)), some (.inl (x5)), some (.inl (x6)), some (.inl (x7)), some (.inl (x8)), some (.inl (x9)), none] [.inl (v25)] σ26 (w, σ') := h
                                                    replace h := ei_p h rfl rfl rfl rfl
                                                    obtain ⟨f, g, h⟩ := h
                                                    clear g
                                                    replace h : EV F f 172 z172 396 [some (rf 11 (0)), some (.inl (x2)), some (.inl (x3)), some (.inl (x4)), some (.inl (x5)), some (.inl (x6)), some (.inl (x7)), some (.inl (x8)), some (.inl (x9)), none] [.inr (.inl ((v25).toInt64))] σ26 (w, σ') := h
                                                    have e := ei_lret h rfl
                                                    cases e
                                                    exact ⟨rfl, rfl, hsσ26⟩
                                                  · skip
                                                    have p28 := x140 hs.1 r27
                                                    have hsσ26 : HL σ26 := HL_r2 rfl r27 rfl hs
                                                    have e := hx172 (Nat.lt_of_lt_of_le (by decide : 392 < 396) (Nat.le_refl _)) e1 e2 e3 h
                                                    cases e
                                                    exact Or.inr ⟨b, gF_r r27 rfl hs, p28, rfl, hsσ26⟩
                                                · skip
                                                  replace hp24 : ¬ ((x2).toInt ≠ (23 : Int)) := (not_congr ic_ne).mp hp24
                                                  refine Or.inr ⟨hp24, ?_⟩
                                                  clear g
                                                  replace h : EV F f 172 z172 380 [some (rf 11 (0)), some (.inl (x2)), some (.inl (x3)), some (.inl (x4)), some (.inl (x5)), some (.inl (x6)), some (.inl (x7)), some (.inl (x8)), some (.inl (x9)), none] [] σ (w, σ') := h
                                                  replace h := ei_p h rfl rfl rfl rfl
                                                  obtain ⟨f, g, h⟩ := h
                                                  clear g
                                                  replace h : EV F f 172 z172 381 [some (rf 11 (0)), some (.inl (x2)), some (.inl (x3)), some (.inl (x4)), some (.inl (x5)), some (.inl (x6)), some (.inl (x7)), some (.inl (x8)), some (.inl (x9)), none] [rf 11 (0)] σ (w, σ') := h
                                                  replace h := ei_p h rfl rfl rfl rfl
                                                  obtain ⟨f, g, h⟩ := h
                                                  clear g
                                                  replace h : EV F f 172 z172 382 [some (rf 11 (0)), some (.inl (x2)), some (.inl (x3)), some (.inl (x4)), some (.inl (x5)), some (.inl (x6)), some (.inl (x7)), some (.inl (x8)), some (.inl (x9)), none] [.inl (x3), rf 11 (0)] σ (w, σ') := h
                                                  replace h := ei_p h rfl rfl rfl rfl
                                                  obtain ⟨f, g, h⟩ := h
                                                  clear g
                                                  replace h : EV F f 172 z172 383 [some (rf 11 (0)), some (.inl (x2)), some (.inl (x3)), some (.inl (x4)), some (.inl (x5)), some (.inl (x6)), some (.inl (x7)), some (.inl (x8)), some (.inl (x9)), none] [.inl (x4), .inl (x3), rf 11 (0)] σ (w, σ') := h
                                                  replace h := bh_I (ei_vh (as := [.inl (x4), .inl (x3)]) h rfl rfl hb172_0 hb172) z132_at (Or.inl rfl)
                                                  rcases h with ⟨v29, σ30, r31, f, g, h⟩ | ⟨b, σ30, r31, H, i, rr, e1, e2, e3, f, g, h⟩
                                                  · skip
                                                    clear g
                                                    have p32 := x132 hs.1 r31
                                                    have hsσ30 : HL σ30 := HL_r2 rfl r31 rfl hs
                                                    refine Or.inl ⟨v29, σ30, gF_r r31 rfl hs, p32, ?_⟩
                                                    replace h : EV F f 172 z172 386 [some (rf 11 (0)), some (.inl (x2)), some (.inl (x3)), some (.inl (x4)), some (.inl (x5)), some (.inl (x6)), some (.inl (x7)), some (.inl (x8)), some (.inl (x9)), none] [.inl (v29)] σ30 (w, σ') := h
                                                    replace h := ei_p h rfl rfl rfl rfl
                                                    obtain ⟨f, g, h⟩ := h
                                                    clear g
                                                    replace h : EV F f 172 z172 387 [some (rf 11 (0)), some (.inl (x2)), some (.inl (x3)), some (.inl (x4)), some (.inl (x5)), some (.inl (x6)), some (.inl (x7)), some (.inl (x8)), some (.inl (x9)), none] [.inr (.inl ((v29).toInt64))] σ30 (w, σ') := h
                                                    replace h := ei_p h rfl rfl rfl rfl
                                                    obtain ⟨f, g, h⟩ := h
                                                    clear g
                                                    replace h : EV F f 172 z172 396 [some (rf 11 (0)), some (.inl (x2)), some (.inl (x3)), some (.inl (x4)), some (.inl (x5)), some (.inl (x6)), some (.inl (x7)), some (.inl (x8)), some (.inl (x9)), none] [.inr (.inl ((v29).toInt64))] σ30 (w, σ') := h
                                                    have e := ei_lret h rfl
                                                    cases e
                                                    exact ⟨rfl, rfl, hsσ30⟩
                                                  · skip
                                                    have p32 := x132 hs.1 r31
                                                    have hsσ30 : HL σ30 := HL_r2 rfl r31 rfl hs
                                                    have e := hx172 (Nat.lt_of_lt_of_le (by decide : 383 < 396) (Nat.le_refl _)) e1 e2 e3 h
                                                    cases e
                                                    exact Or.inr ⟨b, gF_r r31 rfl hs, p32, rfl, hsσ30⟩
                                              · skip
                                                replace hp23 : ¬ ((x2).toInt ≠ (22 : Int)) := (not_congr ic_ne).mp hp23
                                                refine Or.inr ⟨hp23, ?_⟩
                                                clear g
                                                replace h : EV F f 172 z172 362 [some (rf 11 (0)), some (.inl (x2)), some (.inl (x3)), some (.inl (x4)), some (.inl (x5)), some (.inl (x6)), some (.inl (x7)), some (.inl (x8)), some (.inl (x9)), none] [] σ (w, σ') := h
                                                replace h := ei_p h rfl rfl rfl rfl
                                                obtain ⟨f, g, h⟩ := h
                                                clear g
                                                replace h : EV F f 172 z172 363 [some (rf 11 (0)), some (.inl (x2)), some (.inl (x3)), some (.inl (x4)), some (.inl (x5)), some (.inl (x6)), some (.inl (x7)), some (.inl (x8)), some (.inl (x9)), none] [rf 11 (0)] σ (w, σ') := h
                                                replace h := ei_p h rfl rfl rfl rfl
                                                obtain ⟨f, g, h⟩ := h
                                                clear g
                                                replace h : EV F f 172 z172 364 [some (rf 11 (0)), some (.inl (x2)), some (.inl (x3)), some (.inl (x4)), some (.inl (x5)), some (.inl (x6)), some (.inl (x7)), some (.inl (x8)), some (.inl (x9)), none] [.inl (x3), rf 11 (0)] σ (w, σ') := h
                                                replace h := ei_p h rfl rfl rfl rfl
                                                obtain ⟨f, g, h⟩ := h
                                                clear g
                                                replace h : EV F f 172 z172 365 [some (rf 11 (0)), some (.inl (x2)), some (.inl (x3)), some (.inl (x4)), some (.inl (x5)), some (.inl (x6)), some (.inl (x7)), some (.inl (x8)), some (.inl (x9)), none] [.inl (x4), .inl (x3), rf 11 (0)] σ (w, σ') := h
                                                replace h := ei_p h rfl rfl rfl rfl
                                                obtain ⟨f, g, h⟩ := h
                                                clear g
                                                replace h : EV F f 172 z172 367 [some (rf 11 (0)), some (.inl (x2)), some (.inl (x3)), some (.inl (x4)), some (.inl (x5)), some (.inl (x6)), some (.inl (x7)), some (.inl (x8)), some (.inl (x9)), none] [.inl (x5), .inl (x4), .inl (x3), rf 11 (0)] σ (w, σ') := h
                                                replace h := bh_I (ei_vh (as := [.inl (x5), .inl (x4), .inl (x3)]) h rfl rfl hb172_0 hb172) z133_at (Or.inl rfl)
                                                rcases h with ⟨v33, σ34, r35, f, g, h⟩ | ⟨b, σ34, r35, H, i, rr, e1, e2, e3, f, g, h⟩
                                                · skip
                                                  clear g
                                                  have p36 := x133 hs.1 r35
                                                  have hsσ34 : HL σ34 := HL_r2 rfl r35 rfl hs
                                                  refine Or.inl ⟨v33, σ34, gF_r r35 rfl hs, p36, ?_⟩
                                                  replace h : EV F f 172 z172 370 [some (rf 11 (0)), some (.inl (x2)), some (.inl (x3)), some (.inl (x4)), some (.inl (x5)), some (.inl (x6)), some (.inl (x7)), some (.inl (x8)), some (.inl (x9)), none] [.inl (v33)] σ34 (w, σ') := h
                                                  replace h := ei_p h rfl rfl rfl rfl
                                                  obtain ⟨f, g, h⟩ := h
                                                  clear g
                                                  replace h : EV F f 172 z172 371 [some (rf 11 (0)), some (.inl (x2)), some (.inl (x3)), some (.inl (x4)), some (.inl (x5)), some (.inl (x6)), some (.inl (x7)), some (.inl (x8)), some (.inl (x9)), none] [.inr (.inl ((v33).toInt64))] σ34 (w, σ') := h
                                                  replace h := ei_p h rfl rfl rfl rfl
                                                  obtain ⟨f, g, h⟩ := h
                                                  clear g
                                                  replace h : EV F f 172 z172 396 [some (rf 11 (0)), some (.inl (x2)), some (.inl (x3)), some (.inl (x4)), some (.inl (x5)), some (.inl (x6)), some (.inl (x7)), some (.inl (x8)), some (.inl (x9)), none] [.inr (.inl ((v33).toInt64))] σ34 (w, σ') := h
                                                  have e := ei_lret h rfl
                                                  cases e
                                                  exact ⟨rfl, rfl, hsσ34⟩
                                                · skip
                                                  have p36 := x133 hs.1 r35
                                                  have hsσ34 : HL σ34 := HL_r2 rfl r35 rfl hs
                                                  have e := hx172 (Nat.lt_of_lt_of_le (by decide : 367 < 396) (Nat.le_refl _)) e1 e2 e3 h
                                                  cases e
                                                  exact Or.inr ⟨b, gF_r r35 rfl hs, p36, rfl, hsσ34⟩
                                            · skip
                                              replace hp22 : ¬ ((x2).toInt ≠ (21 : Int)) := (not_congr ic_ne).mp hp22
                                              refine Or.inr ⟨hp22, ?_⟩
                                              clear g
                                              replace h : EV F f 172 z172 347 [some (rf 11 (0)), some (.inl (x2)), some (.inl (x3)), some (.inl (x4)), some (.inl (x5)), some (.inl (x6)), some (.inl (x7)), some (.inl (x8)), some (.inl (x9)), none] [] σ (w, σ') := h
                                              replace h := ei_p h rfl rfl rfl rfl
                                              obtain ⟨f, g, h⟩ := h
                                              clear g
                                              replace h : EV F f 172 z172 348 [some (rf 11 (0)), some (.inl (x2)), some (.inl (x3)), some (.inl (x4)), some (.inl (x5)), some (.inl (x6)), some (.inl (x7)), some (.inl (x8)), some (.inl (x9)), none] [rf 11 (0)] σ (w, σ') := h
                                              replace h := ei_p h rfl rfl rfl rfl
                                              obtain ⟨f, g, h⟩ := h
                                              clear g
                                              replace h : EV F f 172 z172 349 [some (rf 11 (0)), some (.inl (x2)), some (.inl (x3)), some (.inl (x4)), some (.inl (x5)), some (.inl (x6)), some (.inl (x7)), some (.inl (x8)), some (.inl (x9)), none] [.inl (x3), rf 11 (0)] σ (w, σ') := h
                                              replace h := bh_I (ei_vh (as := [.inl (x3)]) h rfl rfl hb172_0 hb172) z149_at (Or.inl rfl)
                                              rcases h with ⟨v37, σ38, r39, f, g, h⟩ | ⟨b, σ38, r39, H, i, rr, e1, e2, e3, f, g, h⟩
                                              · skip
                                                clear g
                                                have p40 := x149 hs.1 r39
                                                have hsσ38 : HL σ38 := HL_r2 rfl r39 rfl hs
                                                refine Or.inl ⟨v37, σ38, gF_r r39 rfl hs, p40, ?_⟩
                                                replace h : EV F f 172 z172 352 [some (rf 11 (0)), some (.inl (x2)), some (.inl (x3)), some (.inl (x4)), some (.inl (x5)), some (.inl (x6)), some (.inl (x7)), some (.inl (x8)), some (.inl (x9)), none] [.inl (v37)] σ38 (w, σ') := h
                                                replace h := ei_p h rfl rfl rfl rfl
                                                obtain ⟨f, g, h⟩ := h
                                                clear g
                                                replace h : EV F f 172 z172 353 [some (rf 11 (0)), some (.inl (x2)), some (.inl (x3)), some (.inl (x4)), some (.inl (x5)), some (.inl (x6)), some (.inl (x7)), some (.inl (x8)), some (.inl (x9)), none] [.inr (.inl ((v37).toInt64))] σ38 (w, σ') := h
                                                replace h := ei_p h rfl rfl rfl rfl
                                                obtain ⟨f, g, h⟩ := h
                                                clear g
                                                replace h : EV F f 172 z172 396 [some (rf 11 (0)), some (.inl (x2)), some (.inl (x3)), some (.inl (x4)), some (.inl (x5)), some (.inl (x6)), some (.inl (x7)), some (.inl (x8)), some (.inl (x9)), none] [.inr (.inl ((v37).toInt64))] σ38 (w, σ') := h
                                                have e := ei_lret h rfl
                                                cases e
                                                exact ⟨rfl, rfl, hsσ38⟩
                                              · skip
                                                have p40 := x149 hs.1 r39
                                                have hsσ38 : HL σ38 := HL_r2 rfl r39 rfl hs
                                                have e := hx172 (Nat.lt_of_lt_of_le (by decide : 349 < 396) (Nat.le_refl _)) e1 e2 e3 h
                                                cases e
                                                exact Or.inr ⟨b, gF_r r39 rfl hs, p40, rfl, hsσ38⟩
                                          · skip
                                            replace hp21 : ¬ ((x2).toInt ≠ (20 : Int)) := (not_congr ic_ne).mp hp21
                                            refine Or.inr ⟨hp21, ?_⟩
                                            clear g
                                            replace h : EV F f 172 z172 332 [some (rf 11 (0)), some (.inl (x2)), some (.inl (x3)), some (.inl (x4)), some (.inl (x5)), some (.inl (x6)), some (.inl (x7)), some (.inl (x8)), some (.inl (x9)), none] [] σ (w, σ') := h
                                            replace h := ei_p h rfl rfl rfl rfl
                                            obtain ⟨f, g, h⟩ := h
                                            clear g
                                            replace h : EV F f 172 z172 333 [some (rf 11 (0)), some (.inl (x2)), some (.inl (x3)), some (.inl (x4)), some (.inl (x5)), some (.inl (x6)), some (.inl (x7)), some (.inl (x8)), some (.inl (x9)), none] [rf 11 (0)] σ (w, σ') := h
                                            replace h := ei_p h rfl rfl rfl rfl
                                            obtain ⟨f, g, h⟩ := h
                                            clear g
                                            replace h : EV F f 172 z172 334 [some (rf 11 (0)), some (.inl (x2)), some (.inl (x3)), some (.inl (x4)), some (.inl (x5)), some (.inl (x6)), some (.inl (x7)), some (.inl (x8)), some (.inl (x9)), none] [.inl (x3), rf 11 (0)] σ (w, σ') := h
                                            replace h := ei_p h rfl rfl rfl rfl
                                            obtain ⟨f, g, h⟩ := h
                                            clear g
                                            replace h : EV F f 172 z172 335 [some (rf 11 (0)), some (.inl (x2)), some (.inl (x3)), some (.inl (x4)), some (.inl (x5)), some (.inl (x6)), some (.inl (x7)), some (.inl (x8)), some (.inl (x9)), none] [.inl (x4), .inl (x3), rf 11 (0)] σ (w, σ') := h
                                            replace h := bh_L (ei_vh (as := [.inl (x4), .inl (x3)]) h rfl rfl hb172_0 hb172) z145_at rfl
                                            rcases h with ⟨v41, σ42, r43, f, g, h⟩ | ⟨b, σ42, r43, H, i, rr, e1, e2, e3, f, g, h⟩
                                            · skip
                                              clear g
                                              have p44 := x145 hs.1 r43
                                              have hsσ42 : HL σ42 := HL_r2 rfl r43 rfl hs
                                              refine Or.inl ⟨v41, σ42, gF_r r43 rfl hs, p44, ?_⟩
                                              replace h : EV F f 172 z172 338 [some (rf 11 (0)), some (.inl (x2)), some (.inl (x3)), some (.inl (x4)), some (.inl (x5)), some (.inl (x6)), some (.inl (x7)), some (.inl (x8)), some (.inl (x9)), none] [.inr (.inl (v41))] σ42 (w, σ') := h
                                              replace h := ei_p h rfl rfl rfl rfl
                                              obtain ⟨f, g, h⟩ := h
                                              clear g
                                              replace h : EV F f 172 z172 396 [some (rf 11 (0)), some (.inl (x2)), some (.inl (x3)), some (.inl (x4)), some (.inl (x5)), some (.inl (x6)), some (.inl (x7)), some (.inl (x8)), some (.inl (x9)), none] [.inr (.inl (v41))] σ42 (w, σ') := h
                                              have e := ei_lret h rfl
                                              cases e
                                              exact ⟨rfl, rfl, hsσ42⟩
                                            · skip
                                              have p44 := x145 hs.1 r43
                                              have hsσ42 : HL σ42 := HL_r2 rfl r43 rfl hs
                                              have e := hx172 (Nat.lt_of_lt_of_le (by decide : 335 < 396) (Nat.le_refl _)) e1 e2 e3 h
                                              cases e
                                              exact Or.inr ⟨b, gF_r r43 rfl hs, p44, rfl, hsσ42⟩
                                        · skip
                                          replace hp20 : ¬ ((x2).toInt ≠ (19 : Int)) := (not_congr ic_ne).mp hp20
                                          refine Or.inr ⟨hp20, ?_⟩
                                          clear g
                                          replace h : EV F f 172 z172 317 [some (rf 11 (0)), some (.inl (x2)), some (.inl (x3)), some (.inl (x4)), some (.inl (x5)), some (.inl (x6)), some (.inl (x7)), some (.inl (x8)), some (.inl (x9)), none] [] σ (w, σ') := h
                                          replace h := ei_p h rfl rfl rfl rfl
                                          obtain ⟨f, g, h⟩ := h
                                          clear g
                                          replace h : EV F f 172 z172 318 [some (rf 11 (0)), some (.inl (x2)), some (.inl (x3)), some (.inl (x4)), some (.inl (x5)), some (.inl (x6)), some (.inl (x7)), some (.inl (x8)), some (.inl (x9)), none] [rf 11 (0)] σ (w, σ') := h
                                          replace h := ei_p h rfl rfl rfl rfl
                                          obtain ⟨f, g, h⟩ := h
                                          clear g
                                          replace h : EV F f 172 z172 319 [some (rf 11 (0)), some (.inl (x2)), some (.inl (x3)), some (.inl (x4)), some (.inl (x5)), some (.inl (x6)), some (.inl (x7)), some (.inl (x8)), some (.inl (x9)), none] [.inl (x3), rf 11 (0)] σ (w, σ') := h
                                          replace h := ei_p h rfl rfl rfl rfl
                                          obtain ⟨f, g, h⟩ := h
                                          clear g
                                          replace h : EV F f 172 z172 320 [some (rf 11 (0)), some (.inl (x2)), some (.inl (x3)), some (.inl (x4)), some (.inl (x5)), some (.inl (x6)), some (.inl (x7)), some (.inl (x8)), some (.inl (x9)), none] [.inl (x4), .inl (x3), rf 11 (0)] σ (w, σ') := h
                                          replace h := bh_L (ei_vh (as := [.inl (x4), .inl (x3)]) h rfl rfl hb172_0 hb172) z144_at rfl
                                          rcases h with ⟨v45, σ46, r47, f, g, h⟩ | ⟨b, σ46, r47, H, i, rr, e1, e2, e3, f, g, h⟩
                                          · skip
                                            clear g
                                            have p48 := x144 hs.1 r47
                                            have hsσ46 : HL σ46 := HL_r2 rfl r47 rfl hs
                                            refine Or.inl ⟨v45, σ46, gF_r r47 rfl hs, p48, ?_⟩
                                            replace h : EV F f 172 z172 323 [some (rf 11 (0)), some (.inl (x2)), some (.inl (x3)), some (.inl (x4)), some (.inl (x5)), some (.inl (x6)), some (.inl (x7)), some (.inl (x8)), some (.inl (x9)), none] [.inr (.inl (v45))] σ46 (w, σ') := h
                                            replace h := ei_p h rfl rfl rfl rfl
                                            obtain ⟨f, g, h⟩ := h
                                            clear g
                                            replace h : EV F f 172 z172 396 [some (rf 11 (0)), some (.inl (x2)), some (.inl (x3)), some (.inl (x4)), some (.inl (x5)), some (.inl (x6)), some (.inl (x7)), some (.inl (x8)), some (.inl (x9)), none] [.inr (.inl (v45))] σ46 (w, σ') := h
                                            have e := ei_lret h rfl
                                            cases e
                                            exact ⟨rfl, rfl, hsσ46⟩
                                          · skip
                                            have p48 := x144 hs.1 r47
                                            have hsσ46 : HL σ46 := HL_r2 rfl r47 rfl hs
                                            have e := hx172 (Nat.lt_of_lt_of_le (by decide : 320 < 396) (Nat.le_refl _)) e1 e2 e3 h
                                            cases e
                                            exact Or.inr ⟨b, gF_r r47 rfl hs, p48, rfl, hsσ46⟩
                                      · skip
                                        replace hp19 : ¬ ((x2).toInt ≠ (18 : Int)) := (not_congr ic_ne).mp hp19
                                        refine Or.inr ⟨hp19, ?_⟩
                                        clear g
                                        replace h : EV F f 172 z172 301 [some (rf 11 (0)), some (.inl (x2)), some (.inl (x3)), some (.inl (x4)), some (.inl (x5)), some (.inl (x6)), some (.inl (x7)), some (.inl (x8)), some (.inl (x9)), none] [] σ (w, σ') := h
                                        replace h := ei_p h rfl rfl rfl rfl
                                        obtain ⟨f, g, h⟩ := h
                                        clear g
                                        replace h : EV F f 172 z172 302 [some (rf 11 (0)), some (.inl (x2)), some (.inl (x3)), some (.inl (x4)), some (.inl (x5)), some (.inl (x6)), some (.inl (x7)), some (.inl (x8)), some (.inl (x9)), none] [rf 11 (0)] σ (w, σ') := h
                                        replace h := ei_p h rfl rfl rfl rfl
                                        obtain ⟨f, g, h⟩ := h
                                        clear g
                                        replace h : EV F f 172 z172 303 [some (rf 11 (0)), some (.inl (x2)), some (.inl (x3)), some (.inl (x4)), some (.inl (x5)), some (.inl (x6)), some (.inl (x7)), some (.inl (x8)), some (.inl (x9)), none] [.inl (x3), rf 11 (0)] σ (w, σ') := h
                                        replace h := ei_p h rfl rfl rfl rfl
                                        obtain ⟨f, g, h⟩ := h
                                        clear g
                                        replace h : EV F f 172 z172 304 [some (rf 11 (0)), some (.inl (x2)), some (.inl (x3)), some (.inl (x4)), some (.inl (x5)), some (.inl (x6)), some (.inl (x7)), some (.inl (x8)), some (.inl (x9)), none] [.inl (x4), .inl (x3), rf 11 (0)] σ (w, σ') := h
                                        replace h := bh_I (ei_vh (as := [.inl (x4), .inl (x3)]) h rfl rfl hb172_0 hb172) z142_at (Or.inl rfl)
                                        rcases h with ⟨v49, σ50, r51, f, g, h⟩ | ⟨b, σ50, r51, H, i, rr, e1, e2, e3, f, g, h⟩
                                        · skip
                                          clear g
                                          have p52 := x142 hs.1 r51
                                          have hsσ50 : HL σ50 := HL_r2 rfl r51 rfl hs
                                          refine Or.inl ⟨v49, σ50, gF_r r51 rfl hs, p52, ?_⟩
                                          replace h : EV F f 172 z172 307 [some (rf 11 (0)), some (.inl (x2)), some (.inl (x3)), some (.inl (x4)), some (.inl (x5)), some (.inl (x6)), some (.inl (x7)), some (.inl (x8)), some (.inl (x9)), none] [.inl (v49)] σ50 (w, σ') := h
                                          replace h := ei_p h rfl rfl rfl rfl
                                          obtain ⟨f, g, h⟩ := h
                                          clear g
                                          replace h : EV F f 172 z172 308 [some (rf 11 (0)), some (.inl (x2)), some (.inl (x3)), some (.inl (x4)), some (.inl (x5)), some (.inl (x6)), some (.inl (x7)), some (.inl (x8)), some (.inl (x9)), none] [.inr (.inl ((v49).toInt64))] σ50 (w, σ') := h
                                          replace h := ei_p h rfl rfl rfl rfl
                                          obtain ⟨f, g, h⟩ := h
                                          clear g
                                          replace h : EV F f 172 z172 396 [some (rf 11 (0)), some (.inl (x2)), some (.inl (x3)), some (.inl (x4)), some (.inl (x5)), some (.inl (x6)), some (.inl (x7)), some (.inl (x8)), some (.inl (x9)), none] [.inr (.inl ((v49).toInt64))] σ50 (w, σ') := h
                                          have e := ei_lret h rfl
                                          cases e
                                          exact ⟨rfl, rfl, hsσ50⟩
                                        · skip
                                          have p52 := x142 hs.1 r51
                                          have hsσ50 : HL σ50 := HL_r2 rfl r51 rfl hs
                                          have e := hx172 (Nat.lt_of_lt_of_le (by decide : 304 < 396) (Nat.le_refl _)) e1 e2 e3 h
                                          cases e
                                          exact Or.inr ⟨b, gF_r r51 rfl hs, p52, rfl, hsσ50⟩
                                    · skip
                                      replace hp18 : ¬ ((x2).toInt ≠ (17 : Int)) := (not_congr ic_ne).mp hp18
                                      refine Or.inr ⟨hp18, ?_⟩
                                      clear g
                                      replace h : EV F f 172 z172 286 [some (rf 11 (0)), some (.inl (x2)), some (.inl (x3)), some (.inl (x4)), some (.inl (x5)), some (.inl (x6)), some (.inl (x7)), some (.inl (x8)), some (.inl (x9)), none] [] σ (w, σ') := h
                                      replace h := ei_p h rfl rfl rfl rfl
                                      obtain ⟨f, g, h⟩ := h
                                      clear g
                                      replace h : EV F f 172 z172 287 [some (rf 11 (0)), some (.inl (x2)), some (.inl (x3)), some (.inl (x4)), some (.inl (x5)), some (.inl (x6)), some (.inl (x7)), some (.inl (x8)), some (.inl (x9)), none] [rf 11 (0)] σ (w, σ') := h
                                      replace h := ei_p h rfl rfl rfl rfl
                                      obtain ⟨f, g, h⟩ := h
                                      clear g
                                      replace h : EV F f 172 z172 288 [some (rf 11 (0)), some (.inl (x2)), some (.inl (x3)), some (.inl (x4)), some (.inl (x5)), some (.inl (x6)), some (.inl (x7)), some (.inl (x8)), some (.inl (x9)), none] [.inl (x3), rf 11 (0)] σ (w, σ') := h
                                      replace h := bh_I (ei_vh (as := [.inl (x3)]) h rfl rfl hb172_0 hb172) z131_at (Or.inl rfl)
                                      rcases h with ⟨v53, σ54, r55, f, g, h⟩ | ⟨b, σ54, r55, H, i, rr, e1, e2, e3, f, g, h⟩
                                      · skip
                                        clear g
                                        have p56 := x131 hs.1 r55
                                        have hsσ54 : HL σ54 := HL_r2 rfl r55 rfl hs
                                        refine Or.inl ⟨v53, σ54, gF_r r55 rfl hs, p56, ?_⟩
                                        replace h : EV F f 172 z172 291 [some (rf 11 (0)), some (.inl (x2)), some (.inl (x3)), some (.inl (x4)), some (.inl (x5)), some (.inl (x6)), some (.inl (x7)), some (.inl (x8)), some (.inl (x9)), none] [.inl (v53)] σ54 (w, σ') := h
                                        replace h := ei_p h rfl rfl rfl rfl
                                        obtain ⟨f, g, h⟩ := h
                                        clear g
                                        replace h : EV F f 172 z172 292 [some (rf 11 (0)), some (.inl (x2)), some (.inl (x3)), some (.inl (x4)), some (.inl (x5)), some (.inl (x6)), some (.inl (x7)), some (.inl (x8)), some (.inl (x9)), none] [.inr (.inl ((v53).toInt64))] σ54 (w, σ') := h
                                        replace h := ei_p h rfl rfl rfl rfl
                                        obtain ⟨f, g, h⟩ := h
                                        clear g
                                        replace h : EV F f 172 z172 396 [some (rf 11 (0)), some (.inl (x2)), some (.inl (x3)), some (.inl (x4)), some (.inl (x5)), some (.inl (x6)), some (.inl (x7)), some (.inl (x8)), some (.inl (x9)), none] [.inr (.inl ((v53).toInt64))] σ54 (w, σ') := h
                                        have e := ei_lret h rfl
                                        cases e
                                        exact ⟨rfl, rfl, hsσ54⟩
                                      · skip
                                        have p56 := x131 hs.1 r55
                                        have hsσ54 : HL σ54 := HL_r2 rfl r55 rfl hs
                                        have e := hx172 (Nat.lt_of_lt_of_le (by decide : 288 < 396) (Nat.le_refl _)) e1 e2 e3 h
                                        cases e
                                        exact Or.inr ⟨b, gF_r r55 rfl hs, p56, rfl, hsσ54⟩
                                  · skip
                                    replace hp17 : ¬ ((x2).toInt ≠ (16 : Int)) := (not_congr ic_ne).mp hp17
                                    refine Or.inr ⟨hp17, ?_⟩
                                    clear g
                                    replace h : EV F f 172 z172 271 [some (rf 11 (0)), some (.inl (x2)), some (.inl (x3)), some (.inl (x4)), some (.inl (x5)), some (.inl (x6)), some (.inl (x7)), some (.inl (x8)), some (.inl (x9)), none] [] σ (w, σ') := h
                                    replace h := ei_p h rfl rfl rfl rfl
                                    obtain ⟨f, g, h⟩ := h
                                    clear g
                                    replace h : EV F f 172 z172 272 [some (rf 11 (0)), some (.inl (x2)), some (.inl (x3)), some (.inl (x4)), some (.inl (x5)), some (.inl (x6)), some (.inl (x7)), some (.inl (x8)), some (.inl (x9)), none] [rf 11 (0)] σ (w, σ') := h
                                    replace h := ei_p h rfl rfl rfl rfl
                                    obtain ⟨f, g, h⟩ := h
                                    clear g
                                    replace h : EV F f 172 z172 273 [some (rf 11 (0)), some (.inl (x2)), some (.inl (x3)), some (.inl (x4)), some (.inl (x5)), some (.inl (x6)), some (.inl (x7)), some (.inl (x8)), some (.inl (x9)), none] [.inl (x3), rf 11 (0)] σ (w, σ') := h
                                    replace h := bh_I (ei_vh (as := [.inl (x3)]) h rfl rfl hb172_0 hb172) z155_at (Or.inl rfl)
                                    rcases h with ⟨v57, σ58, r59, f, g, h⟩ | ⟨b, σ58, r59, H, i, rr, e1, e2, e3, f, g, h⟩
                                    · skip
                                      clear g
                                      have p60 := x155 hs.1 r59
                                      have hsσ58 : HL σ58 := HL_r2 rfl r59 rfl hs
                                      refine Or.inl ⟨v57, σ58, gF_r r59 rfl hs, p60, ?_⟩
                                      replace h : EV F f 172 z172 276 [some (rf 11 (0)), some (.inl (x2)), some (.inl (x3)), some (.inl (x4)), some (.inl (x5)), some (.inl (x6)), some (.inl (x7)), some (.inl (x8)), some (.inl (x9)), none] [.inl (v57)] σ58 (w, σ') := h
                                      replace h := ei_p h rfl rfl rfl rfl
                                      obtain ⟨f, g, h⟩ := h
                                      clear g
                                      replace h : EV F f 172 z172 277 [some (rf 11 (0)), some (.inl (x2)), some (.inl (x3)), some (.inl (x4)), some (.inl (x5)), some (.inl (x6)), some (.inl (x7)), some (.inl (x8)), some (.inl (x9)), none] [.inr (.inl ((v57).toInt64))] σ58 (w, σ') := h
                                      replace h := ei_p h rfl rfl rfl rfl
                                      obtain ⟨f, g, h⟩ := h
                                      clear g
                                      replace h : EV F f 172 z172 396 [some (rf 11 (0)), some (.inl (x2)), some (.inl (x3)), some (.inl (x4)), some (.inl (x5)), some (.inl (x6)), some (.inl (x7)), some (.inl (x8)), some (.inl (x9)), none] [.inr (.inl ((v57).toInt64))] σ58 (w, σ') := h
                                      have e := ei_lret h rfl
                                      cases e
                                      exact ⟨rfl, rfl, hsσ58⟩
                                    · skip
                                      have p60 := x155 hs.1 r59
                                      have hsσ58 : HL σ58 := HL_r2 rfl r59 rfl hs
                                      have e := hx172 (Nat.lt_of_lt_of_le (by decide : 273 < 396) (Nat.le_refl _)) e1 e2 e3 h
                                      cases e
                                      exact Or.inr ⟨b, gF_r r59 rfl hs, p60, rfl, hsσ58⟩
                                · skip
                                  replace hp16 : ¬ ((x2).toInt ≠ (15 : Int)) := (not_congr ic_ne).mp hp16
                                  refine Or.inr ⟨hp16, ?_⟩
                                  clear g
                                  replace h : EV F f 172 z172 256 [some (rf 11 (0)), some (.inl (x2)), some (.inl (x3)), some (.inl (x4)), some (.inl (x5)), some (.inl (x6)), some (.inl (x7)), some (.inl (x8)), some (.inl (x9)), none] [] σ (w, σ') := h
                                  replace h := ei_p h rfl rfl rfl rfl
                                  obtain ⟨f, g, h⟩ := h
                                  clear g
                                  replace h : EV F f 172 z172 257 [some (rf 11 (0)), some (.inl (x2)), some (.inl (x3)), some (.inl (x4)), some (.inl (x5)), some (.inl (x6)), some (.inl (x7)), some (.inl (x8)), some (.inl (x9)), none] [rf 11 (0)] σ (w, σ') := h
                                  replace h := ei_p h rfl rfl rfl rfl
                                  obtain ⟨f, g, h⟩ := h
                                  clear g
                                  replace h : EV F f 172 z172 258 [some (rf 11 (0)), some (.inl (x2)), some (.inl (x3)), some (.inl (x4)), some (.inl (x5)), some (.inl (x6)), some (.inl (x7)), some (.inl (x8)), some (.inl (x9)), none] [.inl (x3), rf 11 (0)] σ (w, σ') := h
                                  replace h := bh_I (ei_vh (as := [.inl (x3)]) h rfl rfl hb172_0 hb172) z154_at (Or.inl rfl)
                                  rcases h with ⟨v61, σ62, r63, f, g, h⟩ | ⟨b, σ62, r63, H, i, rr, e1, e2, e3, f, g, h⟩
                                  · skip
                                    clear g
                                    have p64 := x154 hs.1 r63
                                    have hsσ62 : HL σ62 := HL_r2 rfl r63 rfl hs
                                    refine Or.inl ⟨v61, σ62, gF_r r63 rfl hs, p64, ?_⟩
                                    replace h : EV F f 172 z172 261 [some (rf 11 (0)), some (.inl (x2)), some (.inl (x3)), some (.inl (x4)), some (.inl (x5)), some (.inl (x6)), some (.inl (x7)), some (.inl (x8)), some (.inl (x9)), none] [.inl (v61)] σ62 (w, σ') := h
                                    replace h := ei_p h rfl rfl rfl rfl
                                    obtain ⟨f, g, h⟩ := h
                                    clear g
                                    replace h : EV F f 172 z172 262 [some (rf 11 (0)), some (.inl (x2)), some (.inl (x3)), some (.inl (x4)), some (.inl (x5)), some (.inl (x6)), some (.inl (x7)), some (.inl (x8)), some (.inl (x9)), none] [.inr (.inl ((v61).toInt64))] σ62 (w, σ') := h
                                    replace h := ei_p h rfl rfl rfl rfl
                                    obtain ⟨f, g, h⟩ := h
                                    clear g
                                    replace h : EV F f 172 z172 396 [some (rf 11 (0)), some (.inl (x2)), some (.inl (x3)), some (.inl (x4)), some (.inl (x5)), some (.inl (x6)), some (.inl (x7)), some (.inl (x8)), some (.inl (x9)), none] [.inr (.inl ((v61).toInt64))] σ62 (w, σ') := h
                                    have e := ei_lret h rfl
                                    cases e
                                    exact ⟨rfl, rfl, hsσ62⟩
                                  · skip
                                    have p64 := x154 hs.1 r63
                                    have hsσ62 : HL σ62 := HL_r2 rfl r63 rfl hs
                                    have e := hx172 (Nat.lt_of_lt_of_le (by decide : 258 < 396) (Nat.le_refl _)) e1 e2 e3 h
                                    cases e
                                    exact Or.inr ⟨b, gF_r r63 rfl hs, p64, rfl, hsσ62⟩
                              · skip
                                replace hp15 : ¬ ((x2).toInt ≠ (14 : Int)) := (not_congr ic_ne).mp hp15
                                refine Or.inr ⟨hp15, ?_⟩
                                clear g
                                replace h : EV F f 172 z172 241 [some (rf 11 (0)), some (.inl (x2)), some (.inl (x3)), some (.inl (x4)), some (.inl (x5)), some (.inl (x6)), some (.inl (x7)), some (.inl (x8)), some (.inl (x9)), none] [] σ (w, σ') := h
                                replace h := ei_p h rfl rfl rfl rfl
                                obtain ⟨f, g, h⟩ := h
                                clear g
                                replace h : EV F f 172 z172 242 [some (rf 11 (0)), some (.inl (x2)), some (.inl (x3)), some (.inl (x4)), some (.inl (x5)), some (.inl (x6)), some (.inl (x7)), some (.inl (x8)), some (.inl (x9)), none] [rf 11 (0)] σ (w, σ') := h
                                replace h := ei_p h rfl rfl rfl rfl
                                obtain ⟨f, g, h⟩ := h
                                clear g
                                replace h : EV F f 172 z172 243 [some (rf 11 (0)), some (.inl (x2)), some (.inl (x3)), some (.inl (x4)), some (.inl (x5)), some (.inl (x6)), some (.inl (x7)), some (.inl (x8)), some (.inl (x9)), none] [.inl (x3), rf 11 (0)] σ (w, σ') := h
                                replace h := bh_I (ei_vh (as := [.inl (x3)]) h rfl rfl hb172_0 hb172) z153_at (Or.inl rfl)
                                rcases h with ⟨v65, σ66, r67, f, g, h⟩ | ⟨b, σ66, r67, H, i, rr, e1, e2, e3, f, g, h⟩
                                · skip
                                  clear g
                                  have p68 := x153 hs.1 r67
                                  have hsσ66 : HL σ66 := HL_r2 rfl r67 rfl hs
                                  refine Or.inl ⟨v65, σ66, gF_r r67 rfl hs, p68, ?_⟩
                                  replace h : EV F f 172 z172 246 [some (rf 11 (0)), some (.inl (x2)), some (.inl (x3)), some (.inl (x4)), some (.inl (x5)), some (.inl (x6)), some (.inl (x7)), some (.inl (x8)), some (.inl (x9)), none] [.inl (v65)] σ66 (w, σ') := h
                                  replace h := ei_p h rfl rfl rfl rfl
                                  obtain ⟨f, g, h⟩ := h
                                  clear g
                                  replace h : EV F f 172 z172 247 [some (rf 11 (0)), some (.inl (x2)), some (.inl (x3)), some (.inl (x4)), some (.inl (x5)), some (.inl (x6)), some (.inl (x7)), some (.inl (x8)), some (.inl (x9)), none] [.inr (.inl ((v65).toInt64))] σ66 (w, σ') := h
                                  replace h := ei_p h rfl rfl rfl rfl
                                  obtain ⟨f, g, h⟩ := h
                                  clear g
                                  replace h : EV F f 172 z172 396 [some (rf 11 (0)), some (.inl (x2)), some (.inl (x3)), some (.inl (x4)), some (.inl (x5)), some (.inl (x6)), some (.inl (x7)), some (.inl (x8)), some (.inl (x9)), none] [.inr (.inl ((v65).toInt64))] σ66 (w, σ') := h
                                  have e := ei_lret h rfl
                                  cases e
                                  exact ⟨rfl, rfl, hsσ66⟩
                                · skip
                                  have p68 := x153 hs.1 r67
                                  have hsσ66 : HL σ66 := HL_r2 rfl r67 rfl hs
                                  have e := hx172 (Nat.lt_of_lt_of_le (by decide : 243 < 396) (Nat.le_refl _)) e1 e2 e3 h
                                  cases e
                                  exact Or.inr ⟨b, gF_r r67 rfl hs, p68, rfl, hsσ66⟩
                            · skip
                              replace hp14 : ¬ ((x2).toInt ≠ (13 : Int)) := (not_congr ic_ne).mp hp14
                              refine Or.inr ⟨hp14, ?_⟩
                              clear g
                              replace h : EV F f 172 z172 228 [some (rf 11 (0)), some (.inl (x2)), some (.inl (x3)), some (.inl (x4)), some (.inl (x5)), some (.inl (x6)), some (.inl (x7)), some (.inl (x8)), some (.inl (x9)), none] [] σ (w, σ') := h
                              replace h := ei_p h rfl rfl rfl rfl
                              obtain ⟨f, g, h⟩ := h
                              clear g
                              replace h : EV F f 172 z172 229 [some (rf 11 (0)), some (.inl (x2)), some (.inl (x3)), some (.inl (x4)), some (.inl (x5)), some (.inl (x6)), some (.inl (x7)), some (.inl (x8)), some (.inl (x9)), none] [rf 11 (0)] σ (w, σ') := h
                              replace h := bh_L (ei_vh (as := []) h rfl rfl hb172_0 hb172) z152_at rfl
                              rcases h with ⟨v69, σ70, r71, f, g, h⟩ | ⟨b, σ70, r71, H, i, rr, e1, e2, e3, f, g, h⟩
                              · skip
                                clear g
                                have p72 := x152 hs.1 r71
                                have hsσ70 : HL σ70 := HL_r2 rfl r71 rfl hs
                                refine Or.inl ⟨v69, σ70, gF_r r71 rfl hs, p72, ?_⟩
                                replace h : EV F f 172 z172 232 [some (rf 11 (0)), some (.inl (x2)), some (.inl (x3)), some (.inl (x4)), some (.inl (x5)), some (.inl (x6)), some (.inl (x7)), some (.inl (x8)), some (.inl (x9)), none] [.inr (.inl (v69))] σ70 (w, σ') := h
                                replace h := ei_p h rfl rfl rfl rfl
                                obtain ⟨f, g, h⟩ := h
                                clear g
                                replace h : EV F f 172 z172 396 [some (rf 11 (0)), some (.inl (x2)), some (.inl (x3)), some (.inl (x4)), some (.inl (x5)), some (.inl (x6)), some (.inl (x7)), some (.inl (x8)), some (.inl (x9)), none] [.inr (.inl (v69))] σ70 (w, σ') := h
                                have e := ei_lret h rfl
                                cases e
                                exact ⟨rfl, rfl, hsσ70⟩
                              · skip
                                have p72 := x152 hs.1 r71
                                have hsσ70 : HL σ70 := HL_r2 rfl r71 rfl hs
                                have e := hx172 (Nat.lt_of_lt_of_le (by decide : 229 < 396) (Nat.le_refl _)) e1 e2 e3 h
                                cases e
                                exact Or.inr ⟨b, gF_r r71 rfl hs, p72, rfl, hsσ70⟩
                          · skip
                            replace hp13 : ¬ ((x2).toInt ≠ (12 : Int)) := (not_congr ic_ne).mp hp13
                            refine Or.inr ⟨hp13, ?_⟩
                            clear g
                            replace h : EV F f 172 z172 211 [some (rf 11 (0)), some (.inl (x2)), some (.inl (x3)), some (.inl (x4)), some (.inl (x5)), some (.inl (x6)), some (.inl (x7)), some (.inl (x8)), some (.inl (x9)), none] [] σ (w, σ') := h
                            replace h := ei_p h rfl rfl rfl rfl
                            obtain ⟨f, g, h⟩ := h
                            clear g
                            replace h : EV F f 172 z172 212 [some (rf 11 (0)), some (.inl (x2)), some (.inl (x3)), some (.inl (x4)), some (.inl (x5)), some (.inl (x6)), some (.inl (x7)), some (.inl (x8)), some (.inl (x9)), none] [rf 11 (0)] σ (w, σ') := h
                            replace h := ei_p h rfl rfl rfl rfl
                            obtain ⟨f, g, h⟩ := h
                            clear g
                            replace h : EV F f 172 z172 213 [some (rf 11 (0)), some (.inl (x2)), some (.inl (x3)), some (.inl (x4)), some (.inl (x5)), some (.inl (x6)), some (.inl (x7)), some (.inl (x8)), some (.inl (x9)), none] [.inl (x3), rf 11 (0)] σ (w, σ') := h
                            replace h := ei_p h rfl rfl rfl rfl
                            obtain ⟨f, g, h⟩ := h
                            clear g
                            replace h : EV F f 172 z172 214 [some (rf 11 (0)), some (.inl (x2)), some (.inl (x3)), some (.inl (x4)), some (.inl (x5)), some (.inl (x6)), some (.inl (x7)), some (.inl (x8)), some (.inl (x9)), none] [.inl (x4), .inl (x3), rf 11 (0)] σ (w, σ') := h
                            replace h := ei_p h rfl rfl rfl rfl
                            obtain ⟨f, g, h⟩ := h
                            clear g
                            replace h : EV F f 172 z172 216 [some (rf 11 (0)), some (.inl (x2)), some (.inl (x3)), some (.inl (x4)), some (.inl (x5)), some (.inl (x6)), some (.inl (x7)), some (.inl (x8)), some (.inl (x9)), none] [.inl (x5), .inl (x4), .inl (x3), rf 11 (0)] σ (w, σ') := h
                            replace h := bh_L (ei_vh (as := [.inl (x5), .inl (x4), .inl (x3)]) h rfl rfl hb172_0 hb172) z151_at rfl
                            rcases h with ⟨v73, σ74, r75, f, g, h⟩ | ⟨b, σ74, r75, H, i, rr, e1, e2, e3, f, g, h⟩
                            · skip
                              clear g
                              have p76 := x151 hs.1 r75
                              have hsσ74 : HL σ74 := HL_r2 rfl r75 rfl hs
                              refine Or.inl ⟨v73, σ74, gF_r r75 rfl hs, p76, ?_⟩
                              replace h : EV F f 172 z172 219 [some (rf 11 (0)), some (.inl (x2)), some (.inl (x3)), some (.inl (x4)), some (.inl (x5)), some (.inl (x6)), some (.inl (x7)), some (.inl (x8)), some (.inl (x9)), none] [.inr (.inl (v73))] σ74 (w, σ') := h
                              replace h := ei_p h rfl rfl rfl rfl
                              obtain ⟨f, g, h⟩ := h
                              clear g
                              replace h : EV F f 172 z172 396 [some (rf 11 (0)), some (.inl (x2)), some (.inl (x3)), some (.inl (x4)), some (.inl (x5)), some (.inl (x6)), some (.inl (x7)), some (.inl (x8)), some (.inl (x9)), none] [.inr (.inl (v73))] σ74 (w, σ') := h
                              have e := ei_lret h rfl
                              cases e
                              exact ⟨rfl, rfl, hsσ74⟩
                            · skip
                              have p76 := x151 hs.1 r75
                              have hsσ74 : HL σ74 := HL_r2 rfl r75 rfl hs
                              have e := hx172 (Nat.lt_of_lt_of_le (by decide : 216 < 396) (Nat.le_refl _)) e1 e2 e3 h
                              cases e
                              exact Or.inr ⟨b, gF_r r75 rfl hs, p76, rfl, hsσ74⟩
                        · skip
                          replace hp12 : ¬ ((x2).toInt ≠ (11 : Int)) := (not_congr ic_ne).mp hp12
                          refine Or.inr ⟨hp12, ?_⟩
                          clear g
                          replace h : EV F f 172 z172 196 [some (rf 11 (0)), some (.inl (x2)), some (.inl (x3)), some (.inl (x4)), some (.inl (x5)), some (.inl (x6)), some (.inl (x7)), some (.inl (x8)), some (.inl (x9)), none] [] σ (w, σ') := h
                          replace h := ei_p h rfl rfl rfl rfl
                          obtain ⟨f, g, h⟩ := h
                          clear g
                          replace h : EV F f 172 z172 197 [some (rf 11 (0)), some (.inl (x2)), some (.inl (x3)), some (.inl (x4)), some (.inl (x5)), some (.inl (x6)), some (.inl (x7)), some (.inl (x8)), some (.inl (x9)), none] [rf 11 (0)] σ (w, σ') := h
                          replace h := ei_p h rfl rfl rfl rfl
                          obtain ⟨f, g, h⟩ := h
                          clear g
                          replace h : EV F f 172 z172 198 [some (rf 11 (0)), some (.inl (x2)), some (.inl (x3)), some (.inl (x4)), some (.inl (x5)), some (.inl (x6)), some (.inl (x7)), some (.inl (x8)), some (.inl (x9)), none] [.inl (x3), rf 11 (0)] σ (w, σ') := h
                          replace h := bh_I (ei_vh (as := [.inl (x3)]) h rfl rfl hb172_0 hb172) z150_at (Or.inl rfl)
                          rcases h with ⟨v77, σ78, r79, f, g, h⟩ | ⟨b, σ78, r79, H, i, rr, e1, e2, e3, f, g, h⟩
                          · skip
                            clear g
                            have p80 := x150 hs.1 r79
                            have hsσ78 : HL σ78 := HL_r2 rfl r79 rfl hs
                            refine Or.inl ⟨v77, σ78, gF_r r79 rfl hs, p80, ?_⟩
                            replace h : EV F f 172 z172 201 [some (rf 11 (0)), some (.inl (x2)), some (.inl (x3)), some (.inl (x4)), some (.inl (x5)), some (.inl (x6)), some (.inl (x7)), some (.inl (x8)), some (.inl (x9)), none] [.inl (v77)] σ78 (w, σ') := h
                            replace h := ei_p h rfl rfl rfl rfl
                            obtain ⟨f, g, h⟩ := h
                            clear g
                            replace h : EV F f 172 z172 202 [some (rf 11 (0)), some (.inl (x2)), some (.inl (x3)), some (.inl (x4)), some (.inl (x5)), some (.inl (x6)), some (.inl (x7)), some (.inl (x8)), some (.inl (x9)), none] [.inr (.inl ((v77).toInt64))] σ78 (w, σ') := h
                            replace h := ei_p h rfl rfl rfl rfl
                            obtain ⟨f, g, h⟩ := h
                            clear g
                            replace h : EV F f 172 z172 396 [some (rf 11 (0)), some (.inl (x2)), some (.inl (x3)), some (.inl (x4)), some (.inl (x5)), some (.inl (x6)), some (.inl (x7)), some (.inl (x8)), some (.inl (x9)), none] [.inr (.inl ((v77).toInt64))] σ78 (w, σ') := h
                            have e := ei_lret h rfl
                            cases e
                            exact ⟨rfl, rfl, hsσ78⟩
                          · skip
                            have p80 := x150 hs.1 r79
                            have hsσ78 : HL σ78 := HL_r2 rfl r79 rfl hs
                            have e := hx172 (Nat.lt_of_lt_of_le (by decide : 198 < 396) (Nat.le_refl _)) e1 e2 e3 h
                            cases e
                            exact Or.inr ⟨b, gF_r r79 rfl hs, p80, rfl, hsσ78⟩
                      · skip
                        replace hp11 : ¬ ((x2).toInt ≠ (10 : Int)) := (not_congr ic_ne).mp hp11
                        refine Or.inr ⟨hp11, ?_⟩
                        clear g
                        replace h : EV F f 172 z172 178 [some (rf 11 (0)), some (.inl (x2)), some (.inl (x3)), some (.inl (x4)), some (.inl (x5)), some (.inl (x6)), some (.inl (x7)), some (.inl (x8)), some (.inl (x9)), none] [] σ (w, σ') := h
                        replace h := ei_p h rfl rfl rfl rfl
                        obtain ⟨f, g, h⟩ := h
                        clear g
                        replace h : EV F f 172 z172 179 [some (rf 11 (0)), some (.inl (x2)), some (.inl (x3)), some (.inl (x4)), some (.inl (x5)), some (.inl (x6)), some (.inl (x7)), some (.inl (x8)), some (.inl (x9)), none] [rf 11 (0)] σ (w, σ') := h
                        replace h := ei_p h rfl rfl rfl rfl
                        obtain ⟨f, g, h⟩ := h
                        clear g
                        replace h : EV F f 172 z172 180 [some (rf 11 (0)), some (.inl (x2)), some (.inl (x3)), some (.inl (x4)), some (.inl (x5)), some (.inl (x6)), some (.inl (x7)), some (.inl (x8)), some (.inl (x9)), none] [.inl (x3), rf 11 (0)] σ (w, σ') := h
                        replace h := ei_p h rfl rfl rfl rfl
                        obtain ⟨f, g, h⟩ := h
                        clear g
                        replace h : EV F f 172 z172 181 [some (rf 11 (0)), some (.inl (x2)), some (.inl (x3)), some (.inl (x4)), some (.inl (x5)), some (.inl (x6)), some (.inl (x7)), some (.inl (x8)), some (.inl (x9)), none] [.inl (x4), .inl (x3), rf 11 (0)] σ (w, σ') := h
                        replace h := ei_p h rfl rfl rfl rfl
                        obtain ⟨f, g, h⟩ := h
                        clear g
                        replace h : EV F f 172 z172 183 [some (rf 11 (0)), some (.inl (x2)), some (.inl (x3)), some (.inl (x4)), some (.inl (x5)), some (.inl (x6)), some (.inl (x7)), some (.inl (x8)), some (.inl (x9)), none] [.inl (x5), .inl (x4), .inl (x3), rf 11 (0)] σ (w, σ') := h
                        replace h := bh_I (ei_vh (as := [.inl (x5), .inl (x4), .inl (x3)]) h rfl rfl hb172_0 hb172) z146_at (Or.inl rfl)
                        rcases h with ⟨v81, σ82, r83, f, g, h⟩ | ⟨b, σ82, r83, H, i, rr, e1, e2, e3, f, g, h⟩
                        · skip
                          clear g
                          have p84 := x146 hs.1 r83
                          have hsσ82 : HL σ82 := HL_r2 rfl r83 rfl hs
                          refine Or.inl ⟨v81, σ82, gF_r r83 rfl hs, p84, ?_⟩
                          replace h : EV F f 172 z172 186 [some (rf 11 (0)), some (.inl (x2)), some (.inl (x3)), some (.inl (x4)), some (.inl (x5)), some (.inl (x6)), some (.inl (x7)), some (.inl (x8)), some (.inl (x9)), none] [.inl (v81)] σ82 (w, σ') := h
                          replace h := ei_p h rfl rfl rfl rfl
                          obtain ⟨f, g, h⟩ := h
                          clear g
                          replace h : EV F f 172 z172 187 [some (rf 11 (0)), some (.inl (x2)), some (.inl (x3)), some (.inl (x4)), some (.inl (x5)), some (.inl (x6)), some (.inl (x7)), some (.inl (x8)), some (.inl (x9)), none] [.inr (.inl ((v81).toInt64))] σ82 (w, σ') := h
                          replace h := ei_p h rfl rfl rfl rfl
                          obtain ⟨f, g, h⟩ := h
                          clear g
                          replace h : EV F f 172 z172 396 [some (rf 11 (0)), some (.inl (x2)), some (.inl (x3)), some (.inl (x4)), some (.inl (x5)), some (.inl (x6)), some (.inl (x7)), some (.inl (x8)), some (.inl (x9)), none] [.inr (.inl ((v81).toInt64))] σ82 (w, σ') := h
                          have e := ei_lret h rfl
                          cases e
                          exact ⟨rfl, rfl, hsσ82⟩
                        · skip
                          have p84 := x146 hs.1 r83
                          have hsσ82 : HL σ82 := HL_r2 rfl r83 rfl hs
                          have e := hx172 (Nat.lt_of_lt_of_le (by decide : 183 < 396) (Nat.le_refl _)) e1 e2 e3 h
                          cases e
                          exact Or.inr ⟨b, gF_r r83 rfl hs, p84, rfl, hsσ82⟩
                    · skip
                      replace hp10 : ¬ ((x2).toInt ≠ (9 : Int)) := (not_congr ic_ne).mp hp10
                      refine Or.inr ⟨hp10, ?_⟩
                      clear g
                      replace h : EV F f 172 z172 163 [some (rf 11 (0)), some (.inl (x2)), some (.inl (x3)), some (.inl (x4)), some (.inl (x5)), some (.inl (x6)), some (.inl (x7)), some (.inl (x8)), some (.inl (x9)), none] [] σ (w, σ') := h
                      replace h := ei_p h rfl rfl rfl rfl
                      obtain ⟨f, g, h⟩ := h
                      clear g
                      replace h : EV F f 172 z172 164 [some (rf 11 (0)), some (.inl (x2)), some (.inl (x3)), some (.inl (x4)), some (.inl (x5)), some (.inl (x6)), some (.inl (x7)), some (.inl (x8)), some (.inl (x9)), none] [rf 11 (0)] σ (w, σ') := h
                      replace h := ei_p h rfl rfl rfl rfl
                      obtain ⟨f, g, h⟩ := h
                      clear g
                      replace h : EV F f 172 z172 165 [some (rf 11 (0)), some (.inl (x2)), some (.inl (x3)), some (.inl (x4)), some (.inl (x5)), some (.inl (x6)), some (.inl (x7)), some (.inl (x8)), some (.inl (x9)), none] [.inl (x3), rf 11 (0)] σ (w, σ') := h
                      replace h := ei_p h rfl rfl rfl rfl
                      obtain ⟨f, g, h⟩ := h
                      clear g
                      replace h : EV F f 172 z172 166 [some (rf 11 (0)), some (.inl (x2)), some (.inl (x3)), some (.inl (x4)), some (.inl (x5)), some (.inl (x6)), some (.inl (x7)), some (.inl (x8)), some (.inl (x9)), none] [.inl (x4), .inl (x3), rf 11 (0)] σ (w, σ') := h
                      replace h := bh_L (ei_vh (as := [.inl (x4), .inl (x3)]) h rfl rfl hb172_0 hb172) z139_at rfl
                      rcases h with ⟨v85, σ86, r87, f, g, h⟩ | ⟨b, σ86, r87, H, i, rr, e1, e2, e3, f, g, h⟩
                      · skip
                        clear g
                        have p88 := x139 hs.1 r87
                        have hsσ86 : HL σ86 := HL_r2 rfl r87 rfl hs
                        refine Or.inl ⟨v85, σ86, gF_r r87 rfl hs, p88, ?_⟩
                        replace h : EV F f 172 z172 169 [some (rf 11 (0)), some (.inl (x2)), some (.inl (x3)), some (.inl (x4)), some (.inl (x5)), some (.inl (x6)), some (.inl (x7)), some (.inl (x8)), some (.inl (x9)), none] [.inr (.inl (v85))] σ86 (w, σ') := h
                        replace h := ei_p h rfl rfl rfl rfl
                        obtain ⟨f, g, h⟩ := h
                        clear g
                        replace h : EV F f 172 z172 396 [some (rf 11 (0)), some (.inl (x2)), some (.inl (x3)), some (.inl (x4)), some (.inl (x5)), some (.inl (x6)), some (.inl (x7)), some (.inl (x8)), some (.inl (x9)), none] [.inr (.inl (v85))] σ86 (w, σ') := h
                        have e := ei_lret h rfl
                        cases e
                        exact ⟨rfl, rfl, hsσ86⟩
                      · skip
                        have p88 := x139 hs.1 r87
                        have hsσ86 : HL σ86 := HL_r2 rfl r87 rfl hs
                        have e := hx172 (Nat.lt_of_lt_of_le (by decide : 166 < 396) (Nat.le_refl _)) e1 e2 e3 h
                        cases e
                        exact Or.inr ⟨b, gF_r r87 rfl hs, p88, rfl, hsσ86⟩
                  · skip
                    replace hp9 : ¬ ((x2).toInt ≠ (8 : Int)) := (not_congr ic_ne).mp hp9
                    refine Or.inr ⟨hp9, ?_⟩
                    clear g
                    replace h : EV F f 172 z172 147 [some (rf 11 (0)), some (.inl (x2)), some (.inl (x3)), some (.inl (x4)), some (.inl (x5)), some (.inl (x6)), some (.inl (x7)), some (.inl (x8)), some (.inl (x9)), none] [] σ (w, σ') := h
                    replace h := ei_p h rfl rfl rfl rfl
                    obtain ⟨f, g, h⟩ := h
                    clear g
                    replace h : EV F f 172 z172 148 [some (rf 11 (0)), some (.inl (x2)), some (.inl (x3)), some (.inl (x4)), some (.inl (x5)), some (.inl (x6)), some (.inl (x7)), some (.inl (x8)), some (.inl (x9)), none] [rf 11 (0)] σ (w, σ') := h
                    replace h := ei_p h rfl rfl rfl rfl
                    obtain ⟨f, g, h⟩ := h
                    clear g
                    replace h : EV F f 172 z172 149 [some (rf 11 (0)), some (.inl (x2)), some (.inl (x3)), some (.inl (x4)), some (.inl (x5)), some (.inl (x6)), some (.inl (x7)), some (.inl (x8)), some (.inl (x9)), none] [.inl (x3), rf 11 (0)] σ (w, σ') := h
                    replace h := ei_p h rfl rfl rfl rfl
                    obtain ⟨f, g, h⟩ := h
                    clear g
                    replace h : EV F f 172 z172 150 [some (rf 11 (0)), some (.inl (x2)), some (.inl (x3)), some (.inl (x4)), some (.inl (x5)), some (.inl (x6)), some (.inl (x7)), some (.inl (x8)), some (.inl (x9)), none] [.inl (x4), .inl (x3), rf 11 (0)] σ (w, σ') := h
                    replace h := bh_I (ei_vh (as := [.inl (x4), .inl (x3)]) h rfl rfl hb172_0 hb172) z138_at (Or.inl rfl)
                    rcases h with ⟨v89, σ90, r91, f, g, h⟩ | ⟨b, σ90, r91, H, i, rr, e1, e2, e3, f, g, h⟩
                    · skip
                      clear g
                      have p92 := x138 hs.1 r91
                      have hsσ90 : HL σ90 := HL_r2 rfl r91 rfl hs
                      refine Or.inl ⟨v89, σ90, gF_r r91 rfl hs, p92, ?_⟩
                      replace h : EV F f 172 z172 153 [some (rf 11 (0)), some (.inl (x2)), some (.inl (x3)), some (.inl (x4)), some (.inl (x5)), some (.inl (x6)), some (.inl (x7)), some (.inl (x8)), some (.inl (x9)), none] [.inl (v89)] σ90 (w, σ') := h
                      replace h := ei_p h rfl rfl rfl rfl
                      obtain ⟨f, g, h⟩ := h
                      clear g
                      replace h : EV F f 172 z172 154 [some (rf 11 (0)), some (.inl (x2)), some (.inl (x3)), some (.inl (x4)), some (.inl (x5)), some (.inl (x6)), some (.inl (x7)), some (.inl (x8)), some (.inl (x9)), none] [.inr (.inl ((v89).toInt64))] σ90 (w, σ') := h
                      replace h := ei_p h rfl rfl rfl rfl
                      obtain ⟨f, g, h⟩ := h
                      clear g
                      replace h : EV F f 172 z172 396 [some (rf 11 (0)), some (.inl (x2)), some (.inl (x3)), some (.inl (x4)), some (.inl (x5)), some (.inl (x6)), some (.inl (x7)), some (.inl (x8)), some (.inl (x9)), none] [.inr (.inl ((v89).toInt64))] σ90 (w, σ') := h
                      have e := ei_lret h rfl
                      cases e
                      exact ⟨rfl, rfl, hsσ90⟩
                    · skip
                      have p92 := x138 hs.1 r91
                      have hsσ90 : HL σ90 := HL_r2 rfl r91 rfl hs
                      have e := hx172 (Nat.lt_of_lt_of_le (by decide : 150 < 396) (Nat.le_refl _)) e1 e2 e3 h
                      cases e
                      exact Or.inr ⟨b, gF_r r91 rfl hs, p92, rfl, hsσ90⟩
                · skip
                  replace hp8 : ¬ ((x2).toInt ≠ (7 : Int)) := (not_congr ic_ne).mp hp8
                  refine Or.inr ⟨hp8, ?_⟩
                  clear g
                  replace h : EV F f 172 z172 132 [some (rf 11 (0)), some (.inl (x2)), some (.inl (x3)), some (.inl (x4)), some (.inl (x5)), some (.inl (x6)), some (.inl (x7)), some (.inl (x8)), some (.inl (x9)), none] [] σ (w, σ') := h
                  replace h := ei_p h rfl rfl rfl rfl
                  obtain ⟨f, g, h⟩ := h
                  clear g
                  replace h : EV F f 172 z172 133 [some (rf 11 (0)), some (.inl (x2)), some (.inl (x3)), some (.inl (x4)), some (.inl (x5)), some (.inl (x6)), some (.inl (x7)), some (.inl (x8)), some (.inl (x9)), none] [rf 11 (0)] σ (w, σ') := h
                  replace h := ei_p h rfl rfl rfl rfl
                  obtain ⟨f, g, h⟩ := h
                  clear g
                  replace h : EV F f 172 z172 134 [some (rf 11 (0)), some (.inl (x2)), some (.inl (x3)), some (.inl (x4)), some (.inl (x5)), some (.inl (x6)), some (.inl (x7)), some (.inl (x8)), some (.inl (x9)), none] [.inl (x3), rf 11 (0)] σ (w, σ') := h
                  replace h := bh_I (ei_vh (as := [.inl (x3)]) h rfl rfl hb172_0 hb172) z137_at (Or.inl rfl)
                  rcases h with ⟨v93, σ94, r95, f, g, h⟩ | ⟨b, σ94, r95, H, i, rr, e1, e2, e3, f, g, h⟩
                  · skip
                    clear g
                    have p96 := x137 hs.1 r95
                    have hsσ94 : HL σ94 := HL_r2 rfl r95 rfl hs
                    refine Or.inl ⟨v93, σ94, gF_r r95 rfl hs, p96, ?_⟩
                    replace h : EV F f 172 z172 137 [some (rf 11 (0)), some (.inl (x2)), some (.inl (x3)), some (.inl (x4)), some (.inl (x5)), some (.inl (x6)), some (.inl (x7)), some (.inl (x8)), some (.inl (x9)), none] [.inl (v93)] σ94 (w, σ') := h
                    replace h := ei_p h rfl rfl rfl rfl
                    obtain ⟨f, g, h⟩ := h
                    clear g
                    replace h : EV F f 172 z172 138 [some (rf 11 (0)), some (.inl (x2)), some (.inl (x3)), some (.inl (x4)), some (.inl (x5)), some (.inl (x6)), some (.inl (x7)), some (.inl (x8)), some (.inl (x9)), none] [.inr (.inl ((v93).toInt64))] σ94 (w, σ') := h
                    replace h := ei_p h rfl rfl rfl rfl
                    obtain ⟨f, g, h⟩ := h
                    clear g
                    replace h : EV F f 172 z172 396 [some (rf 11 (0)), some (.inl (x2)), some (.inl (x3)), some (.inl (x4)), some (.inl (x5)), some (.inl (x6)), some (.inl (x7)), some (.inl (x8)), some (.inl (x9)), none] [.inr (.inl ((v93).toInt64))] σ94 (w, σ') := h
                    have e := ei_lret h rfl
                    cases e
                    exact ⟨rfl, rfl, hsσ94⟩
                  · skip
                    have p96 := x137 hs.1 r95
                    have hsσ94 : HL σ94 := HL_r2 rfl r95 rfl hs
                    have e := hx172 (Nat.lt_of_lt_of_le (by decide : 134 < 396) (Nat.le_refl _)) e1 e2 e3 h
                    cases e
                    exact Or.inr ⟨b, gF_r r95 rfl hs, p96, rfl, hsσ94⟩
              · skip
                replace hp7 : ¬ ((x2).toInt ≠ (6 : Int)) := (not_congr ic_ne).mp hp7
                refine Or.inr ⟨hp7, ?_⟩
                clear g
                replace h : EV F f 172 z172 116 [some (rf 11 (0)), some (.inl (x2)), some (.inl (x3)), some (.inl (x4)), some (.inl (x5)), some (.inl (x6)), some (.inl (x7)), some (.inl (x8)), some (.inl (x9)), none] [] σ (w, σ') := h
                replace h := ei_p h rfl rfl rfl rfl
                obtain ⟨f, g, h⟩ := h
                clear g
                replace h : EV F f 172 z172 117 [some (rf 11 (0)), some (.inl (x2)), some (.inl (x3)), some (.inl (x4)), some (.inl (x5)), some (.inl (x6)), some (.inl (x7)), some (.inl (x8)), some (.inl (x9)), none] [rf 11 (0)] σ (w, σ') := h
                replace h := ei_p h rfl rfl rfl rfl
                obtain ⟨f, g, h⟩ := h
                clear g
                replace h : EV F f 172 z172 118 [some (rf 11 (0)), some (.inl (x2)), some (.inl (x3)), some (.inl (x4)), some (.inl (x5)), some (.inl (x6)), some (.inl (x7)), some (.inl (x8)), some (.inl (x9)), none] [.inl (x3), rf 11 (0)] σ (w, σ') := h
                replace h := ei_p h rfl rfl rfl rfl
                obtain ⟨f, g, h⟩ := h
                clear g
                replace h : EV F f 172 z172 119 [some (rf 11 (0)), some (.inl (x2)), some (.inl (x3)), some (.inl (x4)), some (.inl (x5)), some (.inl (x6)), some (.inl (x7)), some (.inl (x8)), some (.inl (x9)), none] [.inl (x4), .inl (x3), rf 11 (0)] σ (w, σ') := h
                replace h := bh_I (ei_vh (as := [.inl (x4), .inl (x3)]) h rfl rfl hb172_0 hb172) z134_at (Or.inl rfl)
                rcases h with ⟨v97, σ98, r99, f, g, h⟩ | ⟨b, σ98, r99, H, i, rr, e1, e2, e3, f, g, h⟩
                · skip
                  clear g
                  have p100 := x134 hs.1 r99
                  have hsσ98 : HL σ98 := HL_r2 rfl r99 rfl hs
                  refine Or.inl ⟨v97, σ98, gF_r r99 rfl hs, p100, ?_⟩
                  replace h : EV F f 172 z172 122 [some (rf 11 (0)), some (.inl (x2)), some (.inl (x3)), some (.inl (x4)), some (.inl (x5)), some (.inl (x6)), some (.inl (x7)), some (.inl (x8)), some (.inl (x9)), none] [.inl (v97)] σ98 (w, σ') := h
                  replace h := ei_p h rfl rfl rfl rfl
                  obtain ⟨f, g, h⟩ := h
                  clear g
                  replace h : EV F f 172 z172 123 [some (rf 11 (0)), some (.inl (x2)), some (.inl (x3)), some (.inl (x4)), some (.inl (x5)), some (.inl (x6)), some (.inl (x7)), some (.inl (x8)), some (.inl (x9)), none] [.inr (.inl ((v97).toInt64))] σ98 (w, σ') := h
                  replace h := ei_p h rfl rfl rfl rfl
                  obtain ⟨f, g, h⟩ := h
                  clear g
                  replace h : EV F f 172 z172 396 [some (rf 11 (0)), some (.inl (x2)), some (.inl (x3)), some (.inl (x4)), some (.inl (x5)), some (.inl (x6)), some (.inl (x7)), some (.inl (x8)), some (.inl (x9)), none] [.inr (.inl ((v97).toInt64))] σ98 (w, σ') := h
                  have e := ei_lret h rfl
                  cases e
                  exact ⟨rfl, rfl, hsσ98⟩
                · skip
                  have p100 := x134 hs.1 r99
                  have hsσ98 : HL σ98 := HL_r2 rfl r99 rfl hs
                  have e := hx172 (Nat.lt_of_lt_of_le (by decide : 119 < 396) (Nat.le_refl _)) e1 e2 e3 h
                  cases e
                  exact Or.inr ⟨b, gF_r r99 rfl hs, p100, rfl, hsσ98⟩
            · skip
              replace hp6 : ¬ ((x2).toInt ≠ (5 : Int)) := (not_congr ic_ne).mp hp6
              refine Or.inr ⟨hp6, ?_⟩
              clear g
              replace h : EV F f 172 z172 94 [some (rf 11 (0)), some (.inl (x2)), some (.inl (x3)), some (.inl (x4)), some (.inl (x5)), some (.inl (x6)), some (.inl (x7)), some (.inl (x8)), some (.inl (x9)), none] [] σ (w, σ') := h
              replace h := ei_p h rfl rfl rfl rfl
              obtain ⟨f, g, h⟩ := h
              clear g
              replace h : EV F f 172 z172 95 [some (rf 11 (0)), some (.inl (x2)), some (.inl (x3)), some (.inl (x4)), some (.inl (x5)), some (.inl (x6)), some (.inl (x7)), some (.inl (x8)), some (.inl (x9)), none] [rf 11 (0)] σ (w, σ') := h
              replace h := ei_p h rfl rfl rfl rfl
              obtain ⟨f, g, h⟩ := h
              clear g
              replace h : EV F f 172 z172 96 [some (rf 11 (0)), some (.inl (x2)), some (.inl (x3)), some (.inl (x4)), some (.inl (x5)), some (.inl (x6)), some (.inl (x7)), some (.inl (x8)), some (.inl (x9)), none] [.inl (x3), rf 11 (0)] σ (w, σ') := h
              replace h := ei_p h rfl rfl rfl rfl
              obtain ⟨f, g, h⟩ := h
              clear g
              replace h : EV F f 172 z172 97 [some (rf 11 (0)), some (.inl (x2)), some (.inl (x3)), some (.inl (x4)), some (.inl (x5)), some (.inl (x6)), some (.inl (x7)), some (.inl (x8)), some (.inl (x9)), none] [.inl (x4), .inl (x3), rf 11 (0)] σ (w, σ') := h
              replace h := ei_p h rfl rfl rfl rfl
              obtain ⟨f, g, h⟩ := h
              clear g
              replace h : EV F f 172 z172 99 [some (rf 11 (0)), some (.inl (x2)), some (.inl (x3)), some (.inl (x4)), some (.inl (x5)), some (.inl (x6)), some (.inl (x7)), some (.inl (x8)), some (.inl (x9)), none] [.inl (x5), .inl (x4), .inl (x3), rf 11 (0)] σ (w, σ') := h
              replace h := ei_p h rfl rfl rfl rfl
              obtain ⟨f, g, h⟩ := h
              clear g
              replace h : EV F f 172 z172 101 [some (rf 11 (0)), some (.inl (x2)), some (.inl (x3)), some (.inl (x4)), some (.inl (x5)), some (.inl (x6)), some (.inl (x7)), some (.inl (x8)), some (.inl (x9)), none] [.inl (x6), .inl (x5), .inl (x4), .inl (x3), rf 11 (0)] σ (w, σ') := h
              replace h := ei_p h rfl rfl rfl rfl
              obtain ⟨f, g, h⟩ := h
              clear g
              replace h : EV F f 172 z172 103 [some (rf 11 (0)), some (.inl (x2)), some (.inl (x3)), some (.inl (x4)), some (.inl (x5)), some (.inl (x6)), some (.inl (x7)), some (.inl (x8)), some (.inl (x9)), none] [.inl (x7), .inl (x6), .inl (x5), .inl (x4), .inl (x3), rf 11 (0)] σ (w, σ') := h
              replace h := bh_I (ei_vh (as := [.inl (x7), .inl (x6), .inl (x5), .inl (x4), .inl (x3)]) h rfl rfl hb172_0 hb172) z130_at (Or.inl rfl)
              rcases h with ⟨v101, σ102, r103, f, g, h⟩ | ⟨b, σ102, r103, H, i, rr, e1, e2, e3, f, g, h⟩
              · skip
                clear g
                have p104 := x130 hs.1 r103
                have hsσ102 : HL σ102 := HL_r2 rfl r103 rfl hs
                refine Or.inl ⟨v101, σ102, gF_r r103 rfl hs, p104, ?_⟩
                replace h : EV F f 172 z172 106 [some (rf 11 (0)), some (.inl (x2)), some (.inl (x3)), some (.inl (x4)), some (.inl (x5)), some (.inl (x6)), some (.inl (x7)), some (.inl (x8)), some (.inl (x9)), none] [.inl (v101)] σ102 (w, σ') := h
                replace h := ei_p h rfl rfl rfl rfl
                obtain ⟨f, g, h⟩ := h
                clear g
                replace h : EV F f 172 z172 107 [some (rf 11 (0)), some (.inl (x2)), some (.inl (x3)), some (.inl (x4)), some (.inl (x5)), some (.inl (x6)), some (.inl (x7)), some (.inl (x8)), some (.inl (x9)), none] [.inr (.inl ((v101).toInt64))] σ102 (w, σ') := h
                replace h := ei_p h rfl rfl rfl rfl
                obtain ⟨f, g, h⟩ := h
                clear g
                replace h : EV F f 172 z172 396 [some (rf 11 (0)), some (.inl (x2)), some (.inl (x3)), some (.inl (x4)), some (.inl (x5)), some (.inl (x6)), some (.inl (x7)), some (.inl (x8)), some (.inl (x9)), none] [.inr (.inl ((v101).toInt64))] σ102 (w, σ') := h
                have e := ei_lret h rfl
                cases e
                exact ⟨rfl, rfl, hsσ102⟩
              · skip
                have p104 := x130 hs.1 r103
                have hsσ102 : HL σ102 := HL_r2 rfl r103 rfl hs
                have e := hx172 (Nat.lt_of_lt_of_le (by decide : 103 < 396) (Nat.le_refl _)) e1 e2 e3 h
                cases e
                exact Or.inr ⟨b, gF_r r103 rfl hs, p104, rfl, hsσ102⟩
          · skip
            replace hp5 : ¬ ((x2).toInt ≠ (4 : Int)) := (not_congr ic_ne).mp hp5
            refine Or.inr ⟨hp5, ?_⟩
            clear g
            replace h : EV F f 172 z172 80 [some (rf 11 (0)), some (.inl (x2)), some (.inl (x3)), some (.inl (x4)), some (.inl (x5)), some (.inl (x6)), some (.inl (x7)), some (.inl (x8)), some (.inl (x9)), none] [] σ (w, σ') := h
            replace h := ei_p h rfl rfl rfl rfl
            obtain ⟨f, g, h⟩ := h
            clear g
            replace h : EV F f 172 z172 81 [some (rf 11 (0)), some (.inl (x2)), some (.inl (x3)), some (.inl (x4)), some (.inl (x5)), some (.inl (x6)), some (.inl (x7)), some (.inl (x8)), some (.inl (x9)), none] [rf 11 (0)] σ (w, σ') := h
            replace h := ei_p h rfl rfl rfl rfl
            obtain ⟨f, g, h⟩ := h
            clear g
            replace h : EV F f 172 z172 82 [some (rf 11 (0)), some (.inl (x2)), some (.inl (x3)), some (.inl (x4)), some (.inl (x5)), some (.inl (x6)), some (.inl (x7)), some (.inl (x8)), some (.inl (x9)), none] [.inl (x3), rf 11 (0)] σ (w, σ') := h
            replace h := bh_I (ei_vh (as := [.inl (x3)]) h rfl rfl hb172_0 hb172) z129_at (Or.inl rfl)
            rcases h with ⟨v105, σ106, r107, f, g, h⟩ | ⟨b, σ106, r107, H, i, rr, e1, e2, e3, f, g, h⟩
            · skip
              clear g
              have p108 := x129 hs.1 r107
              have hsσ106 : HL σ106 := HL_r2 rfl r107 rfl hs
              refine Or.inl ⟨v105, σ106, gF_r r107 rfl hs, p108, ?_⟩
              replace h : EV F f 172 z172 85 [some (rf 11 (0)), some (.inl (x2)), some (.inl (x3)), some (.inl (x4)), some (.inl (x5)), some (.inl (x6)), some (.inl (x7)), some (.inl (x8)), some (.inl (x9)), none] [.inl (v105)] σ106 (w, σ') := h
              replace h := ei_p h rfl rfl rfl rfl
              obtain ⟨f, g, h⟩ := h
              clear g
              replace h : EV F f 172 z172 86 [some (rf 11 (0)), some (.inl (x2)), some (.inl (x3)), some (.inl (x4)), some (.inl (x5)), some (.inl (x6)), some (.inl (x7)), some (.inl (x8)), some (.inl (x9)), none] [.inr (.inl ((v105).toInt64))] σ106 (w, σ') := h
              replace h := ei_p h rfl rfl rfl rfl
              obtain ⟨f, g, h⟩ := h
              clear g
              replace h : EV F f 172 z172 396 [some (rf 11 (0)), some (.inl (x2)), some (.inl (x3)), some (.inl (x4)), some (.inl (x5)), some (.inl (x6)), some (.inl (x7)), some (.inl (x8)), some (.inl (x9)), none] [.inr (.inl ((v105).toInt64))] σ106 (w, σ') := h
              have e := ei_lret h rfl
              cases e
              exact ⟨rfl, rfl, hsσ106⟩
            · skip
              have p108 := x129 hs.1 r107
              have hsσ106 : HL σ106 := HL_r2 rfl r107 rfl hs
              have e := hx172 (Nat.lt_of_lt_of_le (by decide : 82 < 396) (Nat.le_refl _)) e1 e2 e3 h
              cases e
              exact Or.inr ⟨b, gF_r r107 rfl hs, p108, rfl, hsσ106⟩
        · skip
          replace hp4 : ¬ ((x2).toInt ≠ (3 : Int)) := (not_congr ic_ne).mp hp4
          refine Or.inr ⟨hp4, ?_⟩
          clear g
          replace h : EV F f 172 z172 57 [some (rf 11 (0)), some (.inl (x2)), some (.inl (x3)), some (.inl (x4)), some (.inl (x5)), some (.inl (x6)), some (.inl (x7)), some (.inl (x8)), some (.inl (x9)), none] [] σ (w, σ') := h
          replace h := ei_p h rfl rfl rfl rfl
          obtain ⟨f, g, h⟩ := h
          clear g
          replace h : EV F f 172 z172 58 [some (rf 11 (0)), some (.inl (x2)), some (.inl (x3)), some (.inl (x4)), some (.inl (x5)), some (.inl (x6)), some (.inl (x7)), some (.inl (x8)), some (.inl (x9)), none] [rf 11 (0)] σ (w, σ') := h
          replace h := ei_p h rfl rfl rfl rfl
          obtain ⟨f, g, h⟩ := h
          clear g
          replace h : EV F f 172 z172 59 [some (rf 11 (0)), some (.inl (x2)), some (.inl (x3)), some (.inl (x4)), some (.inl (x5)), some (.inl (x6)), some (.inl (x7)), some (.inl (x8)), some (.inl (x9)), none] [.inl (x3), rf 11 (0)] σ (w, σ') := h
          replace h := ei_p h rfl rfl rfl rfl
          obtain ⟨f, g, h⟩ := h
          clear g
          replace h : EV F f 172 z172 60 [some (rf 11 (0)), some (.inl (x2)), some (.inl (x3)), some (.inl (x4)), some (.inl (x5)), some (.inl (x6)), some (.inl (x7)), some (.inl (x8)), some (.inl (x9)), none] [.inl (x4), .inl (x3), rf 11 (0)] σ (w, σ') := h
          replace h := ei_p h rfl rfl rfl rfl
          obtain ⟨f, g, h⟩ := h
          clear g
          replace h : EV F f 172 z172 62 [some (rf 11 (0)), some (.inl (x2)), some (.inl (x3)), some (.inl (x4)), some (.inl (x5)), some (.inl (x6)), some (.inl (x7)), some (.inl (x8)), some (.inl (x9)), none] [.inl (x5), .inl (x4), .inl (x3), rf 11 (0)] σ (w, σ') := h
          replace h := ei_p h rfl rfl rfl rfl
          obtain ⟨f, g, h⟩ := h
          clear g
          replace h : EV F f 172 z172 64 [some (rf 11 (0)), some (.inl (x2)), some (.inl (x3)), some (.inl (x4)), some (.inl (x5)), some (.inl (x6)), some (.inl (x7)), some (.inl (x8)), some (.inl (x9)), none] [.inl (x6), .inl (x5), .inl (x4), .inl (x3), rf 11 (0)] σ (w, σ') := h
          replace h := ei_p h rfl rfl rfl rfl
          obtain ⟨f, g, h⟩ := h
          clear g
          replace h : EV F f 172 z172 66 [some (rf 11 (0)), some (.inl (x2)), some (.inl (x3)), some (.inl (x4)), some (.inl (x5)), some (.inl (x6)), some (.inl (x7)), some (.inl (x8)), some (.inl (x9)), none] [.inl (x7), .inl (x6), .inl (x5), .inl (x4), .inl (x3), rf 11 (0)] σ (w, σ') := h
          replace h := ei_p h rfl rfl rfl rfl
          obtain ⟨f, g, h⟩ := h
          clear g
          replace h : EV F f 172 z172 68 [some (rf 11 (0)), some (.inl (x2)), some (.inl (x3)), some (.inl (x4)), some (.inl (x5)), some (.inl (x6)), some (.inl (x7)), some (.inl (x8)), some (.inl (x9)), none] [.inl (x8), .inl (x7), .inl (x6), .inl (x5), .inl (x4), .inl (x3), rf 11 (0)] σ (w, σ') := h
          replace h := bh_I (ei_vh (as := [.inl (x8), .inl (x7), .inl (x6), .inl (x5), .inl (x4), .inl (x3)]) h rfl rfl hb172_0 hb172) z127_at (Or.inl rfl)
          rcases h with ⟨v109, σ110, r111, f, g, h⟩ | ⟨b, σ110, r111, H, i, rr, e1, e2, e3, f, g, h⟩
          · skip
            clear g
            have p112 := x127 hs.1 r111
            have hsσ110 : HL σ110 := HL_r2 rfl r111 rfl hs
            refine Or.inl ⟨v109, σ110, gF_r r111 rfl hs, p112, ?_⟩
            replace h : EV F f 172 z172 71 [some (rf 11 (0)), some (.inl (x2)), some (.inl (x3)), some (.inl (x4)), some (.inl (x5)), some (.inl (x6)), some (.inl (x7)), some (.inl (x8)), some (.inl (x9)), none] [.inl (v109)] σ110 (w, σ') := h
            replace h := ei_p h rfl rfl rfl rfl
            obtain ⟨f, g, h⟩ := h
            clear g
            replace h : EV F f 172 z172 72 [some (rf 11 (0)), some (.inl (x2)), some (.inl (x3)), some (.inl (x4)), some (.inl (x5)), some (.inl (x6)), some (.inl (x7)), some (.inl (x8)), some (.inl (x9)), none] [.inr (.inl ((v109).toInt64))] σ110 (w, σ') := h
            replace h := ei_p h rfl rfl rfl rfl
            obtain ⟨f, g, h⟩ := h
            clear g
            replace h : EV F f 172 z172 396 [some (rf 11 (0)), some (.inl (x2)), some (.inl (x3)), some (.inl (x4)), some (.inl (x5)), some (.inl (x6)), some (.inl (x7)), some (.inl (x8)), some (.inl (x9)), none] [.inr (.inl ((v109).toInt64))] σ110 (w, σ') := h
            have e := ei_lret h rfl
            cases e
            exact ⟨rfl, rfl, hsσ110⟩
          · skip
            have p112 := x127 hs.1 r111
            have hsσ110 : HL σ110 := HL_r2 rfl r111 rfl hs
            have e := hx172 (Nat.lt_of_lt_of_le (by decide : 68 < 396) (Nat.le_refl _)) e1 e2 e3 h
            cases e
            exact Or.inr ⟨b, gF_r r111 rfl hs, p112, rfl, hsσ110⟩
      · skip
        replace hp3 : ¬ ((x2).toInt ≠ (2 : Int)) := (not_congr ic_ne).mp hp3
        refine Or.inr ⟨hp3, ?_⟩
        clear g
        replace h : EV F f 172 z172 32 [some (rf 11 (0)), some (.inl (x2)), some (.inl (x3)), some (.inl (x4)), some (.inl (x5)), some (.inl (x6)), some (.inl (x7)), some (.inl (x8)), some (.inl (x9)), none] [] σ (w, σ') := h
        replace h := ei_p h rfl rfl rfl rfl
        obtain ⟨f, g, h⟩ := h
        clear g
        replace h : EV F f 172 z172 33 [some (rf 11 (0)), some (.inl (x2)), some (.inl (x3)), some (.inl (x4)), some (.inl (x5)), some (.inl (x6)), some (.inl (x7)), some (.inl (x8)), some (.inl (x9)), none] [rf 11 (0)] σ (w, σ') := h
        replace h := ei_p h rfl rfl rfl rfl
        obtain ⟨f, g, h⟩ := h
        clear g
        replace h : EV F f 172 z172 34 [some (rf 11 (0)), some (.inl (x2)), some (.inl (x3)), some (.inl (x4)), some (.inl (x5)), some (.inl (x6)), some (.inl (x7)), some (.inl (x8)), some (.inl (x9)), none] [.inl (x3), rf 11 (0)] σ (w, σ') := h
        replace h := ei_p h rfl rfl rfl rfl
        obtain ⟨f, g, h⟩ := h
        clear g
        replace h : EV F f 172 z172 35 [some (rf 11 (0)), some (.inl (x2)), some (.inl (x3)), some (.inl (x4)), some (.inl (x5)), some (.inl (x6)), some (.inl (x7)), some (.inl (x8)), some (.inl (x9)), none] [.inl (x4), .inl (x3), rf 11 (0)] σ (w, σ') := h
        replace h := ei_p h rfl rfl rfl rfl
        obtain ⟨f, g, h⟩ := h
        clear g
        replace h : EV F f 172 z172 37 [some (rf 11 (0)), some (.inl (x2)), some (.inl (x3)), some (.inl (x4)), some (.inl (x5)), some (.inl (x6)), some (.inl (x7)), some (.inl (x8)), some (.inl (x9)), none] [.inl (x5), .inl (x4), .inl (x3), rf 11 (0)] σ (w, σ') := h
        replace h := ei_p h rfl rfl rfl rfl
        obtain ⟨f, g, h⟩ := h
        clear g
        replace h : EV F f 172 z172 39 [some (rf 11 (0)), some (.inl (x2)), some (.inl (x3)), some (.inl (x4)), some (.inl (x5)), some (.inl (x6)), some (.inl (x7)), some (.inl (x8)), some (.inl (x9)), none] [.inl (x6), .inl (x5), .inl (x4), .inl (x3), rf 11 (0)] σ (w, σ') := h
        replace h := ei_p h rfl rfl rfl rfl
        obtain ⟨f, g, h⟩ := h
        clear g
        replace h : EV F f 172 z172 41 [some (rf 11 (0)), some (.inl (x2)), some (.inl (x3)), some (.inl (x4)), some (.inl (x5)), some (.inl (x6)), some (.inl (x7)), some (.inl (x8)), some (.inl (x9)), none] [.inl (x7), .inl (x6), .inl (x5), .inl (x4), .inl (x3), rf 11 (0)] σ (w, σ') := h
        replace h := ei_p h rfl rfl rfl rfl
        obtain ⟨f, g, h⟩ := h
        clear g
        replace h : EV F f 172 z172 43 [some (rf 11 (0)), some (.inl (x2)), some (.inl (x3)), some (.inl (x4)), some (.inl (x5)), some (.inl (x6)), some (.inl (x7)), some (.inl (x8)), some (.inl (x9)), none] [.inl (x8), .inl (x7), .inl (x6), .inl (x5), .inl (x4), .inl (x3), rf 11 (0)] σ (w, σ') := h
        replace h := ei_p h rfl rfl rfl rfl
        obtain ⟨f, g, h⟩ := h
        clear g
        replace h : EV F f 172 z172 45 [some (rf 11 (0)), some (.inl (x2)), some (.inl (x3)), some (.inl (x4)), some (.inl (x5)), some (.inl (x6)), some (.inl (x7)), some (.inl (x8)), some (.inl (x9)), none] [.inl (x9), .inl (x8), .inl (x7), .inl (x6), .inl (x5), .inl (x4), .inl (x3), rf 11 (0)] σ (w, σ') := h
        replace h := bh_I (ei_vh (as := [.inl (x9), .inl (x8), .inl (x7), .inl (x6), .inl (x5), .inl (x4), .inl (x3)]) h rfl rfl hb172_0 hb172) z126_at (Or.inl rfl)
        rcases h with ⟨v113, σ114, r115, f, g, h⟩ | ⟨b, σ114, r115, H, i, rr, e1, e2, e3, f, g, h⟩
        · skip
          clear g
          have p116 := x126 hs.1 r115
          have hsσ114 : HL σ114 := HL_r2 rfl r115 rfl hs
          refine Or.inl ⟨v113, σ114, gF_r r115 rfl hs, p116, ?_⟩
          replace h : EV F f 172 z172 48 [some (rf 11 (0)), some (.inl (x2)), some (.inl (x3)), some (.inl (x4)), some (.inl (x5)), some (.inl (x6)), some (.inl (x7)), some (.inl (x8)), some (.inl (x9)), none] [.inl (v113)] σ114 (w, σ') := h
          replace h := ei_p h rfl rfl rfl rfl
          obtain ⟨f, g, h⟩ := h
          clear g
          replace h : EV F f 172 z172 49 [some (rf 11 (0)), some (.inl (x2)), some (.inl (x3)), some (.inl (x4)), some (.inl (x5)), some (.inl (x6)), some (.inl (x7)), some (.inl (x8)), some (.inl (x9)), none] [.inr (.inl ((v113).toInt64))] σ114 (w, σ') := h
          replace h := ei_p h rfl rfl rfl rfl
          obtain ⟨f, g, h⟩ := h
          clear g
          replace h : EV F f 172 z172 396 [some (rf 11 (0)), some (.inl (x2)), some (.inl (x3)), some (.inl (x4)), some (.inl (x5)), some (.inl (x6)), some (.inl (x7)), some (.inl (x8)), some (.inl (x9)), none] [.inr (.inl ((v113).toInt64))] σ114 (w, σ') := h
          have e := ei_lret h rfl
          cases e
          exact ⟨rfl, rfl, hsσ114⟩
        · skip
          have p116 := x126 hs.1 r115
          have hsσ114 : HL σ114 := HL_r2 rfl r115 rfl hs
          have e := hx172 (Nat.lt_of_lt_of_le (by decide : 45 < 396) (Nat.le_refl _)) e1 e2 e3 h
          cases e
          exact Or.inr ⟨b, gF_r r115 rfl hs, p116, rfl, hsσ114⟩
    · skip
      replace hp2 : ¬ ((x2).toInt ≠ (1 : Int)) := (not_congr ic_ne).mp hp2
      refine Or.inr ⟨hp2, ?_⟩
      clear g
      replace h : EV F f 172 z172 18 [some (rf 11 (0)), some (.inl (x2)), some (.inl (x3)), some (.inl (x4)), some (.inl (x5)), some (.inl (x6)), some (.inl (x7)), some (.inl (x8)), some (.inl (x9)), none] [] σ (w, σ') := h
      replace h := ei_p h rfl rfl rfl rfl
      obtain ⟨f, g, h⟩ := h
      clear g
      replace h : EV F f 172 z172 19 [some (rf 11 (0)), some (.inl (x2)), some (.inl (x3)), some (.inl (x4)), some (.inl (x5)), some (.inl (x6)), some (.inl (x7)), some (.inl (x8)), some (.inl (x9)), none] [rf 11 (0)] σ (w, σ') := h
      replace h := ei_p h rfl rfl rfl rfl
      obtain ⟨f, g, h⟩ := h
      clear g
      replace h : EV F f 172 z172 20 [some (rf 11 (0)), some (.inl (x2)), some (.inl (x3)), some (.inl (x4)), some (.inl (x5)), some (.inl (x6)), some (.inl (x7)), some (.inl (x8)), some (.inl (x9)), none] [.inl (x3), rf 11 (0)] σ (w, σ') := h
      replace h := ei_p h rfl rfl rfl rfl
      obtain ⟨f, g, h⟩ := h
      clear g
      replace h : EV F f 172 z172 21 [some (rf 11 (0)), some (.inl (x2)), some (.inl (x3)), some (.inl (x4)), some (.inl (x5)), some (.inl (x6)), some (.inl (x7)), some (.inl (x8)), some (.inl (x9)), none] [.inl (x4), .inl (x3), rf 11 (0)] σ (w, σ') := h
      replace h := bh_L (ei_vh (as := [.inl (x4), .inl (x3)]) h rfl rfl hb172_0 hb172) z125_at rfl
      rcases h with ⟨v117, σ118, r119, f, g, h⟩ | ⟨b, σ118, r119, H, i, rr, e1, e2, e3, f, g, h⟩
      · skip
        clear g
        have p120 := x125 hs.1 r119
        have hsσ118 : HL σ118 := HL_r2 rfl r119 rfl hs
        refine Or.inl ⟨v117, σ118, gF_r r119 rfl hs, p120, ?_⟩
        replace h : EV F f 172 z172 24 [some (rf 11 (0)), some (.inl (x2)), some (.inl (x3)), some (.inl (x4)), some (.inl (x5)), some (.inl (x6)), some (.inl (x7)), some (.inl (x8)), some (.inl (x9)), none] [.inr (.inl (v117))] σ118 (w, σ') := h
        replace h := ei_p h rfl rfl rfl rfl
        obtain ⟨f, g, h⟩ := h
        clear g
        replace h : EV F f 172 z172 396 [some (rf 11 (0)), some (.inl (x2)), some (.inl (x3)), some (.inl (x4)), some (.inl (x5)), some (.inl (x6)), some (.inl (x7)), some (.inl (x8)), some (.inl (x9)), none] [.inr (.inl (v117))] σ118 (w, σ') := h
        have e := ei_lret h rfl
        cases e
        exact ⟨rfl, rfl, hsσ118⟩
      · skip
        have p120 := x125 hs.1 r119
        have hsσ118 : HL σ118 := HL_r2 rfl r119 rfl hs
        have e := hx172 (Nat.lt_of_lt_of_le (by decide : 21 < 396) (Nat.le_refl _)) e1 e2 e3 h
        cases e
        exact Or.inr ⟨b, gF_r r119 rfl hs, p120, rfl, hsσ118⟩
  · skip
    replace hp1 : ¬ ((x2).toInt ≠ (0 : Int)) := (not_congr ic_ne).mp hp1
    refine Or.inr ⟨hp1, ?_⟩
    clear g
    replace h : EV F f 172 z172 4 [some (rf 11 (0)), some (.inl (x2)), some (.inl (x3)), some (.inl (x4)), some (.inl (x5)), some (.inl (x6)), some (.inl (x7)), some (.inl (x8)), some (.inl (x9)), none] [] σ (w, σ') := h
    replace h := ei_p h rfl rfl rfl rfl
    obtain ⟨f, g, h⟩ := h
    clear g
    replace h : EV F f 172 z172 5 [some (rf 11 (0)), some (.inl (x2)), some (.inl (x3)), some (.inl (x4)), some (.inl (x5)), some (.inl (x6)), some (.inl (x7)), some (.inl (x8)), some (.inl (x9)), none] [rf 11 (0)] σ (w, σ') := h
    replace h := ei_p h rfl rfl rfl rfl
    obtain ⟨f, g, h⟩ := h
    clear g
    replace h : EV F f 172 z172 6 [some (rf 11 (0)), some (.inl (x2)), some (.inl (x3)), some (.inl (x4)), some (.inl (x5)), some (.inl (x6)), some (.inl (x7)), some (.inl (x8)), some (.inl (x9)), none] [.inl (x3), rf 11 (0)] σ (w, σ') := h
    replace h := ei_p h rfl rfl rfl rfl
    obtain ⟨f, g, h⟩ := h
    clear g
    replace h : EV F f 172 z172 7 [some (rf 11 (0)), some (.inl (x2)), some (.inl (x3)), some (.inl (x4)), some (.inl (x5)), some (.inl (x6)), some (.inl (x7)), some (.inl (x8)), some (.inl (x9)), none] [.inl (x4), .inl (x3), rf 11 (0)] σ (w, σ') := h
    replace h := bh_L (ei_vh (as := [.inl (x4), .inl (x3)]) h rfl rfl hb172_0 hb172) z124_at rfl
    rcases h with ⟨v121, σ122, r123, f, g, h⟩ | ⟨b, σ122, r123, H, i, rr, e1, e2, e3, f, g, h⟩
    · skip
      clear g
      have p124 := x124 hs.1 r123
      have hsσ122 : HL σ122 := HL_r2 rfl r123 rfl hs
      refine Or.inl ⟨v121, σ122, gF_r r123 rfl hs, p124, ?_⟩
      replace h : EV F f 172 z172 10 [some (rf 11 (0)), some (.inl (x2)), some (.inl (x3)), some (.inl (x4)), some (.inl (x5)), some (.inl (x6)), some (.inl (x7)), some (.inl (x8)), some (.inl (x9)), none] [.inr (.inl (v121))] σ122 (w, σ') := h
      replace h := ei_p h rfl rfl rfl rfl
      obtain ⟨f, g, h⟩ := h
      clear g
      replace h : EV F f 172 z172 396 [some (rf 11 (0)), some (.inl (x2)), some (.inl (x3)), some (.inl (x4)), some (.inl (x5)), some (.inl (x6)), some (.inl (x7)), some (.inl (x8)), some (.inl (x9)), none] [.inr (.inl (v121))] σ122 (w, σ') := h
      have e := ei_lret h rfl
      cases e
      exact ⟨rfl, rfl, hsσ122⟩
    · skip
      have p124 := x124 hs.1 r123
      have hsσ122 : HL σ122 := HL_r2 rfl r123 rfl hs
      have e := hx172 (Nat.lt_of_lt_of_le (by decide : 7 < 396) (Nat.le_refl _)) e1 e2 e3 h
      cases e
      exact Or.inr ⟨b, gF_r r123 rfl hs, p124, rfl, hsσ122⟩
theorem t172 {σ σ' : mS} {x2 x3 x4 x5 x6 x7 x8 x9 : Int32} {w : mX} (p : P172 σ x2 x3 x4 x5 x6 x7 x8 x9 w σ') : (∃ v : Int64, w = .inl (some (.inr (.inl v)))) ∧ HL σ' := by
  unfold P172 at p
  rcases p with ⟨_, p⟩ | ⟨_, p⟩
  rotate_left
  · rcases p with ⟨v, τ, _, _, hw, rfl, hl⟩ | ⟨b, _, _, hw, hl⟩
    · exact ⟨⟨_, hw⟩, hl⟩
    · exact ⟨⟨_, hw⟩, hl⟩
  rcases p with ⟨_, p⟩ | ⟨_, p⟩
  rotate_left
  · rcases p with ⟨v, τ, _, _, hw, rfl, hl⟩ | ⟨b, _, _, hw, hl⟩
    · exact ⟨⟨_, hw⟩, hl⟩
    · exact ⟨⟨_, hw⟩, hl⟩
  rcases p with ⟨_, p⟩ | ⟨_, p⟩
  rotate_left
  · rcases p with ⟨v, τ, _, _, hw, rfl, hl⟩ | ⟨b, _, _, hw, hl⟩
    · exact ⟨⟨_, hw⟩, hl⟩
    · exact ⟨⟨_, hw⟩, hl⟩
  rcases p with ⟨_, p⟩ | ⟨_, p⟩
  rotate_left
  · rcases p with ⟨v, τ, _, _, hw, rfl, hl⟩ | ⟨b, _, _, hw, hl⟩
    · exact ⟨⟨_, hw⟩, hl⟩
    · exact ⟨⟨_, hw⟩, hl⟩
  rcases p with ⟨_, p⟩ | ⟨_, p⟩
  rotate_left
  · rcases p with ⟨v, τ, _, _, hw, rfl, hl⟩ | ⟨b, _, _, hw, hl⟩
    · exact ⟨⟨_, hw⟩, hl⟩
    · exact ⟨⟨_, hw⟩, hl⟩
  rcases p with ⟨_, p⟩ | ⟨_, p⟩
  rotate_left
  · rcases p with ⟨v, τ, _, _, hw, rfl, hl⟩ | ⟨b, _, _, hw, hl⟩
    · exact ⟨⟨_, hw⟩, hl⟩
    · exact ⟨⟨_, hw⟩, hl⟩
  rcases p with ⟨_, p⟩ | ⟨_, p⟩
  rotate_left
  · rcases p with ⟨v, τ, _, _, hw, rfl, hl⟩ | ⟨b, _, _, hw, hl⟩
    · exact ⟨⟨_, hw⟩, hl⟩
    · exact ⟨⟨_, hw⟩, hl⟩
  rcases p with ⟨_, p⟩ | ⟨_, p⟩
  rotate_left
  · rcases p with ⟨v, τ, _, _, hw, rfl, hl⟩ | ⟨b, _, _, hw, hl⟩
    · exact ⟨⟨_, hw⟩, hl⟩
    · exact ⟨⟨_, hw⟩, hl⟩
  rcases p with ⟨_, p⟩ | ⟨_, p⟩
  rotate_left
  · rcases p with ⟨v, τ, _, _, hw, rfl, hl⟩ | ⟨b, _, _, hw, hl⟩
    · exact ⟨⟨_, hw⟩, hl⟩
    · exact ⟨⟨_, hw⟩, hl⟩
  rcases p with ⟨_, p⟩ | ⟨_, p⟩
  rotate_left
  · rcases p with ⟨v, τ, _, _, hw, rfl, hl⟩ | ⟨b, _, _, hw, hl⟩
    · exact ⟨⟨_, hw⟩, hl⟩
    · exact ⟨⟨_, hw⟩, hl⟩
  rcases p with ⟨_, p⟩ | ⟨_, p⟩
  rotate_left
  · rcases p with ⟨v, τ, _, _, hw, rfl, hl⟩ | ⟨b, _, _, hw, hl⟩
    · exact ⟨⟨_, hw⟩, hl⟩
    · exact ⟨⟨_, hw⟩, hl⟩
  rcases p with ⟨_, p⟩ | ⟨_, p⟩
  rotate_left
  · rcases p with ⟨v, τ, _, _, hw, rfl, hl⟩ | ⟨b, _, _, hw, hl⟩
    · exact ⟨⟨_, hw⟩, hl⟩
    · exact ⟨⟨_, hw⟩, hl⟩
  rcases p with ⟨_, p⟩ | ⟨_, p⟩
  rotate_left
  · rcases p with ⟨v, τ, _, _, hw, rfl, hl⟩ | ⟨b, _, _, hw, hl⟩
    · exact ⟨⟨_, hw⟩, hl⟩
    · exact ⟨⟨_, hw⟩, hl⟩
  rcases p with ⟨_, p⟩ | ⟨_, p⟩
  rotate_left
  · rcases p with ⟨v, τ, _, _, hw, rfl, hl⟩ | ⟨b, _, _, hw, hl⟩
    · exact ⟨⟨_, hw⟩, hl⟩
    · exact ⟨⟨_, hw⟩, hl⟩
  rcases p with ⟨_, p⟩ | ⟨_, p⟩
  rotate_left
  · rcases p with ⟨v, τ, _, _, hw, rfl, hl⟩ | ⟨b, _, _, hw, hl⟩
    · exact ⟨⟨_, hw⟩, hl⟩
    · exact ⟨⟨_, hw⟩, hl⟩
  rcases p with ⟨_, p⟩ | ⟨_, p⟩
  rotate_left
  · rcases p with ⟨v, τ, _, _, hw, rfl, hl⟩ | ⟨b, _, _, hw, hl⟩
    · exact ⟨⟨_, hw⟩, hl⟩
    · exact ⟨⟨_, hw⟩, hl⟩
  rcases p with ⟨_, p⟩ | ⟨_, p⟩
  rotate_left
  · rcases p with ⟨v, τ, _, _, hw, rfl, hl⟩ | ⟨b, _, _, hw, hl⟩
    · exact ⟨⟨_, hw⟩, hl⟩
    · exact ⟨⟨_, hw⟩, hl⟩
  rcases p with ⟨_, p⟩ | ⟨_, p⟩
  rotate_left
  · rcases p with ⟨v, τ, _, _, hw, rfl, hl⟩ | ⟨b, _, _, hw, hl⟩
    · exact ⟨⟨_, hw⟩, hl⟩
    · exact ⟨⟨_, hw⟩, hl⟩
  rcases p with ⟨_, p⟩ | ⟨_, p⟩
  rotate_left
  · rcases p with ⟨v, τ, _, _, hw, rfl, hl⟩ | ⟨b, _, _, hw, hl⟩
    · exact ⟨⟨_, hw⟩, hl⟩
    · exact ⟨⟨_, hw⟩, hl⟩
  rcases p with ⟨_, p⟩ | ⟨_, p⟩
  rotate_left
  · rcases p with ⟨v, τ, _, _, hw, rfl, hl⟩ | ⟨b, _, _, hw, hl⟩
    · exact ⟨⟨_, hw⟩, hl⟩
    · exact ⟨⟨_, hw⟩, hl⟩
  rcases p with ⟨_, p⟩ | ⟨_, p⟩
  rotate_left
  · rcases p with ⟨v, τ, _, _, hw, rfl, hl⟩ | ⟨b, _, _, hw, hl⟩
    · exact ⟨⟨_, hw⟩, hl⟩
    · exact ⟨⟨_, hw⟩, hl⟩
  rcases p with ⟨_, p⟩ | ⟨_, p⟩
  rotate_left
  · rcases p with ⟨v, τ, _, _, hw, rfl, hl⟩ | ⟨b, _, _, hw, hl⟩
    · exact ⟨⟨_, hw⟩, hl⟩
    · exact ⟨⟨_, hw⟩, hl⟩
  rcases p with ⟨_, p⟩ | ⟨_, p⟩
  rotate_left
  · rcases p with ⟨v, τ, _, _, hw, rfl, hl⟩ | ⟨b, _, _, hw, hl⟩
    · exact ⟨⟨_, hw⟩, hl⟩
    · exact ⟨⟨_, hw⟩, hl⟩
  rcases p with ⟨_, p⟩ | ⟨_, p⟩
  rotate_left
  · rcases p with ⟨v, τ, _, _, hw, rfl, hl⟩ | ⟨b, _, _, hw, hl⟩
    · exact ⟨⟨_, hw⟩, hl⟩
    · exact ⟨⟨_, hw⟩, hl⟩
  rcases p with ⟨v, τ, _, _, hw, rfl, hl⟩ | ⟨b, _, _, hw, hl⟩
  · exact ⟨⟨_, hw⟩, hl⟩
  · exact ⟨⟨_, hw⟩, hl⟩
theorem nt172 {σ σ' : mS} {x2 x3 x4 x5 x6 x7 x8 x9 : Int32} {b : Nat} (p : P172 σ x2 x3 x4 x5 x6 x7 x8 x9 (.inr b) σ') : False := by
  obtain ⟨v, e⟩ := (t172 p).1
  cases e
theorem hl172 {σ σ' : mS} {x2 x3 x4 x5 x6 x7 x8 x9 : Int32} {w : mX} (p : P172 σ x2 x3 x4 x5 x6 x7 x8 x9 w σ') : HL σ' := (t172 p).2
theorem d172_0 {σ σ' : mS} {x2 x3 x4 x5 x6 x7 x8 x9 : Int32} {w : Int64} (hk : x2.toInt = 0) (p : P172 σ x2 x3 x4 x5 x6 x7 x8 x9 (.inl (some (.inr (.inl w)))) σ') : ∃ y : mX, P124 σ x3 x4 y σ' ∧ gF σ σ' ∧ HL σ' ∧ w = dv y := by
  unfold P172 at p
  rcases p with ⟨z, _⟩ | ⟨_, p⟩
  · omega
  rcases p with ⟨v, τ, h1, h2, hw, rfl, hl⟩ | ⟨b, h1, h2, hw, hl⟩
  · cases hw
    exact ⟨_, h2, h1, hl, rfl⟩
  · cases hw
    exact ⟨_, h2, h1, hl, rfl⟩
theorem d172_1 {σ σ' : mS} {x2 x3 x4 x5 x6 x7 x8 x9 : Int32} {w : Int64} (hk : x2.toInt = 1) (p : P172 σ x2 x3 x4 x5 x6 x7 x8 x9 (.inl (some (.inr (.inl w)))) σ') : ∃ y : mX, P125 σ x3 x4 y σ' ∧ gF σ σ' ∧ HL σ' ∧ w = dv y := by
  unfold P172 at p
  rcases p with ⟨_, p⟩ | ⟨z, _⟩
  rotate_left
  · omega
  rcases p with ⟨z, _⟩ | ⟨_, p⟩
  · omega
  rcases p with ⟨v, τ, h1, h2, hw, rfl, hl⟩ | ⟨b, h1, h2, hw, hl⟩
  · cases hw
    exact ⟨_, h2, h1, hl, rfl⟩
  · cases hw
    exact ⟨_, h2, h1, hl, rfl⟩
theorem d172_2 {σ σ' : mS} {x2 x3 x4 x5 x6 x7 x8 x9 : Int32} {w : Int64} (hk : x2.toInt = 2) (p : P172 σ x2 x3 x4 x5 x6 x7 x8 x9 (.inl (some (.inr (.inl w)))) σ') : ∃ y : mX, P126 σ x3 x4 x5 x6 x7 x8 x9 y σ' ∧ gF σ σ' ∧ HL σ' ∧ w = dv y := by
  unfold P172 at p
  rcases p with ⟨_, p⟩ | ⟨z, _⟩
  rotate_left
  · omega
  rcases p with ⟨_, p⟩ | ⟨z, _⟩
  rotate_left
  · omega
  rcases p with ⟨z, _⟩ | ⟨_, p⟩
  · omega
  rcases p with ⟨v, τ, h1, h2, hw, rfl, hl⟩ | ⟨b, h1, h2, hw, hl⟩
  · cases hw
    exact ⟨_, h2, h1, hl, rfl⟩
  · cases hw
    exact ⟨_, h2, h1, hl, rfl⟩
theorem d172_3 {σ σ' : mS} {x2 x3 x4 x5 x6 x7 x8 x9 : Int32} {w : Int64} (hk : x2.toInt = 3) (p : P172 σ x2 x3 x4 x5 x6 x7 x8 x9 (.inl (some (.inr (.inl w)))) σ') : ∃ y : mX, P127 σ x3 x4 x5 x6 x7 x8 y σ' ∧ gF σ σ' ∧ HL σ' ∧ w = dv y := by
  unfold P172 at p
  rcases p with ⟨_, p⟩ | ⟨z, _⟩
  rotate_left
  · omega
  rcases p with ⟨_, p⟩ | ⟨z, _⟩
  rotate_left
  · omega
  rcases p with ⟨_, p⟩ | ⟨z, _⟩
  rotate_left
  · omega
  rcases p with ⟨z, _⟩ | ⟨_, p⟩
  · omega
  rcases p with ⟨v, τ, h1, h2, hw, rfl, hl⟩ | ⟨b, h1, h2, hw, hl⟩
  · cases hw
    exact ⟨_, h2, h1, hl, rfl⟩
  · cases hw
    exact ⟨_, h2, h1, hl, rfl⟩
theorem d172_4 {σ σ' : mS} {x2 x3 x4 x5 x6 x7 x8 x9 : Int32} {w : Int64} (hk : x2.toInt = 4) (p : P172 σ x2 x3 x4 x5 x6 x7 x8 x9 (.inl (some (.inr (.inl w)))) σ') : ∃ y : mX, P129 σ x3 y σ' ∧ gF σ σ' ∧ HL σ' ∧ w = dv y := by
  unfold P172 at p
  rcases p with ⟨_, p⟩ | ⟨z, _⟩
  rotate_left
  · omega
  rcases p with ⟨_, p⟩ | ⟨z, _⟩
  rotate_left
  · omega
  rcases p with ⟨_, p⟩ | ⟨z, _⟩
  rotate_left
  · omega
  rcases p with ⟨_, p⟩ | ⟨z, _⟩
  rotate_left
  · omega
  rcases p with ⟨z, _⟩ | ⟨_, p⟩
  · omega
  rcases p with ⟨v, τ, h1, h2, hw, rfl, hl⟩ | ⟨b, h1, h2, hw, hl⟩
  · cases hw
    exact ⟨_, h2, h1, hl, rfl⟩
  · cases hw
    exact ⟨_, h2, h1, hl, rfl⟩
theorem d172_5 {σ σ' : mS} {x2 x3 x4 x5 x6 x7 x8 x9 : Int32} {w : Int64} (hk : x2.toInt = 5) (p : P172 σ x2 x3 x4 x5 x6 x7 x8 x9 (.inl (some (.inr (.inl w)))) σ') : ∃ y : mX, P130 σ x3 x4 x5 x6 x7 y σ' ∧ gF σ σ' ∧ HL σ' ∧ w = dv y := by
  unfold P172 at p
  rcases p with ⟨_, p⟩ | ⟨z, _⟩
  rotate_left
  · omega
  rcases p with ⟨_, p⟩ | ⟨z, _⟩
  rotate_left
  · omega
  rcases p with ⟨_, p⟩ | ⟨z, _⟩
  rotate_left
  · omega
  rcases p with ⟨_, p⟩ | ⟨z, _⟩
  rotate_left
  · omega
  rcases p with ⟨_, p⟩ | ⟨z, _⟩
  rotate_left
  · omega
  rcases p with ⟨z, _⟩ | ⟨_, p⟩
  · omega
  rcases p with ⟨v, τ, h1, h2, hw, rfl, hl⟩ | ⟨b, h1, h2, hw, hl⟩
  · cases hw
    exact ⟨_, h2, h1, hl, rfl⟩
  · cases hw
    exact ⟨_, h2, h1, hl, rfl⟩
theorem d172_6 {σ σ' : mS} {x2 x3 x4 x5 x6 x7 x8 x9 : Int32} {w : Int64} (hk : x2.toInt = 6) (p : P172 σ x2 x3 x4 x5 x6 x7 x8 x9 (.inl (some (.inr (.inl w)))) σ') : ∃ y : mX, P134 σ x3 x4 y σ' ∧ gF σ σ' ∧ HL σ' ∧ w = dv y := by
  unfold P172 at p
  rcases p with ⟨_, p⟩ | ⟨z, _⟩
  rotate_left
  · omega
  rcases p with ⟨_, p⟩ | ⟨z, _⟩
  rotate_left
  · omega
  rcases p with ⟨_, p⟩ | ⟨z, _⟩
  rotate_left
  · omega
  rcases p with ⟨_, p⟩ | ⟨z, _⟩
  rotate_left
  · omega
  rcases p with ⟨_, p⟩ | ⟨z, _⟩
  rotate_left
  · omega
  rcases p with ⟨_, p⟩ | ⟨z, _⟩
  rotate_left
  · omega
  rcases p with ⟨z, _⟩ | ⟨_, p⟩
  · omega
  rcases p with ⟨v, τ, h1, h2, hw, rfl, hl⟩ | ⟨b, h1, h2, hw, hl⟩
  · cases hw
    exact ⟨_, h2, h1, hl, rfl⟩
  · cases hw
    exact ⟨_, h2, h1, hl, rfl⟩
theorem d172_7 {σ σ' : mS} {x2 x3 x4 x5 x6 x7 x8 x9 : Int32} {w : Int64} (hk : x2.toInt = 7) (p : P172 σ x2 x3 x4 x5 x6 x7 x8 x9 (.inl (some (.inr (.inl w)))) σ') : ∃ y : mX, P137 σ x3 y σ' ∧ gF σ σ' ∧ HL σ' ∧ w = dv y := by
  unfold P172 at p
  rcases p with ⟨_, p⟩ | ⟨z, _⟩
  rotate_left
  · omega
  rcases p with ⟨_, p⟩ | ⟨z, _⟩
  rotate_left
  · omega
  rcases p with ⟨_, p⟩ | ⟨z, _⟩
  rotate_left
  · omega
  rcases p with ⟨_, p⟩ | ⟨z, _⟩
  rotate_left
  · omega
  rcases p with ⟨_, p⟩ | ⟨z, _⟩
  rotate_left
  · omega
  rcases p with ⟨_, p⟩ | ⟨z, _⟩
  rotate_left
  · omega
  rcases p with ⟨_, p⟩ | ⟨z, _⟩
  rotate_left
  · omega
  rcases p with ⟨z, _⟩ | ⟨_, p⟩
  · omega
  rcases p with ⟨v, τ, h1, h2, hw, rfl, hl⟩ | ⟨b, h1, h2, hw, hl⟩
  · cases hw
    exact ⟨_, h2, h1, hl, rfl⟩
  · cases hw
    exact ⟨_, h2, h1, hl, rfl⟩
theorem d172_8 {σ σ' : mS} {x2 x3 x4 x5 x6 x7 x8 x9 : Int32} {w : Int64} (hk : x2.toInt = 8) (p : P172 σ x2 x3 x4 x5 x6 x7 x8 x9 (.inl (some (.inr (.inl w)))) σ') : ∃ y : mX, P138 σ x3 x4 y σ' ∧ gF σ σ' ∧ HL σ' ∧ w = dv y := by
  unfold P172 at p
  rcases p with ⟨_, p⟩ | ⟨z, _⟩
  rotate_left
  · omega
  rcases p with ⟨_, p⟩ | ⟨z, _⟩
  rotate_left
  · omega
  rcases p with ⟨_, p⟩ | ⟨z, _⟩
  rotate_left
  · omega
  rcases p with ⟨_, p⟩ | ⟨z, _⟩
  rotate_left
  · omega
  rcases p with ⟨_, p⟩ | ⟨z, _⟩
  rotate_left
  · omega
  rcases p with ⟨_, p⟩ | ⟨z, _⟩
  rotate_left
  · omega
  rcases p with ⟨_, p⟩ | ⟨z, _⟩
  rotate_left
  · omega
  rcases p with ⟨_, p⟩ | ⟨z, _⟩
  rotate_left
  · omega
  rcases p with ⟨z, _⟩ | ⟨_, p⟩
  · omega
  rcases p with ⟨v, τ, h1, h2, hw, rfl, hl⟩ | ⟨b, h1, h2, hw, hl⟩
  · cases hw
    exact ⟨_, h2, h1, hl, rfl⟩
  · cases hw
    exact ⟨_, h2, h1, hl, rfl⟩
theorem d172_9 {σ σ' : mS} {x2 x3 x4 x5 x6 x7 x8 x9 : Int32} {w : Int64} (hk : x2.toInt = 9) (p : P172 σ x2 x3 x4 x5 x6 x7 x8 x9 (.inl (some (.inr (.inl w)))) σ') : ∃ y : mX, P139 σ x3 x4 y σ' ∧ gF σ σ' ∧ HL σ' ∧ w = dv y := by
  unfold P172 at p
  rcases p with ⟨_, p⟩ | ⟨z, _⟩
  rotate_left
  · omega
  rcases p with ⟨_, p⟩ | ⟨z, _⟩
  rotate_left
  · omega
  rcases p with ⟨_, p⟩ | ⟨z, _⟩
  rotate_left
  · omega
  rcases p with ⟨_, p⟩ | ⟨z, _⟩
  rotate_left
  · omega
  rcases p with ⟨_, p⟩ | ⟨z, _⟩
  rotate_left
  · omega
  rcases p with ⟨_, p⟩ | ⟨z, _⟩
  rotate_left
  · omega
  rcases p with ⟨_, p⟩ | ⟨z, _⟩
  rotate_left
  · omega
  rcases p with ⟨_, p⟩ | ⟨z, _⟩
  rotate_left
  · omega
  rcases p with ⟨_, p⟩ | ⟨z, _⟩
  rotate_left
  · omega
  rcases p with ⟨z, _⟩ | ⟨_, p⟩
  · omega
  rcases p with ⟨v, τ, h1, h2, hw, rfl, hl⟩ | ⟨b, h1, h2, hw, hl⟩
  · cases hw
    exact ⟨_, h2, h1, hl, rfl⟩
  · cases hw
    exact ⟨_, h2, h1, hl, rfl⟩
theorem d172_10 {σ σ' : mS} {x2 x3 x4 x5 x6 x7 x8 x9 : Int32} {w : Int64} (hk : x2.toInt = 10) (p : P172 σ x2 x3 x4 x5 x6 x7 x8 x9 (.inl (some (.inr (.inl w)))) σ') : ∃ y : mX, P146 σ x3 x4 x5 y σ' ∧ gF σ σ' ∧ HL σ' ∧ w = dv y := by
  unfold P172 at p
  rcases p with ⟨_, p⟩ | ⟨z, _⟩
  rotate_left
  · omega
  rcases p with ⟨_, p⟩ | ⟨z, _⟩
  rotate_left
  · omega
  rcases p with ⟨_, p⟩ | ⟨z, _⟩
  rotate_left
  · omega
  rcases p with ⟨_, p⟩ | ⟨z, _⟩
  rotate_left
  · omega
  rcases p with ⟨_, p⟩ | ⟨z, _⟩
  rotate_left
  · omega
  rcases p with ⟨_, p⟩ | ⟨z, _⟩
  rotate_left
  · omega
  rcases p with ⟨_, p⟩ | ⟨z, _⟩
  rotate_left
  · omega
  rcases p with ⟨_, p⟩ | ⟨z, _⟩
  rotate_left
  · omega
  rcases p with ⟨_, p⟩ | ⟨z, _⟩
  rotate_left
  · omega
  rcases p with ⟨_, p⟩ | ⟨z, _⟩
  rotate_left
  · omega
  rcases p with ⟨z, _⟩ | ⟨_, p⟩
  · omega
  rcases p with ⟨v, τ, h1, h2, hw, rfl, hl⟩ | ⟨b, h1, h2, hw, hl⟩
  · cases hw
    exact ⟨_, h2, h1, hl, rfl⟩
  · cases hw
    exact ⟨_, h2, h1, hl, rfl⟩
theorem d172_11 {σ σ' : mS} {x2 x3 x4 x5 x6 x7 x8 x9 : Int32} {w : Int64} (hk : x2.toInt = 11) (p : P172 σ x2 x3 x4 x5 x6 x7 x8 x9 (.inl (some (.inr (.inl w)))) σ') : ∃ y : mX, P150 σ x3 y σ' ∧ gF σ σ' ∧ HL σ' ∧ w = dv y := by
  unfold P172 at p
  rcases p with ⟨_, p⟩ | ⟨z, _⟩
  rotate_left
  · omega
  rcases p with ⟨_, p⟩ | ⟨z, _⟩
  rotate_left
  · omega
  rcases p with ⟨_, p⟩ | ⟨z, _⟩
  rotate_left
  · omega
  rcases p with ⟨_, p⟩ | ⟨z, _⟩
  rotate_left
  · omega
  rcases p with ⟨_, p⟩ | ⟨z, _⟩
  rotate_left
  · omega
  rcases p with ⟨_, p⟩ | ⟨z, _⟩
  rotate_left
  · omega
  rcases p with ⟨_, p⟩ | ⟨z, _⟩
  rotate_left
  · omega
  rcases p with ⟨_, p⟩ | ⟨z, _⟩
  rotate_left
  · omega
  rcases p with ⟨_, p⟩ | ⟨z, _⟩
  rotate_left
  · omega
  rcases p with ⟨_, p⟩ | ⟨z, _⟩
  rotate_left
  · omega
  rcases p with ⟨_, p⟩ | ⟨z, _⟩
  rotate_left
  · omega
  rcases p with ⟨z, _⟩ | ⟨_, p⟩
  · omega
  rcases p with ⟨v, τ, h1, h2, hw, rfl, hl⟩ | ⟨b, h1, h2, hw, hl⟩
  · cases hw
    exact ⟨_, h2, h1, hl, rfl⟩
  · cases hw
    exact ⟨_, h2, h1, hl, rfl⟩
theorem d172_12 {σ σ' : mS} {x2 x3 x4 x5 x6 x7 x8 x9 : Int32} {w : Int64} (hk : x2.toInt = 12) (p : P172 σ x2 x3 x4 x5 x6 x7 x8 x9 (.inl (some (.inr (.inl w)))) σ') : ∃ y : mX, P151 σ x3 x4 x5 y σ' ∧ gF σ σ' ∧ HL σ' ∧ w = dv y := by
  unfold P172 at p
  rcases p with ⟨_, p⟩ | ⟨z, _⟩
  rotate_left
  · omega
  rcases p with ⟨_, p⟩ | ⟨z, _⟩
  rotate_left
  · omega
  rcases p with ⟨_, p⟩ | ⟨z, _⟩
  rotate_left
  · omega
  rcases p with ⟨_, p⟩ | ⟨z, _⟩
  rotate_left
  · omega
  rcases p with ⟨_, p⟩ | ⟨z, _⟩
  rotate_left
  · omega
  rcases p with ⟨_, p⟩ | ⟨z, _⟩
  rotate_left
  · omega
  rcases p with ⟨_, p⟩ | ⟨z, _⟩
  rotate_left
  · omega
  rcases p with ⟨_, p⟩ | ⟨z, _⟩
  rotate_left
  · omega
  rcases p with ⟨_, p⟩ | ⟨z, _⟩
  rotate_left
  · omega
  rcases p with ⟨_, p⟩ | ⟨z, _⟩
  rotate_left
  · omega
  rcases p with ⟨_, p⟩ | ⟨z, _⟩
  rotate_left
  · omega
  rcases p with ⟨_, p⟩ | ⟨z, _⟩
  rotate_left
  · omega
  rcases p with ⟨z, _⟩ | ⟨_, p⟩
  · omega
  rcases p with ⟨v, τ, h1, h2, hw, rfl, hl⟩ | ⟨b, h1, h2, hw, hl⟩
  · cases hw
    exact ⟨_, h2, h1, hl, rfl⟩
  · cases hw
    exact ⟨_, h2, h1, hl, rfl⟩
theorem d172_13 {σ σ' : mS} {x2 x3 x4 x5 x6 x7 x8 x9 : Int32} {w : Int64} (hk : x2.toInt = 13) (p : P172 σ x2 x3 x4 x5 x6 x7 x8 x9 (.inl (some (.inr (.inl w)))) σ') : ∃ y : mX, P152 σ  y σ' ∧ gF σ σ' ∧ HL σ' ∧ w = dv y := by
  unfold P172 at p
  rcases p with ⟨_, p⟩ | ⟨z, _⟩
  rotate_left
  · omega
  rcases p with ⟨_, p⟩ | ⟨z, _⟩
  rotate_left
  · omega
  rcases p with ⟨_, p⟩ | ⟨z, _⟩
  rotate_left
  · omega
  rcases p with ⟨_, p⟩ | ⟨z, _⟩
  rotate_left
  · omega
  rcases p with ⟨_, p⟩ | ⟨z, _⟩
  rotate_left
  · omega
  rcases p with ⟨_, p⟩ | ⟨z, _⟩
  rotate_left
  · omega
  rcases p with ⟨_, p⟩ | ⟨z, _⟩
  rotate_left
  · omega
  rcases p with ⟨_, p⟩ | ⟨z, _⟩
  rotate_left
  · omega
  rcases p with ⟨_, p⟩ | ⟨z, _⟩
  rotate_left
  · omega
  rcases p with ⟨_, p⟩ | ⟨z, _⟩
  rotate_left
  · omega
  rcases p with ⟨_, p⟩ | ⟨z, _⟩
  rotate_left
  · omega
  rcases p with ⟨_, p⟩ | ⟨z, _⟩
  rotate_left
  · omega
  rcases p with ⟨_, p⟩ | ⟨z, _⟩
  rotate_left
  · omega
  rcases p with ⟨z, _⟩ | ⟨_, p⟩
  · omega
  rcases p with ⟨v, τ, h1, h2, hw, rfl, hl⟩ | ⟨b, h1, h2, hw, hl⟩
  · cases hw
    exact ⟨_, h2, h1, hl, rfl⟩
  · cases hw
    exact ⟨_, h2, h1, hl, rfl⟩
theorem d172_14 {σ σ' : mS} {x2 x3 x4 x5 x6 x7 x8 x9 : Int32} {w : Int64} (hk : x2.toInt = 14) (p : P172 σ x2 x3 x4 x5 x6 x7 x8 x9 (.inl (some (.inr (.inl w)))) σ') : ∃ y : mX, P153 σ x3 y σ' ∧ gF σ σ' ∧ HL σ' ∧ w = dv y := by
  unfold P172 at p
  rcases p with ⟨_, p⟩ | ⟨z, _⟩
  rotate_left
  · omega
  rcases p with ⟨_, p⟩ | ⟨z, _⟩
  rotate_left
  · omega
  rcases p with ⟨_, p⟩ | ⟨z, _⟩
  rotate_left
  · omega
  rcases p with ⟨_, p⟩ | ⟨z, _⟩
  rotate_left
  · omega
  rcases p with ⟨_, p⟩ | ⟨z, _⟩
  rotate_left
  · omega
  rcases p with ⟨_, p⟩ | ⟨z, _⟩
  rotate_left
  · omega
  rcases p with ⟨_, p⟩ | ⟨z, _⟩
  rotate_left
  · omega
  rcases p with ⟨_, p⟩ | ⟨z, _⟩
  rotate_left
  · omega
  rcases p with ⟨_, p⟩ | ⟨z, _⟩
  rotate_left
  · omega
  rcases p with ⟨_, p⟩ | ⟨z, _⟩
  rotate_left
  · omega
  rcases p with ⟨_, p⟩ | ⟨z, _⟩
  rotate_left
  · omega
  rcases p with ⟨_, p⟩ | ⟨z, _⟩
  rotate_left
  · omega
  rcases p with ⟨_, p⟩ | ⟨z, _⟩
  rotate_left
  · omega
  rcases p with ⟨_, p⟩ | ⟨z, _⟩
  rotate_left
  · omega
  rcases p with ⟨z, _⟩ | ⟨_, p⟩
  · omega
  rcases p with ⟨v, τ, h1, h2, hw, rfl, hl⟩ | ⟨b, h1, h2, hw, hl⟩
  · cases hw
    exact ⟨_, h2, h1, hl, rfl⟩
  · cases hw
    exact ⟨_, h2, h1, hl, rfl⟩
theorem d172_15 {σ σ' : mS} {x2 x3 x4 x5 x6 x7 x8 x9 : Int32} {w : Int64} (hk : x2.toInt = 15) (p : P172 σ x2 x3 x4 x5 x6 x7 x8 x9 (.inl (some (.inr (.inl w)))) σ') : ∃ y : mX, P154 σ x3 y σ' ∧ gF σ σ' ∧ HL σ' ∧ w = dv y := by
  unfold P172 at p
  rcases p with ⟨_, p⟩ | ⟨z, _⟩
  rotate_left
  · omega
  rcases p with ⟨_, p⟩ | ⟨z, _⟩
  rotate_left
  · omega
  rcases p with ⟨_, p⟩ | ⟨z, _⟩
  rotate_left
  · omega
  rcases p with ⟨_, p⟩ | ⟨z, _⟩
  rotate_left
  · omega
  rcases p with ⟨_, p⟩ | ⟨z, _⟩
  rotate_left
  · omega
  rcases p with ⟨_, p⟩ | ⟨z, _⟩
  rotate_left
  · omega
  rcases p with ⟨_, p⟩ | ⟨z, _⟩
  rotate_left
  · omega
  rcases p with ⟨_, p⟩ | ⟨z, _⟩
  rotate_left
  · omega
  rcases p with ⟨_, p⟩ | ⟨z, _⟩
  rotate_left
  · omega
  rcases p with ⟨_, p⟩ | ⟨z, _⟩
  rotate_left
  · omega
  rcases p with ⟨_, p⟩ | ⟨z, _⟩
  rotate_left
  · omega
  rcases p with ⟨_, p⟩ | ⟨z, _⟩
  rotate_left
  · omega
  rcases p with ⟨_, p⟩ | ⟨z, _⟩
  rotate_left
  · omega
  rcases p with ⟨_, p⟩ | ⟨z, _⟩
  rotate_left
  · omega
  rcases p with ⟨_, p⟩ | ⟨z, _⟩
  rotate_left
  · omega
  rcases p with ⟨z, _⟩ | ⟨_, p⟩
  · omega
  rcases p with ⟨v, τ, h1, h2, hw, rfl, hl⟩ | ⟨b, h1, h2, hw, hl⟩
  · cases hw
    exact ⟨_, h2, h1, hl, rfl⟩
  · cases hw
    exact ⟨_, h2, h1, hl, rfl⟩
theorem d172_16 {σ σ' : mS} {x2 x3 x4 x5 x6 x7 x8 x9 : Int32} {w : Int64} (hk : x2.toInt = 16) (p : P172 σ x2 x3 x4 x5 x6 x7 x8 x9 (.inl (some (.inr (.inl w)))) σ') : ∃ y : mX, P155 σ x3 y σ' ∧ gF σ σ' ∧ HL σ' ∧ w = dv y := by
  unfold P172 at p
  rcases p with ⟨_, p⟩ | ⟨z, _⟩
  rotate_left
  · omega
  rcases p with ⟨_, p⟩ | ⟨z, _⟩
  rotate_left
  · omega
  rcases p with ⟨_, p⟩ | ⟨z, _⟩
  rotate_left
  · omega
  rcases p with ⟨_, p⟩ | ⟨z, _⟩
  rotate_left
  · omega
  rcases p with ⟨_, p⟩ | ⟨z, _⟩
  rotate_left
  · omega
  rcases p with ⟨_, p⟩ | ⟨z, _⟩
  rotate_left
  · omega
  rcases p with ⟨_, p⟩ | ⟨z, _⟩
  rotate_left
  · omega
  rcases p with ⟨_, p⟩ | ⟨z, _⟩
  rotate_left
  · omega
  rcases p with ⟨_, p⟩ | ⟨z, _⟩
  rotate_left
  · omega
  rcases p with ⟨_, p⟩ | ⟨z, _⟩
  rotate_left
  · omega
  rcases p with ⟨_, p⟩ | ⟨z, _⟩
  rotate_left
  · omega
  rcases p with ⟨_, p⟩ | ⟨z, _⟩
  rotate_left
  · omega
  rcases p with ⟨_, p⟩ | ⟨z, _⟩
  rotate_left
  · omega
  rcases p with ⟨_, p⟩ | ⟨z, _⟩
  rotate_left
  · omega
  rcases p with ⟨_, p⟩ | ⟨z, _⟩
  rotate_left
  · omega
  rcases p with ⟨_, p⟩ | ⟨z, _⟩
  rotate_left
  · omega
  rcases p with ⟨z, _⟩ | ⟨_, p⟩
  · omega
  rcases p with ⟨v, τ, h1, h2, hw, rfl, hl⟩ | ⟨b, h1, h2, hw, hl⟩
  · cases hw
    exact ⟨_, h2, h1, hl, rfl⟩
  · cases hw
    exact ⟨_, h2, h1, hl, rfl⟩
theorem d172_17 {σ σ' : mS} {x2 x3 x4 x5 x6 x7 x8 x9 : Int32} {w : Int64} (hk : x2.toInt = 17) (p : P172 σ x2 x3 x4 x5 x6 x7 x8 x9 (.inl (some (.inr (.inl w)))) σ') : ∃ y : mX, P131 σ x3 y σ' ∧ gF σ σ' ∧ HL σ' ∧ w = dv y := by
  unfold P172 at p
  rcases p with ⟨_, p⟩ | ⟨z, _⟩
  rotate_left
  · omega
  rcases p with ⟨_, p⟩ | ⟨z, _⟩
  rotate_left
  · omega
  rcases p with ⟨_, p⟩ | ⟨z, _⟩
  rotate_left
  · omega
  rcases p with ⟨_, p⟩ | ⟨z, _⟩
  rotate_left
  · omega
  rcases p with ⟨_, p⟩ | ⟨z, _⟩
  rotate_left
  · omega
  rcases p with ⟨_, p⟩ | ⟨z, _⟩
  rotate_left
  · omega
  rcases p with ⟨_, p⟩ | ⟨z, _⟩
  rotate_left
  · omega
  rcases p with ⟨_, p⟩ | ⟨z, _⟩
  rotate_left
  · omega
  rcases p with ⟨_, p⟩ | ⟨z, _⟩
  rotate_left
  · omega
  rcases p with ⟨_, p⟩ | ⟨z, _⟩
  rotate_left
  · omega
  rcases p with ⟨_, p⟩ | ⟨z, _⟩
  rotate_left
  · omega
  rcases p with ⟨_, p⟩ | ⟨z, _⟩
  rotate_left
  · omega
  rcases p with ⟨_, p⟩ | ⟨z, _⟩
  rotate_left
  · omega
  rcases p with ⟨_, p⟩ | ⟨z, _⟩
  rotate_left
  · omega
  rcases p with ⟨_, p⟩ | ⟨z, _⟩
  rotate_left
  · omega
  rcases p with ⟨_, p⟩ | ⟨z, _⟩
  rotate_left
  · omega
  rcases p with ⟨_, p⟩ | ⟨z, _⟩
  rotate_left
  · omega
  rcases p with ⟨z, _⟩ | ⟨_, p⟩
  · omega
  rcases p with ⟨v, τ, h1, h2, hw, rfl, hl⟩ | ⟨b, h1, h2, hw, hl⟩
  · cases hw
    exact ⟨_, h2, h1, hl, rfl⟩
  · cases hw
    exact ⟨_, h2, h1, hl, rfl⟩
theorem d172_18 {σ σ' : mS} {x2 x3 x4 x5 x6 x7 x8 x9 : Int32} {w : Int64} (hk : x2.toInt = 18) (p : P172 σ x2 x3 x4 x5 x6 x7 x8 x9 (.inl (some (.inr (.inl w)))) σ') : ∃ y : mX, P142 σ x3 x4 y σ' ∧ gF σ σ' ∧ HL σ' ∧ w = dv y := by
  unfold P172 at p
  rcases p with ⟨_, p⟩ | ⟨z, _⟩
  rotate_left
  · omega
  rcases p with ⟨_, p⟩ | ⟨z, _⟩
  rotate_left
  · omega
  rcases p with ⟨_, p⟩ | ⟨z, _⟩
  rotate_left
  · omega
  rcases p with ⟨_, p⟩ | ⟨z, _⟩
  rotate_left
  · omega
  rcases p with ⟨_, p⟩ | ⟨z, _⟩
  rotate_left
  · omega
  rcases p with ⟨_, p⟩ | ⟨z, _⟩
  rotate_left
  · omega
  rcases p with ⟨_, p⟩ | ⟨z, _⟩
  rotate_left
  · omega
  rcases p with ⟨_, p⟩ | ⟨z, _⟩
  rotate_left
  · omega
  rcases p with ⟨_, p⟩ | ⟨z, _⟩
  rotate_left
  · omega
  rcases p with ⟨_, p⟩ | ⟨z, _⟩
  rotate_left
  · omega
  rcases p with ⟨_, p⟩ | ⟨z, _⟩
  rotate_left
  · omega
  rcases p with ⟨_, p⟩ | ⟨z, _⟩
  rotate_left
  · omega
  rcases p with ⟨_, p⟩ | ⟨z, _⟩
  rotate_left
  · omega
  rcases p with ⟨_, p⟩ | ⟨z, _⟩
  rotate_left
  · omega
  rcases p with ⟨_, p⟩ | ⟨z, _⟩
  rotate_left
  · omega
  rcases p with ⟨_, p⟩ | ⟨z, _⟩
  rotate_left
  · omega
  rcases p with ⟨_, p⟩ | ⟨z, _⟩
  rotate_left
  · omega
  rcases p with ⟨_, p⟩ | ⟨z, _⟩
  rotate_left
  · omega
  rcases p with ⟨z, _⟩ | ⟨_, p⟩
  · omega
  rcases p with ⟨v, τ, h1, h2, hw, rfl, hl⟩ | ⟨b, h1, h2, hw, hl⟩
  · cases hw
    exact ⟨_, h2, h1, hl, rfl⟩
  · cases hw
    exact ⟨_, h2, h1, hl, rfl⟩
theorem d172_19 {σ σ' : mS} {x2 x3 x4 x5 x6 x7 x8 x9 : Int32} {w : Int64} (hk : x2.toInt = 19) (p : P172 σ x2 x3 x4 x5 x6 x7 x8 x9 (.inl (some (.inr (.inl w)))) σ') : ∃ y : mX, P144 σ x3 x4 y σ' ∧ gF σ σ' ∧ HL σ' ∧ w = dv y := by
  unfold P172 at p
  rcases p with ⟨_, p⟩ | ⟨z, _⟩
  rotate_left
  · omega
  rcases p with ⟨_, p⟩ | ⟨z, _⟩
  rotate_left
  · omega
  rcases p with ⟨_, p⟩ | ⟨z, _⟩
  rotate_left
  · omega
  rcases p with ⟨_, p⟩ | ⟨z, _⟩
  rotate_left
  · omega
  rcases p with ⟨_, p⟩ | ⟨z, _⟩
  rotate_left
  · omega
  rcases p with ⟨_, p⟩ | ⟨z, _⟩
  rotate_left
  · omega
  rcases p with ⟨_, p⟩ | ⟨z, _⟩
  rotate_left
  · omega
  rcases p with ⟨_, p⟩ | ⟨z, _⟩
  rotate_left
  · omega
  rcases p with ⟨_, p⟩ | ⟨z, _⟩
  rotate_left
  · omega
  rcases p with ⟨_, p⟩ | ⟨z, _⟩
  rotate_left
  · omega
  rcases p with ⟨_, p⟩ | ⟨z, _⟩
  rotate_left
  · omega
  rcases p with ⟨_, p⟩ | ⟨z, _⟩
  rotate_left
  · omega
  rcases p with ⟨_, p⟩ | ⟨z, _⟩
  rotate_left
  · omega
  rcases p with ⟨_, p⟩ | ⟨z, _⟩
  rotate_left
  · omega
  rcases p with ⟨_, p⟩ | ⟨z, _⟩
  rotate_left
  · omega
  rcases p with ⟨_, p⟩ | ⟨z, _⟩
  rotate_left
  · omega
  rcases p with ⟨_, p⟩ | ⟨z, _⟩
  rotate_left
  · omega
  rcases p with ⟨_, p⟩ | ⟨z, _⟩
  rotate_left
  · omega
  rcases p with ⟨_, p⟩ | ⟨z, _⟩
  rotate_left
  · omega
  rcases p with ⟨z, _⟩ | ⟨_, p⟩
  · omega
  rcases p with ⟨v, τ, h1, h2, hw, rfl, hl⟩ | ⟨b, h1, h2, hw, hl⟩
  · cases hw
    exact ⟨_, h2, h1, hl, rfl⟩
  · cases hw
    exact ⟨_, h2, h1, hl, rfl⟩
theorem d172_20 {σ σ' : mS} {x2 x3 x4 x5 x6 x7 x8 x9 : Int32} {w : Int64} (hk : x2.toInt = 20) (p : P172 σ x2 x3 x4 x5 x6 x7 x8 x9 (.inl (some (.inr (.inl w)))) σ') : ∃ y : mX, P145 σ x3 x4 y σ' ∧ gF σ σ' ∧ HL σ' ∧ w = dv y := by
  unfold P172 at p
  rcases p with ⟨_, p⟩ | ⟨z, _⟩
  rotate_left
  · omega
  rcases p with ⟨_, p⟩ | ⟨z, _⟩
  rotate_left
  · omega
  rcases p with ⟨_, p⟩ | ⟨z, _⟩
  rotate_left
  · omega
  rcases p with ⟨_, p⟩ | ⟨z, _⟩
  rotate_left
  · omega
  rcases p with ⟨_, p⟩ | ⟨z, _⟩
  rotate_left
  · omega
  rcases p with ⟨_, p⟩ | ⟨z, _⟩
  rotate_left
  · omega
  rcases p with ⟨_, p⟩ | ⟨z, _⟩
  rotate_left
  · omega
  rcases p with ⟨_, p⟩ | ⟨z, _⟩
  rotate_left
  · omega
  rcases p with ⟨_, p⟩ | ⟨z, _⟩
  rotate_left
  · omega
  rcases p with ⟨_, p⟩ | ⟨z, _⟩
  rotate_left
  · omega
  rcases p with ⟨_, p⟩ | ⟨z, _⟩
  rotate_left
  · omega
  rcases p with ⟨_, p⟩ | ⟨z, _⟩
  rotate_left
  · omega
  rcases p with ⟨_, p⟩ | ⟨z, _⟩
  rotate_left
  · omega
  rcases p with ⟨_, p⟩ | ⟨z, _⟩
  rotate_left
  · omega
  rcases p with ⟨_, p⟩ | ⟨z, _⟩
  rotate_left
  · omega
  rcases p with ⟨_, p⟩ | ⟨z, _⟩
  rotate_left
  · omega
  rcases p with ⟨_, p⟩ | ⟨z, _⟩
  rotate_left
  · omega
  rcases p with ⟨_, p⟩ | ⟨z, _⟩
  rotate_left
  · omega
  rcases p with ⟨_, p⟩ | ⟨z, _⟩
  rotate_left
  · omega
  rcases p with ⟨_, p⟩ | ⟨z, _⟩
  rotate_left
  · omega
  rcases p with ⟨z, _⟩ | ⟨_, p⟩
  · omega
  rcases p with ⟨v, τ, h1, h2, hw, rfl, hl⟩ | ⟨b, h1, h2, hw, hl⟩
  · cases hw
    exact ⟨_, h2, h1, hl, rfl⟩
  · cases hw
    exact ⟨_, h2, h1, hl, rfl⟩
theorem d172_21 {σ σ' : mS} {x2 x3 x4 x5 x6 x7 x8 x9 : Int32} {w : Int64} (hk : x2.toInt = 21) (p : P172 σ x2 x3 x4 x5 x6 x7 x8 x9 (.inl (some (.inr (.inl w)))) σ') : ∃ y : mX, P149 σ x3 y σ' ∧ gF σ σ' ∧ HL σ' ∧ w = dv y := by
  unfold P172 at p
  rcases p with ⟨_, p⟩ | ⟨z, _⟩
  rotate_left
  · omega
  rcases p with ⟨_, p⟩ | ⟨z, _⟩
  rotate_left
  · omega
  rcases p with ⟨_, p⟩ | ⟨z, _⟩
  rotate_left
  · omega
  rcases p with ⟨_, p⟩ | ⟨z, _⟩
  rotate_left
  · omega
  rcases p with ⟨_, p⟩ | ⟨z, _⟩
  rotate_left
  · omega
  rcases p with ⟨_, p⟩ | ⟨z, _⟩
  rotate_left
  · omega
  rcases p with ⟨_, p⟩ | ⟨z, _⟩
  rotate_left
  · omega
  rcases p with ⟨_, p⟩ | ⟨z, _⟩
  rotate_left
  · omega
  rcases p with ⟨_, p⟩ | ⟨z, _⟩
  rotate_left
  · omega
  rcases p with ⟨_, p⟩ | ⟨z, _⟩
  rotate_left
  · omega
  rcases p with ⟨_, p⟩ | ⟨z, _⟩
  rotate_left
  · omega
  rcases p with ⟨_, p⟩ | ⟨z, _⟩
  rotate_left
  · omega
  rcases p with ⟨_, p⟩ | ⟨z, _⟩
  rotate_left
  · omega
  rcases p with ⟨_, p⟩ | ⟨z, _⟩
  rotate_left
  · omega
  rcases p with ⟨_, p⟩ | ⟨z, _⟩
  rotate_left
  · omega
  rcases p with ⟨_, p⟩ | ⟨z, _⟩
  rotate_left
  · omega
  rcases p with ⟨_, p⟩ | ⟨z, _⟩
  rotate_left
  · omega
  rcases p with ⟨_, p⟩ | ⟨z, _⟩
  rotate_left
  · omega
  rcases p with ⟨_, p⟩ | ⟨z, _⟩
  rotate_left
  · omega
  rcases p with ⟨_, p⟩ | ⟨z, _⟩
  rotate_left
  · omega
  rcases p with ⟨_, p⟩ | ⟨z, _⟩
  rotate_left
  · omega
  rcases p with ⟨z, _⟩ | ⟨_, p⟩
  · omega
  rcases p with ⟨v, τ, h1, h2, hw, rfl, hl⟩ | ⟨b, h1, h2, hw, hl⟩
  · cases hw
    exact ⟨_, h2, h1, hl, rfl⟩
  · cases hw
    exact ⟨_, h2, h1, hl, rfl⟩
theorem d172_22 {σ σ' : mS} {x2 x3 x4 x5 x6 x7 x8 x9 : Int32} {w : Int64} (hk : x2.toInt = 22) (p : P172 σ x2 x3 x4 x5 x6 x7 x8 x9 (.inl (some (.inr (.inl w)))) σ') : ∃ y : mX, P133 σ x3 x4 x5 y σ' ∧ gF σ σ' ∧ HL σ' ∧ w = dv y := by
  unfold P172 at p
  rcases p with ⟨_, p⟩ | ⟨z, _⟩
  rotate_left
  · omega
  rcases p with ⟨_, p⟩ | ⟨z, _⟩
  rotate_left
  · omega
  rcases p with ⟨_, p⟩ | ⟨z, _⟩
  rotate_left
  · omega
  rcases p with ⟨_, p⟩ | ⟨z, _⟩
  rotate_left
  · omega
  rcases p with ⟨_, p⟩ | ⟨z, _⟩
  rotate_left
  · omega
  rcases p with ⟨_, p⟩ | ⟨z, _⟩
  rotate_left
  · omega
  rcases p with ⟨_, p⟩ | ⟨z, _⟩
  rotate_left
  · omega
  rcases p with ⟨_, p⟩ | ⟨z, _⟩
  rotate_left
  · omega
  rcases p with ⟨_, p⟩ | ⟨z, _⟩
  rotate_left
  · omega
  rcases p with ⟨_, p⟩ | ⟨z, _⟩
  rotate_left
  · omega
  rcases p with ⟨_, p⟩ | ⟨z, _⟩
  rotate_left
  · omega
  rcases p with ⟨_, p⟩ | ⟨z, _⟩
  rotate_left
  · omega
  rcases p with ⟨_, p⟩ | ⟨z, _⟩
  rotate_left
  · omega
  rcases p with ⟨_, p⟩ | ⟨z, _⟩
  rotate_left
  · omega
  rcases p with ⟨_, p⟩ | ⟨z, _⟩
  rotate_left
  · omega
  rcases p with ⟨_, p⟩ | ⟨z, _⟩
  rotate_left
  · omega
  rcases p with ⟨_, p⟩ | ⟨z, _⟩
  rotate_left
  · omega
  rcases p with ⟨_, p⟩ | ⟨z, _⟩
  rotate_left
  · omega
  rcases p with ⟨_, p⟩ | ⟨z, _⟩
  rotate_left
  · omega
  rcases p with ⟨_, p⟩ | ⟨z, _⟩
  rotate_left
  · omega
  rcases p with ⟨_, p⟩ | ⟨z, _⟩
  rotate_left
  · omega
  rcases p with ⟨_, p⟩ | ⟨z, _⟩
  rotate_left
  · omega
  rcases p with ⟨z, _⟩ | ⟨_, p⟩
  · omega
  rcases p with ⟨v, τ, h1, h2, hw, rfl, hl⟩ | ⟨b, h1, h2, hw, hl⟩
  · cases hw
    exact ⟨_, h2, h1, hl, rfl⟩
  · cases hw
    exact ⟨_, h2, h1, hl, rfl⟩
theorem d172_23 {σ σ' : mS} {x2 x3 x4 x5 x6 x7 x8 x9 : Int32} {w : Int64} (hk : x2.toInt = 23) (p : P172 σ x2 x3 x4 x5 x6 x7 x8 x9 (.inl (some (.inr (.inl w)))) σ') : ∃ y : mX, P132 σ x3 x4 y σ' ∧ gF σ σ' ∧ HL σ' ∧ w = dv y := by
  unfold P172 at p
  rcases p with ⟨_, p⟩ | ⟨z, _⟩
  rotate_left
  · omega
  rcases p with ⟨_, p⟩ | ⟨z, _⟩
  rotate_left
  · omega
  rcases p with ⟨_, p⟩ | ⟨z, _⟩
  rotate_left
  · omega
  rcases p with ⟨_, p⟩ | ⟨z, _⟩
  rotate_left
  · omega
  rcases p with ⟨_, p⟩ | ⟨z, _⟩
  rotate_left
  · omega
  rcases p with ⟨_, p⟩ | ⟨z, _⟩
  rotate_left
  · omega
  rcases p with ⟨_, p⟩ | ⟨z, _⟩
  rotate_left
  · omega
  rcases p with ⟨_, p⟩ | ⟨z, _⟩
  rotate_left
  · omega
  rcases p with ⟨_, p⟩ | ⟨z, _⟩
  rotate_left
  · omega
  rcases p with ⟨_, p⟩ | ⟨z, _⟩
  rotate_left
  · omega
  rcases p with ⟨_, p⟩ | ⟨z, _⟩
  rotate_left
  · omega
  rcases p with ⟨_, p⟩ | ⟨z, _⟩
  rotate_left
  · omega
  rcases p with ⟨_, p⟩ | ⟨z, _⟩
  rotate_left
  · omega
  rcases p with ⟨_, p⟩ | ⟨z, _⟩
  rotate_left
  · omega
  rcases p with ⟨_, p⟩ | ⟨z, _⟩
  rotate_left
  · omega
  rcases p with ⟨_, p⟩ | ⟨z, _⟩
  rotate_left
  · omega
  rcases p with ⟨_, p⟩ | ⟨z, _⟩
  rotate_left
  · omega
  rcases p with ⟨_, p⟩ | ⟨z, _⟩
  rotate_left
  · omega
  rcases p with ⟨_, p⟩ | ⟨z, _⟩
  rotate_left
  · omega
  rcases p with ⟨_, p⟩ | ⟨z, _⟩
  rotate_left
  · omega
  rcases p with ⟨_, p⟩ | ⟨z, _⟩
  rotate_left
  · omega
  rcases p with ⟨_, p⟩ | ⟨z, _⟩
  rotate_left
  · omega
  rcases p with ⟨_, p⟩ | ⟨z, _⟩
  rotate_left
  · omega
  rcases p with ⟨z, _⟩ | ⟨_, p⟩
  · omega
  rcases p with ⟨v, τ, h1, h2, hw, rfl, hl⟩ | ⟨b, h1, h2, hw, hl⟩
  · cases hw
    exact ⟨_, h2, h1, hl, rfl⟩
  · cases hw
    exact ⟨_, h2, h1, hl, rfl⟩
theorem d172_24 {σ σ' : mS} {x2 x3 x4 x5 x6 x7 x8 x9 : Int32} {w : Int64} (hk : x2.toInt = 24) (p : P172 σ x2 x3 x4 x5 x6 x7 x8 x9 (.inl (some (.inr (.inl w)))) σ') : ∃ y : mX, P140 σ x3 y σ' ∧ gF σ σ' ∧ HL σ' ∧ w = dv y := by
  unfold P172 at p
  rcases p with ⟨_, p⟩ | ⟨z, _⟩
  rotate_left
  · omega
  rcases p with ⟨_, p⟩ | ⟨z, _⟩
  rotate_left
  · omega
  rcases p with ⟨_, p⟩ | ⟨z, _⟩
  rotate_left
  · omega
  rcases p with ⟨_, p⟩ | ⟨z, _⟩
  rotate_left
  · omega
  rcases p with ⟨_, p⟩ | ⟨z, _⟩
  rotate_left
  · omega
  rcases p with ⟨_, p⟩ | ⟨z, _⟩
  rotate_left
  · omega
  rcases p with ⟨_, p⟩ | ⟨z, _⟩
  rotate_left
  · omega
  rcases p with ⟨_, p⟩ | ⟨z, _⟩
  rotate_left
  · omega
  rcases p with ⟨_, p⟩ | ⟨z, _⟩
  rotate_left
  · omega
  rcases p with ⟨_, p⟩ | ⟨z, _⟩
  rotate_left
  · omega
  rcases p with ⟨_, p⟩ | ⟨z, _⟩
  rotate_left
  · omega
  rcases p with ⟨_, p⟩ | ⟨z, _⟩
  rotate_left
  · omega
  rcases p with ⟨_, p⟩ | ⟨z, _⟩
  rotate_left
  · omega
  rcases p with ⟨_, p⟩ | ⟨z, _⟩
  rotate_left
  · omega
  rcases p with ⟨_, p⟩ | ⟨z, _⟩
  rotate_left
  · omega
  rcases p with ⟨_, p⟩ | ⟨z, _⟩
  rotate_left
  · omega
  rcases p with ⟨_, p⟩ | ⟨z, _⟩
  rotate_left
  · omega
  rcases p with ⟨_, p⟩ | ⟨z, _⟩
  rotate_left
  · omega
  rcases p with ⟨_, p⟩ | ⟨z, _⟩
  rotate_left
  · omega
  rcases p with ⟨_, p⟩ | ⟨z, _⟩
  rotate_left
  · omega
  rcases p with ⟨_, p⟩ | ⟨z, _⟩
  rotate_left
  · omega
  rcases p with ⟨_, p⟩ | ⟨z, _⟩
  rotate_left
  · omega
  rcases p with ⟨_, p⟩ | ⟨z, _⟩
  rotate_left
  · omega
  rcases p with ⟨_, p⟩ | ⟨z, _⟩
  rotate_left
  · omega
  rcases p with ⟨v, τ, h1, h2, hw, rfl, hl⟩ | ⟨b, h1, h2, hw, hl⟩
  · cases hw
    exact ⟨_, h2, h1, hl, rfl⟩
  · cases hw
    exact ⟨_, h2, h1, hl, rfl⟩
