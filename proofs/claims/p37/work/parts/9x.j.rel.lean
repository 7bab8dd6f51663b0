/-! the law's methods as relations: isInstrument -/
def z187 : mAl := ((yL_isInstrument, cL_isInstrument, 14, (some .boolean), { frames := 10, cells := 2300, slots := 20700, locals := 261 }, []), rw_L_isInstrument, false)
theorem z187_at : m_alF[187]? = some z187 := rfl
def J187_658 (u11 : Int64) (τ : mS) (w : mX) (σ' : mS) : Prop := (((u11).toInt ≠ (Int64.ofInt (-2000000000)).toInt ∧ w = .inl (some (.inl (Int32.ofInt 0))) ∧ σ' = τ) ∨ (¬ ((u11).toInt ≠ (Int64.ofInt (-2000000000)).toInt) ∧ w = .inl (some (.inl (Int32.ofInt 1))) ∧ σ' = τ))
set_option maxRecDepth 100000 in
theorem j187_658 {F f : Nat} {σ' τ : mS} {u11 : Int64} {y0 : Option mV} {y1 : Option mV} {y2 : Option mV} {y3 : Option mV} {y4 : Option mV} {y5 : Option mV} {y6 : Option mV} {y7 : Option mV} {y8 : Option mV} {y9 : Option mV} {y10 : Option mV} {y13 : Option mV} {w : mX} (hsτ : HL τ) (h : EV F f 187 z187 658 [y0, y1, y2, y3, y4, y5, y6, y7, y8, y9, y10, some (.inr (.inl (u11))), none, y13] [] τ (w, σ')) : J187_658 u11 τ w σ' := by
  unfold J187_658
  replace h := ei_p h rfl rfl rfl rfl
  obtain ⟨f, g, h⟩ := h
  clear g
  replace h : EV F f 187 z187 660 [y0, y1, y2, y3, y4, y5, y6, y7, y8, y9, y10, some (.inr (.inl (u11))), none, y13] [.inr (.inl (u11))] τ (w, σ') := h
  replace h := ei_p h rfl rfl rfl rfl
  obtain ⟨f, g, h⟩ := h
  clear g
  replace h : EV F f 187 z187 663 [y0, y1, y2, y3, y4, y5, y6, y7, y8, y9, y10, some (.inr (.inl (u11))), none, y13] [.inr (.inl (Int64.ofInt (-2000000000))), .inr (.inl (u11))] τ (w, σ') := h
  replace h := ei_p h rfl rfl rfl rfl
  obtain ⟨f, g, h⟩ := h
  clear g
  replace h : EV F f 187 z187 664 [y0, y1, y2, y3, y4, y5, y6, y7, y8, y9, y10, some (.inr (.inl (u11))), none, y13] [.inl (lg_cmp (u11) (Int64.ofInt (-2000000000)))] τ (w, σ') := h
  replace h := ei_c h rfl rfl rfl
  rcases h with ⟨hp1, f, g, h⟩ | ⟨hp1, f, g, h⟩
  · skip
    replace hp1 : (u11).toInt ≠ (Int64.ofInt (-2000000000)).toInt := (ab_lc .ne _ _).mp hp1
    refine Or.inl ⟨hp1, ?_⟩
    clear g
    replace h : EV F f 187 z187 671 [y0, y1, y2, y3, y4, y5, y6, y7, y8, y9, y10, some (.inr (.inl (u11))), none, y13] [] τ (w, σ') := h
    replace h := ei_p h rfl rfl rfl rfl
    obtain ⟨f, g, h⟩ := h
    clear g
    replace h : EV F f 187 z187 672 [y0, y1, y2, y3, y4, y5, y6, y7, y8, y9, y10, some (.inr (.inl (u11))), none, y13] [.inl (Int32.ofInt 0)] τ (w, σ') := h
    replace h := ei_p h rfl rfl rfl rfl
    obtain ⟨f, g, h⟩ := h
    clear g
    replace h : EV F f 187 z187 688 [y0, y1, y2, y3, y4, y5, y6, y7, y8, y9, y10, some (.inr (.inl (u11))), none, y13] [.inl (Int32.ofInt 0)] τ (w, σ') := h
    have e := ei_iret h rfl
    cases e
    exact ⟨rfl, rfl⟩
  · skip
    replace hp1 : ¬ ((u11).toInt ≠ (Int64.ofInt (-2000000000)).toInt) := (not_congr (ab_lc .ne _ _)).mp hp1
    refine Or.inr ⟨hp1, ?_⟩
    clear g
    replace h : EV F f 187 z187 667 [y0, y1, y2, y3, y4, y5, y6, y7, y8, y9, y10, some (.inr (.inl (u11))), none, y13] [] τ (w, σ') := h
    replace h := ei_p h rfl rfl rfl rfl
    obtain ⟨f, g, h⟩ := h
    clear g
    replace h : EV F f 187 z187 668 [y0, y1, y2, y3, y4, y5, y6, y7, y8, y9, y10, some (.inr (.inl (u11))), none, y13] [.inl (Int32.ofInt 1)] τ (w, σ') := h
    replace h := ei_p h rfl rfl rfl rfl
    obtain ⟨f, g, h⟩ := h
    clear g
    replace h : EV F f 187 z187 688 [y0, y1, y2, y3, y4, y5, y6, y7, y8, y9, y10, some (.inr (.inl (u11))), none, y13] [.inl (Int32.ofInt 1)] τ (w, σ') := h
    have e := ei_iret h rfl
    cases e
    exact ⟨rfl, rfl⟩
def J187_604 (u7 : Int32) (u8 : Int32) (u9 : Int64) (τ : mS) (w : mX) (σ' : mS) : Prop := ∃ v1 σ2, gF τ σ2 ∧ HL σ2 ∧ P172 τ (Int32.ofInt 9) (u7) (u8) (Int32.ofInt 0) (Int32.ofInt 0) (Int32.ofInt 0) (Int32.ofInt 0) (Int32.ofInt 0) (.inl (some (.inr (.inl v1)))) σ2 ∧ (((u7).toInt ≠ (3 : Int) ∧ (((u8).toInt < (1 : Int) ∧ J187_658 (v1) σ2 w σ') ∨ (¬ ((u8).toInt < (1 : Int)) ∧ (((u8).toInt ≤ (1000 : Int) ∧ (((v1).toInt ≠ (u9).toInt ∧ w = .inl (some (.inl (Int32.ofInt 0))) ∧ σ' = σ2) ∨ (¬ ((v1).toInt ≠ (u9).toInt) ∧ w = .inl (some (.inl (Int32.ofInt 1))) ∧ σ' = σ2))) ∨ (¬ ((u8).toInt ≤ (1000 : Int)) ∧ J187_658 (v1) σ2 w σ'))))) ∨ (¬ ((u7).toInt ≠ (3 : Int)) ∧ (((v1).toInt ≠ (Int64.ofInt (-3000000000)).toInt ∧ w = .inl (some (.inl (Int32.ofInt 0))) ∧ σ' = σ2) ∨ (¬ ((v1).toInt ≠ (Int64.ofInt (-3000000000)).toInt) ∧ w = .inl (some (.inl (Int32.ofInt 1))) ∧ σ' = σ2))))
set_option maxRecDepth 100000 in
theorem j187_604 {F f : Nat} {σ' τ : mS} {u7 : Int32} {u8 : Int32} {u9 : Int64} {y1 : Option mV} {y2 : Option mV} {y3 : Option mV} {y4 : Option mV} {y5 : Option mV} {y6 : Option mV} {y11 : Option mV} {y12 : Option mV} {y13 : Option mV} {w : mX} (hsτ : HL τ) (h : EV F f 187 z187 604 [some (rf 11 (0)), y1, y2, y3, y4, y5, y6, some (.inl (u7)), some (.inl (u8)), some (.inr (.inl (u9))), none, y11, y12, y13] [] τ (w, σ')) : J187_604 u7 u8 u9 τ w σ' := by
  unfold J187_604
  replace h := ei_p h rfl rfl rfl rfl
  obtain ⟨f, g, h⟩ := h
  clear g
  replace h : EV F f 187 z187 605 [some (rf 11 (0)), y1, y2, y3, y4, y5, y6, some (.inl (u7)), some (.inl (u8)), some (.inr (.inl (u9))), none, y11, y12, y13] [rf 11 (0)] τ (w, σ') := h
  replace h := ei_p h rfl rfl rfl rfl
  obtain ⟨f, g, h⟩ := h
  clear g
  replace h : EV F f 187 z187 607 [some (rf 11 (0)), y1, y2, y3, y4, y5, y6, some (.inl (u7)), some (.inl (u8)), some (.inr (.inl (u9))), none, y11, y12, y13] [.inl (Int32.ofInt 9), rf 11 (0)] τ (w, σ') := h
  replace h := ei_p h rfl rfl rfl rfl
  obtain ⟨f, g, h⟩ := h
  clear g
  replace h : EV F f 187 z187 609 [some (rf 11 (0)), y1, y2, y3, y4, y5, y6, some (.inl (u7)), some (.inl (u8)), some (.inr (.inl (u9))), none, y11, y12, y13] [.inl (u7), .inl (Int32.ofInt 9), rf 11 (0)] τ (w, σ') := h
  replace h := ei_p h rfl rfl rfl rfl
  obtain ⟨f, g, h⟩ := h
  clear g
  replace h : EV F f 187 z187 611 [some (rf 11 (0)), y1, y2, y3, y4, y5, y6, some (.inl (u7)), some (.inl (u8)), some (.inr (.inl (u9))), none, y11, y12, y13] [.inl (u8), .inl (u7), .inl (Int32.ofInt 9), rf 11 (0)] τ (w, σ') := h
  replace h := ei_p h rfl rfl rfl rfl
  obtain ⟨f, g, h⟩ := h
  clear g
  replace h : EV F f 187 z187 612 [some (rf 11 (0)), y1, y2, y3, y4, y5, y6, some (.inl (u7)), some (.inl (u8)), some (.inr (.inl (u9))), none, y11, y12, y13] [.inl (Int32.ofInt 0), .inl (u8), .inl (u7), .inl (Int32.ofInt 9), rf 11 (0)] τ (w, σ') := h
  replace h := ei_p h rfl rfl rfl rfl
  obtain ⟨f, g, h⟩ := h
  clear g
  replace h : EV F f 187 z187 613 [some (rf 11 (0)), y1, y2, y3, y4, y5, y6, some (.inl (u7)), some (.inl (u8)), some (.inr (.inl (u9))), none, y11, y12, y13] [.inl (Int32.ofInt 0), .inl (Int32.ofInt 0), .inl (u8), .inl (u7), .inl (Int32.ofInt 9), rf 11 (0)] τ (w, σ') := h
  replace h := ei_p h rfl rfl rfl rfl
  obtain ⟨f, g, h⟩ := h
  clear g
  replace h : EV F f 187 z187 614 [some (rf 11 (0)), y1, y2, y3, y4, y5, y6, some (.inl (u7)), some (.inl (u8)), some (.inr (.inl (u9))), none, y11, y12, y13] [.inl (Int32.ofInt 0), .inl (Int32.ofInt 0), .inl (Int32.ofInt 0), .inl (u8), .inl (u7), .inl (Int32.ofInt 9), rf 11 (0)] τ (w, σ') := h
  replace h := ei_p h rfl rfl rfl rfl
  obtain ⟨f, g, h⟩ := h
  clear g
  replace h : EV F f 187 z187 615 [some (rf 11 (0)), y1, y2, y3, y4, y5, y6, some (.inl (u7)), some (.inl (u8)), some (.inr (.inl (u9))), none, y11, y12, y13] [.inl (Int32.ofInt 0), .inl (Int32.ofInt 0), .inl (Int32.ofInt 0), .inl (Int32.ofInt 0), .inl (u8), .inl (u7), .inl (Int32.ofInt 9), rf 11 (0)] τ (w, σ') := h
  replace h := ei_p h rfl rfl rfl rfl
  obtain ⟨f, g, h⟩ := h
  clear g
  replace h : EV F f 187 z187 616 [some (rf 11 (0)), y1, y2, y3, y4, y5, y6, some (.inl (u7)), some (.inl (u8)), some (.inr (.inl (u9))), none, y11, y12, y13] [.inl (Int32.ofInt 0), .inl (Int32.ofInt 0), .inl (Int32.ofInt 0), .inl (Int32.ofInt 0), .inl (Int32.ofInt 0), .inl (u8), .inl (u7), .inl (Int32.ofInt 9), rf 11 (0)] τ (w, σ') := h
  replace h := bx_L (ei_s (as := [.inl (Int32.ofInt 0), .inl (Int32.ofInt 0), .inl (Int32.ofInt 0), .inl (Int32.ofInt 0), .inl (Int32.ofInt 0), .inl (u8), .inl (u7), .inl (Int32.ofInt 9), rf 11 (0)]) h rfl (Nat.le_of_ble_eq_true rfl) rfl rfl) z172_at rfl
  rcases h with ⟨v1, σ2, r3, f, g, h⟩ | ⟨b, σ2, r3, e⟩
  rotate_left
  · exact (nt172 (x172 hsτ r3)).elim
  clear g
  have p4 := x172 hsτ r3
  have hsσ2 : HL σ2 := hl172 p4
  refine ⟨v1, σ2, gF_r r3 rfl hsτ, hsσ2, p4, ?_⟩
  replace h : EV F f 187 z187 619 [some (rf 11 (0)), y1, y2, y3, y4, y5, y6, some (.inl (u7)), some (.inl (u8)), some (.inr (.inl (u9))), none, y11, y12, y13] [.inr (.inl (v1))] σ2 (w, σ') := h
  replace h := ei_p h rfl rfl rfl rfl
  obtain ⟨f, g, h⟩ := h
  clear g
  replace h : EV F f 187 z187 621 [some (rf 11 (0)), y1, y2, y3, y4, y5, y6, some (.inl (u7)), some (.inl (u8)), some (.inr (.inl (u9))), none, some (.inr (.inl (v1))), none, y13] [] σ2 (w, σ') := h
  replace h := ei_p h rfl rfl rfl rfl
  obtain ⟨f, g, h⟩ := h
  clear g
  replace h : EV F f 187 z187 623 [some (rf 11 (0)), y1, y2, y3, y4, y5, y6, some (.inl (u7)), some (.inl (u8)), some (.inr (.inl (u9))), none, some (.inr (.inl (v1))), none, y13] [.inl (u7)] σ2 (w, σ') := h
  replace h := ei_p h rfl rfl rfl rfl
  obtain ⟨f, g, h⟩ := h
  clear g
  replace h : EV F f 187 z187 624 [some (rf 11 (0)), y1, y2, y3, y4, y5, y6, some (.inl (u7)), some (.inl (u8)), some (.inr (.inl (u9))), none, some (.inr (.inl (v1))), none, y13] [.inl (Int32.ofInt 3), .inl (u7)] σ2 (w, σ') := h
  replace h := ei_c h rfl rfl rfl
  rcases h with ⟨hp5, f, g, h⟩ | ⟨hp5, f, g, h⟩
  · skip
    replace hp5 : (u7).toInt ≠ (3 : Int) := ic_ne.mp hp5
    refine Or.inl ⟨hp5, ?_⟩
    clear g
    replace h : EV F f 187 z187 644 [some (rf 11 (0)), y1, y2, y3, y4, y5, y6, some (.inl (u7)), some (.inl (u8)), some (.inr (.inl (u9))), none, some (.inr (.inl (v1))), none, y13] [] σ2 (w, σ') := h
    replace h := ei_p h rfl rfl rfl rfl
    obtain ⟨f, g, h⟩ := h
    clear g
    replace h : EV F f 187 z187 646 [some (rf 11 (0)), y1, y2, y3, y4, y5, y6, some (.inl (u7)), some (.inl (u8)), some (.inr (.inl (u9))), none, some (.inr (.inl (v1))), none, y13] [.inl (u8)] σ2 (w, σ') := h
    replace h := ei_p h rfl rfl rfl rfl
    obtain ⟨f, g, h⟩ := h
    clear g
    replace h : EV F f 187 z187 647 [some (rf 11 (0)), y1, y2, y3, y4, y5, y6, some (.inl (u7)), some (.inl (u8)), some (.inr (.inl (u9))), none, some (.inr (.inl (v1))), none, y13] [.inl (Int32.ofInt 1), .inl (u8)] σ2 (w, σ') := h
    replace h := ei_c h rfl rfl rfl
    rcases h with ⟨hp6, f, g, h⟩ | ⟨hp6, f, g, h⟩
    · skip
      replace hp6 : (u8).toInt < (1 : Int) := ic_lt.mp hp6
      refine Or.inl ⟨hp6, ?_⟩
      clear g
      replace h : EV F f 187 z187 658 [some (rf 11 (0)), y1, y2, y3, y4, y5, y6, some (.inl (u7)), some (.inl (u8)), some (.inr (.inl (u9))), none, some (.inr (.inl (v1))), none, y13] [] σ2 (w, σ') := h
      exact j187_658 hsσ2 h
    · skip
      replace hp6 : ¬ ((u8).toInt < (1 : Int)) := (not_congr ic_lt).mp hp6
      refine Or.inr ⟨hp6, ?_⟩
      clear g
      replace h : EV F f 187 z187 650 [some (rf 11 (0)), y1, y2, y3, y4, y5, y6, some (.inl (u7)), some (.inl (u8)), some (.inr (.inl (u9))), none, some (.inr (.inl (v1))), none, y13] [] σ2 (w, σ') := h
      replace h := ei_p h rfl rfl rfl rfl
      obtain ⟨f, g, h⟩ := h
      clear g
      replace h : EV F f 187 z187 652 [some (rf 11 (0)), y1, y2, y3, y4, y5, y6, some (.inl (u7)), some (.inl (u8)), some (.inr (.inl (u9))), none, some (.inr (.inl (v1))), none, y13] [.inl (u8)] σ2 (w, σ') := h
      replace h := ei_p h rfl rfl rfl rfl
      obtain ⟨f, g, h⟩ := h
      clear g
      replace h : EV F f 187 z187 655 [some (rf 11 (0)), y1, y2, y3, y4, y5, y6, some (.inl (u7)), some (.inl (u8)), some (.inr (.inl (u9))), none, some (.inr (.inl (v1))), none, y13] [.inl (Int32.ofInt 1000), .inl (u8)] σ2 (w, σ') := h
      replace h := ei_c h rfl rfl rfl
      rcases h with ⟨hp7, f, g, h⟩ | ⟨hp7, f, g, h⟩
      · skip
        replace hp7 : (u8).toInt ≤ (1000 : Int) := ic_le.mp hp7
        refine Or.inl ⟨hp7, ?_⟩
        clear g
        replace h : EV F f 187 z187 675 [some (rf 11 (0)), y1, y2, y3, y4, y5, y6, some (.inl (u7)), some (.inl (u8)), some (.inr (.inl (u9))), none, some (.inr (.inl (v1))), none, y13] [] σ2 (w, σ') := h
        replace h := ei_p h rfl rfl rfl rfl
        obtain ⟨f, g, h⟩ := h
        clear g
        replace h : EV F f 187 z187 677 [some (rf 11 (0)), y1, y2, y3, y4, y5, y6, some (.inl (u7)), some (.inl (u8)), some (.inr (.inl (u9))), none, some (.inr (.inl (v1))), none, y13] [.inr (.inl (v1))] σ2 (w, σ') := h
        replace h := ei_p h rfl rfl rfl rfl
        obtain ⟨f, g, h⟩ := h
        clear g
        replace h : EV F f 187 z187 679 [some (rf 11 (0)), y1, y2, y3, y4, y5, y6, some (.inl (u7)), some (.inl (u8)), some (.inr (.inl (u9))), none, some (.inr (.inl (v1))), none, y13] [.inr (.inl (u9)), .inr (.inl (v1))] σ2 (w, σ') := h
        replace h := ei_p h rfl rfl rfl rfl
        obtain ⟨f, g, h⟩ := h
        clear g
        replace h : EV F f 187 z187 680 [some (rf 11 (0)), y1, y2, y3, y4, y5, y6, some (.inl (u7)), some (.inl (u8)), some (.inr (.inl (u9))), none, some (.inr (.inl (v1))), none, y13] [.inl (lg_cmp (v1) (u9))] σ2 (w, σ') := h
        replace h := ei_c h rfl rfl rfl
        rcases h with ⟨hp8, f, g, h⟩ | ⟨hp8, f, g, h⟩
        · skip
          replace hp8 : (v1).toInt ≠ (u9).toInt := (ab_lc .ne _ _).mp hp8
          refine Or.inl ⟨hp8, ?_⟩
          clear g
          replace h : EV F f 187 z187 687 [some (rf 11 (0)), y1, y2, y3, y4, y5, y6, some (.inl (u7)), some (.inl (u8)), some (.inr (.inl (u9))), none, some (.inr (.inl (v1))), none, y13] [] σ2 (w, σ') := h
          replace h := ei_p h rfl rfl rfl rfl
          obtain ⟨f, g, h⟩ := h
          clear g
          replace h : EV F f 187 z187 688 [some (rf 11 (0)), y1, y2, y3, y4, y5, y6, some (.inl (u7)), some (.inl (u8)), some (.inr (.inl (u9))), none, some (.inr (.inl (v1))), none, y13] [.inl (Int32.ofInt 0)] σ2 (w, σ') := h
          have e := ei_iret h rfl
          cases e
          exact ⟨rfl, rfl⟩
        · skip
          replace hp8 : ¬ ((v1).toInt ≠ (u9).toInt) := (not_congr (ab_lc .ne _ _)).mp hp8
          refine Or.inr ⟨hp8, ?_⟩
          clear g
          replace h : EV F f 187 z187 683 [some (rf 11 (0)), y1, y2, y3, y4, y5, y6, some (.inl (u7)), some (.inl (u8)), some (.inr (.inl (u9))), none, some (.inr (.inl (v1))), none, y13] [] σ2 (w, σ') := h
          replace h := ei_p h rfl rfl rfl rfl
          obtain ⟨f, g, h⟩ := h
          clear g
          replace h : EV F f 187 z187 684 [some (rf 11 (0)), y1, y2, y3, y4, y5, y6, some (.inl (u7)), some (.inl (u8)), some (.inr (.inl (u9))), none, some (.inr (.inl (v1))), none, y13] [.inl (Int32.ofInt 1)] σ2 (w, σ') := h
          replace h := ei_p h rfl rfl rfl rfl
          obtain ⟨f, g, h⟩ := h
          clear g
          replace h : EV F f 187 z187 688 [some (rf 11 (0)), y1, y2, y3, y4, y5, y6, some (.inl (u7)), some (.inl (u8)), some (.inr (.inl (u9))), none, some (.inr (.inl (v1))), none, y13] [.inl (Int32.ofInt 1)] σ2 (w, σ') := h
          have e := ei_iret h rfl
          cases e
          exact ⟨rfl, rfl⟩
      · skip
        replace hp7 : ¬ ((u8).toInt ≤ (1000 : Int)) := (not_congr ic_le).mp hp7
        refine Or.inr ⟨hp7, ?_⟩
        clear g
        replace h : EV F f 187 z187 658 [some (rf 11 (0)), y1, y2, y3, y4, y5, y6, some (.inl (u7)), some (.inl (u8)), some (.inr (.inl (u9))), none, some (.inr (.inl (v1))), none, y13] [] σ2 (w, σ') := h
        exact j187_658 hsσ2 h
  · skip
    replace hp5 : ¬ ((u7).toInt ≠ (3 : Int)) := (not_congr ic_ne).mp hp5
    refine Or.inr ⟨hp5, ?_⟩
    clear g
    replace h : EV F f 187 z187 627 [some (rf 11 (0)), y1, y2, y3, y4, y5, y6, some (.inl (u7)), some (.inl (u8)), some (.inr (.inl (u9))), none, some (.inr (.inl (v1))), none, y13] [] σ2 (w, σ') := h
    replace h := ei_p h rfl rfl rfl rfl
    obtain ⟨f, g, h⟩ := h
    clear g
    replace h : EV F f 187 z187 629 [some (rf 11 (0)), y1, y2, y3, y4, y5, y6, some (.inl (u7)), some (.inl (u8)), some (.inr (.inl (u9))), none, some (.inr (.inl (v1))), none, y13] [.inr (.inl (v1))] σ2 (w, σ') := h
    replace h := ei_p h rfl rfl rfl rfl
    obtain ⟨f, g, h⟩ := h
    clear g
    replace h : EV F f 187 z187 632 [some (rf 11 (0)), y1, y2, y3, y4, y5, y6, some (.inl (u7)), some (.inl (u8)), some (.inr (.inl (u9))), none, some (.inr (.inl (v1))), none, y13] [.inr (.inl (Int64.ofInt (-3000000000))), .inr (.inl (v1))] σ2 (w, σ') := h
    replace h := ei_p h rfl rfl rfl rfl
    obtain ⟨f, g, h⟩ := h
    clear g
    replace h : EV F f 187 z187 633 [some (rf 11 (0)), y1, y2, y3, y4, y5, y6, some (.inl (u7)), some (.inl (u8)), some (.inr (.inl (u9))), none, some (.inr (.inl (v1))), none, y13] [.inl (lg_cmp (v1) (Int64.ofInt (-3000000000)))] σ2 (w, σ') := h
    replace h := ei_c h rfl rfl rfl
    rcases h with ⟨hp9, f, g, h⟩ | ⟨hp9, f, g, h⟩
    · skip
      replace hp9 : (v1).toInt ≠ (Int64.ofInt (-3000000000)).toInt := (ab_lc .ne _ _).mp hp9
      refine Or.inl ⟨hp9, ?_⟩
      clear g
      replace h : EV F f 187 z187 640 [some (rf 11 (0)), y1, y2, y3, y4, y5, y6, some (.inl (u7)), some (.inl (u8)), some (.inr (.inl (u9))), none, some (.inr (.inl (v1))), none, y13] [] σ2 (w, σ') := h
      replace h := ei_p h rfl rfl rfl rfl
      obtain ⟨f, g, h⟩ := h
      clear g
      replace h : EV F f 187 z187 641 [some (rf 11 (0)), y1, y2, y3, y4, y5, y6, some (.inl (u7)), some (.inl (u8)), some (.inr (.inl (u9))), none, some (.inr (.inl (v1))), none, y13] [.inl (Int32.ofInt 0)] σ2 (w, σ') := h
      replace h := ei_p h rfl rfl rfl rfl
      obtain ⟨f, g, h⟩ := h
      clear g
      replace h : EV F f 187 z187 688 [some (rf 11 (0)), y1, y2, y3, y4, y5, y6, some (.inl (u7)), some (.inl (u8)), some (.inr (.inl (u9))), none, some (.inr (.inl (v1))), none, y13] [.inl (Int32.ofInt 0)] σ2 (w, σ') := h
      have e := ei_iret h rfl
      cases e
      exact ⟨rfl, rfl⟩
    · skip
      replace hp9 : ¬ ((v1).toInt ≠ (Int64.ofInt (-3000000000)).toInt) := (not_congr (ab_lc .ne _ _)).mp hp9
      refine Or.inr ⟨hp9, ?_⟩
      clear g
      replace h : EV F f 187 z187 636 [some (rf 11 (0)), y1, y2, y3, y4, y5, y6, some (.inl (u7)), some (.inl (u8)), some (.inr (.inl (u9))), none, some (.inr (.inl (v1))), none, y13] [] σ2 (w, σ') := h
      replace h := ei_p h rfl rfl rfl rfl
      obtain ⟨f, g, h⟩ := h
      clear g
      replace h : EV F f 187 z187 637 [some (rf 11 (0)), y1, y2, y3, y4, y5, y6, some (.inl (u7)), some (.inl (u8)), some (.inr (.inl (u9))), none, some (.inr (.inl (v1))), none, y13] [.inl (Int32.ofInt 1)] σ2 (w, σ') := h
      replace h := ei_p h rfl rfl rfl rfl
      obtain ⟨f, g, h⟩ := h
      clear g
      replace h : EV F f 187 z187 688 [some (rf 11 (0)), y1, y2, y3, y4, y5, y6, some (.inl (u7)), some (.inl (u8)), some (.inr (.inl (u9))), none, some (.inr (.inl (v1))), none, y13] [.inl (Int32.ofInt 1)] σ2 (w, σ') := h
      have e := ei_iret h rfl
      cases e
      exact ⟨rfl, rfl⟩
abbrev B187_554 (c1 : Int32) (c2 : Int32) (ih : Int64 → Int32 → mS → mX → mS → Prop) (u9 : Int64) (u11 : Int32) (τ : mS) (w : mX) (σ' : mS) : Prop := (((5 : Int) ≤ (u11).toInt ∧ J187_604 (c1) (c2) (u9) τ w σ') ∨ (¬ ((5 : Int) ≤ (u11).toInt) ∧ (((3 : Int) ≤ (c1).toInt ∧ J187_604 (c1) (c2) (u9) τ w σ') ∨ (¬ ((3 : Int) ≤ (c1).toInt) ∧ ((∃ v3, P144 τ (u11) (c1) (.inl (some (.inr (.inl v3)))) τ ∧ ((((v3) * ((c2).toInt64)).toInt ≤ (Int64.ofNat 0).toInt ∧ ih ((u9) + (Int64.ofNat 0)) ((u11) + Int32.ofInt 1) τ w σ') ∨ (¬ (((v3) * ((c2).toInt64)).toInt ≤ (Int64.ofNat 0).toInt) ∧ ih ((u9) + ((v3) * ((c2).toInt64))) ((u11) + Int32.ofInt 1) τ w σ'))) ∨ (∃ b, P144 τ (u11) (c1) (.inr b) τ ∧ w = .inr b ∧ σ' = τ))))))
def Q187_554 (c1 : Int32) (c2 : Int32) : Nat → Int64 → Int32 → mS → mX → mS → Prop
  | 0 => fun _ _ _ _ _ => False
  | n + 1 => B187_554 c1 c2 (Q187_554 c1 c2 n)
set_option maxRecDepth 100000 in
theorem q187_554 {F : Nat} {σ' : mS} {c1 : Int32} {c2 : Int32} {w : mX} : ∀ N f, f < N → ∀ (u9 : Int64) (u11 : Int32) (y1 : Option mV) (y2 : Option mV) (y3 : Option mV) (y4 : Option mV) (y5 : Option mV) (y6 : Option mV) (y12 : Option mV) (y13 : Option mV) (τ : mS), HL τ → EV F f 187 z187 554 [some (rf 11 (0)), y1, y2, y3, y4, y5, y6, some (.inl (c1)), some (.inl (c2)), some (.inr (.inl (u9))), none, some (.inl (u11)), y12, y13] [] τ (w, σ') → Q187_554 c1 c2 N u9 u11 τ w σ' := by
  intro N
  induction N with
  | zero => intro f hf; omega
  | succ N IH =>
    intro f hf0 u9 u11 y1 y2 y3 y4 y5 y6 y12 y13 τ hsτ h
    have hf : f < N + 1 := hf0
    clear hf0
    show B187_554 c1 c2 (Q187_554 c1 c2 N) u9 u11 τ w σ'
    replace h := ei_p h rfl rfl rfl rfl
    obtain ⟨f, g, h⟩ := h
    replace hf := Nat.lt_of_lt_of_le g (Nat.le_of_lt_succ hf)
    clear g
    replace h : EV F f 187 z187 556 [some (rf 11 (0)), y1, y2, y3, y4, y5, y6, some (.inl (c1)), some (.inl (c2)), some (.inr (.inl (u9))), none, some (.inl (u11)), y12, y13] [.inl (u11)] τ (w, σ') := h
    replace h := ei_p h rfl rfl rfl rfl
    obtain ⟨f, g, h⟩ := h
    replace hf := Nat.lt_trans g hf
    clear g
    replace h : EV F f 187 z187 557 [some (rf 11 (0)), y1, y2, y3, y4, y5, y6, some (.inl (c1)), some (.inl (c2)), some (.inr (.inl (u9))), none, some (.inl (u11)), y12, y13] [.inl (Int32.ofInt 5), .inl (u11)] τ (w, σ') := h
    replace h := ei_c h rfl rfl rfl
    rcases h with ⟨hp1, f, g, h⟩ | ⟨hp1, f, g, h⟩
    · skip
      replace hp1 : (5 : Int) ≤ (u11).toInt := ic_ge.mp hp1
      refine Or.inl ⟨hp1, ?_⟩
      replace hf := Nat.lt_trans g hf
      clear g
      replace h : EV F f 187 z187 604 [some (rf 11 (0)), y1, y2, y3, y4, y5, y6, some (.inl (c1)), some (.inl (c2)), some (.inr (.inl (u9))), none, some (.inl (u11)), y12, y13] [] τ (w, σ') := h
      exact j187_604 hsτ h
    · skip
      replace hp1 : ¬ ((5 : Int) ≤ (u11).toInt) := (not_congr ic_ge).mp hp1
      refine Or.inr ⟨hp1, ?_⟩
      replace hf := Nat.lt_trans g hf
      clear g
      replace h : EV F f 187 z187 560 [some (rf 11 (0)), y1, y2, y3, y4, y5, y6, some (.inl (c1)), some (.inl (c2)), some (.inr (.inl (u9))), none, some (.inl (u11)), y12, y13] [] τ (w, σ') := h
      replace h := ei_p h rfl rfl rfl rfl
      obtain ⟨f, g, h⟩ := h
      replace hf := Nat.lt_trans g hf
      clear g
      replace h : EV F f 187 z187 562 [some (rf 11 (0)), y1, y2, y3, y4, y5, y6, some (.inl (c1)), some (.inl (c2)), some (.inr (.inl (u9))), none, some (.inl (u11)), y12, y13] [.inl (c1)] τ (w, σ') := h
      replace h := ei_p h rfl rfl rfl rfl
      obtain ⟨f, g, h⟩ := h
      replace hf := Nat.lt_trans g hf
      clear g
      replace h : EV F f 187 z187 563 [some (rf 11 (0)), y1, y2, y3, y4, y5, y6, some (.inl (c1)), some (.inl (c2)), some (.inr (.inl (u9))), none, some (.inl (u11)), y12, y13] [.inl (Int32.ofInt 3), .inl (c1)] τ (w, σ') := h
      replace h := ei_c h rfl rfl rfl
      rcases h with ⟨hp2, f, g, h⟩ | ⟨hp2, f, g, h⟩
      · skip
        replace hp2 : (3 : Int) ≤ (c1).toInt := ic_ge.mp hp2
        refine Or.inl ⟨hp2, ?_⟩
        replace hf := Nat.lt_trans g hf
        clear g
        replace h : EV F f 187 z187 604 [some (rf 11 (0)), y1, y2, y3, y4, y5, y6, some (.inl (c1)), some (.inl (c2)), some (.inr (.inl (u9))), none, some (.inl (u11)), y12, y13] [] τ (w, σ') := h
        exact j187_604 hsτ h
      · skip
        replace hp2 : ¬ ((3 : Int) ≤ (c1).toInt) := (not_congr ic_ge).mp hp2
        refine Or.inr ⟨hp2, ?_⟩
        replace hf := Nat.lt_trans g hf
        clear g
        replace h : EV F f 187 z187 566 [some (rf 11 (0)), y1, y2, y3, y4, y5, y6, some (.inl (c1)), some (.inl (c2)), some (.inr (.inl (u9))), none, some (.inl (u11)), y12, y13] [] τ (w, σ') := h
        replace h := ei_p h rfl rfl rfl rfl
        obtain ⟨f, g, h⟩ := h
        replace hf := Nat.lt_trans g hf
        clear g
        replace h : EV F f 187 z187 567 [some (rf 11 (0)), y1, y2, y3, y4, y5, y6, some (.inl (c1)), some (.inl (c2)), some (.inr (.inl (u9))), none, some (.inl (u11)), y12, y13] [rf 11 (0)] τ (w, σ') := h
        replace h := ei_p h rfl rfl rfl rfl
        obtain ⟨f, g, h⟩ := h
        replace hf := Nat.lt_trans g hf
        clear g
        replace h : EV F f 187 z187 569 [some (rf 11 (0)), y1, y2, y3, y4, y5, y6, some (.inl (c1)), some (.inl (c2)), some (.inr (.inl (u9))), none, some (.inl (u11)), y12, y13] [.inl (u11), rf 11 (0)] τ (w, σ') := h
        replace h := ei_p h rfl rfl rfl rfl
        obtain ⟨f, g, h⟩ := h
        replace hf := Nat.lt_trans g hf
        clear g
        replace h : EV F f 187 z187 571 [some (rf 11 (0)), y1, y2, y3, y4, y5, y6, some (.inl (c1)), some (.inl (c2)), some (.inr (.inl (u9))), none, some (.inl (u11)), y12, y13] [.inl (c1), .inl (u11), rf 11 (0)] τ (w, σ') := h
        replace h := bx_L (ei_v (as := [.inl (c1), .inl (u11)]) h rfl rfl rfl) z144_at rfl
        rcases h with ⟨v3, σ4, r5, f, g, h⟩ | ⟨b, σ4, r5, e⟩
        · skip
          have er5 := ro2_run rfl r5
          rw [er5] at h r5
          replace hf := Nat.lt_trans g hf
          clear g
          have p6 := x144 hsτ.1 r5
          refine Or.inl ⟨v3, p6, ?_⟩
          replace h : EV F f 187 z187 574 [some (rf 11 (0)), y1, y2, y3, y4, y5, y6, some (.inl (c1)), some (.inl (c2)), some (.inr (.inl (u9))), none, some (.inl (u11)), y12, y13] [.inr (.inl (v3))] τ (w, σ') := h
          replace h := ei_p h rfl rfl rfl rfl
          obtain ⟨f, g, h⟩ := h
          replace hf := Nat.lt_trans g hf
          clear g
          replace h : EV F f 187 z187 576 [some (rf 11 (0)), y1, y2, y3, y4, y5, y6, some (.inl (c1)), some (.inl (c2)), some (.inr (.inl (u9))), none, some (.inl (u11)), y12, y13] [.inl (c2), .inr (.inl (v3))] τ (w, σ') := h
          replace h := ei_p h rfl rfl rfl rfl
          obtain ⟨f, g, h⟩ := h
          replace hf := Nat.lt_trans g hf
          clear g
          replace h : EV F f 187 z187 577 [some (rf 11 (0)), y1, y2, y3, y4, y5, y6, some (.inl (c1)), some (.inl (c2)), some (.inr (.inl (u9))), none, some (.inl (u11)), y12, y13] [.inr (.inl ((c2).toInt64)), .inr (.inl (v3))] τ (w, σ') := h
          replace h := ei_p h rfl rfl rfl rfl
          obtain ⟨f, g, h⟩ := h
          replace hf := Nat.lt_trans g hf
          clear g
          replace h : EV F f 187 z187 578 [some (rf 11 (0)), y1, y2, y3, y4, y5, y6, some (.inl (c1)), some (.inl (c2)), some (.inr (.inl (u9))), none, some (.inl (u11)), y12, y13] [.inr (.inl ((v3) * ((c2).toInt64)))] τ (w, σ') := h
          replace h := ei_p h rfl rfl rfl rfl
          obtain ⟨f, g, h⟩ := h
          replace hf := Nat.lt_trans g hf
          clear g
          replace h : EV F f 187 z187 580 [some (rf 11 (0)), y1, y2, y3, y4, y5, y6, some (.inl (c1)), some (.inl (c2)), some (.inr (.inl (u9))), none, some (.inl (u11)), some (.inr (.inl ((v3) * ((c2).toInt64)))), none] [] τ (w, σ') := h
          replace h := ei_p h rfl rfl rfl rfl
          obtain ⟨f, g, h⟩ := h
          replace hf := Nat.lt_trans g hf
          clear g
          replace h : EV F f 187 z187 582 [some (rf 11 (0)), y1, y2, y3, y4, y5, y6, some (.inl (c1)), some (.inl (c2)), some (.inr (.inl (u9))), none, some (.inl (u11)), some (.inr (.inl ((v3) * ((c2).toInt64)))), none] [.inr (.inl (u9))] τ (w, σ') := h
          replace h := ei_p h rfl rfl rfl rfl
          obtain ⟨f, g, h⟩ := h
          replace hf := Nat.lt_trans g hf
          clear g
          replace h : EV F f 187 z187 584 [some (rf 11 (0)), y1, y2, y3, y4, y5, y6, some (.inl (c1)), some (.inl (c2)), some (.inr (.inl (u9))), none, some (.inl (u11)), some (.inr (.inl ((v3) * ((c2).toInt64)))), none] [.inr (.inl ((v3) * ((c2).toInt64))), .inr (.inl (u9))] τ (w, σ') := h
          replace h := ei_p h rfl rfl rfl rfl
          obtain ⟨f, g, h⟩ := h
          replace hf := Nat.lt_trans g hf
          clear g
          replace h : EV F f 187 z187 585 [some (rf 11 (0)), y1, y2, y3, y4, y5, y6, some (.inl (c1)), some (.inl (c2)), some (.inr (.inl (u9))), none, some (.inl (u11)), some (.inr (.inl ((v3) * ((c2).toInt64)))), none] [.inr (.inl (Int64.ofNat 0)), .inr (.inl ((v3) * ((c2).toInt64))), .inr (.inl (u9))] τ (w, σ') := h
          replace h := ei_p h rfl rfl rfl rfl
          obtain ⟨f, g, h⟩ := h
          replace hf := Nat.lt_trans g hf
          clear g
          replace h : EV F f 187 z187 586 [some (rf 11 (0)), y1, y2, y3, y4, y5, y6, some (.inl (c1)), some (.inl (c2)), some (.inr (.inl (u9))), none, some (.inl (u11)), some (.inr (.inl ((v3) * ((c2).toInt64)))), none] [.inl (lg_cmp ((v3) * ((c2).toInt64)) (Int64.ofNat 0)), .inr (.inl (u9))] τ (w, σ') := h
          replace h := ei_c h rfl rfl rfl
          rcases h with ⟨hp7, f, g, h⟩ | ⟨hp7, f, g, h⟩
          · skip
            replace hp7 : ((v3) * ((c2).toInt64)).toInt ≤ (Int64.ofNat 0).toInt := (ab_lc .le _ _).mp hp7
            refine Or.inl ⟨hp7, ?_⟩
            replace hf := Nat.lt_trans g hf
            clear g
            replace h : EV F f 187 z187 594 [some (rf 11 (0)), y1, y2, y3, y4, y5, y6, some (.inl (c1)), some (.inl (c2)), some (.inr (.inl (u9))), none, some (.inl (u11)), some (.inr (.inl ((v3) * ((c2).toInt64)))), none] [.inr (.inl (u9))] τ (w, σ') := h
            replace h := ei_p h rfl rfl rfl rfl
            obtain ⟨f, g, h⟩ := h
            replace hf := Nat.lt_trans g hf
            clear g
            replace h : EV F f 187 z187 595 [some (rf 11 (0)), y1, y2, y3, y4, y5, y6, some (.inl (c1)), some (.inl (c2)), some (.inr (.inl (u9))), none, some (.inl (u11)), some (.inr (.inl ((v3) * ((c2).toInt64)))), none] [.inr (.inl (Int64.ofNat 0)), .inr (.inl (u9))] τ (w, σ') := h
            replace h := ei_p h rfl rfl rfl rfl
            obtain ⟨f, g, h⟩ := h
            replace hf := Nat.lt_trans g hf
            clear g
            replace h : EV F f 187 z187 596 [some (rf 11 (0)), y1, y2, y3, y4, y5, y6, some (.inl (c1)), some (.inl (c2)), some (.inr (.inl (u9))), none, some (.inl (u11)), some (.inr (.inl ((v3) * ((c2).toInt64)))), none] [.inr (.inl ((u9) + (Int64.ofNat 0)))] τ (w, σ') := h
            replace h := ei_p h rfl rfl rfl rfl
            obtain ⟨f, g, h⟩ := h
            replace hf := Nat.lt_trans g hf
            clear g
            replace h : EV F f 187 z187 598 [some (rf 11 (0)), y1, y2, y3, y4, y5, y6, some (.inl (c1)), some (.inl (c2)), some (.inr (.inl ((u9) + (Int64.ofNat 0)))), none, some (.inl (u11)), some (.inr (.inl ((v3) * ((c2).toInt64)))), none] [] τ (w, σ') := h
            replace h := ei_p h rfl rfl rfl rfl
            obtain ⟨f, g, h⟩ := h
            replace hf := Nat.lt_trans g hf
            clear g
            replace h : EV F f 187 z187 601 [some (rf 11 (0)), y1, y2, y3, y4, y5, y6, some (.inl (c1)), some (.inl (c2)), some (.inr (.inl ((u9) + (Int64.ofNat 0)))), none, some (.inl ((u11) + Int32.ofInt 1)), some (.inr (.inl ((v3) * ((c2).toInt64)))), none] [] τ (w, σ') := h
            replace h := ei_p h rfl rfl rfl rfl
            obtain ⟨f, g, h⟩ := h
            replace hf := Nat.lt_trans g hf
            clear g
            replace h : EV F f 187 z187 554 [some (rf 11 (0)), y1, y2, y3, y4, y5, y6, some (.inl (c1)), some (.inl (c2)), some (.inr (.inl ((u9) + (Int64.ofNat 0)))), none, some (.inl ((u11) + Int32.ofInt 1)), some (.inr (.inl ((v3) * ((c2).toInt64)))), none] [] τ (w, σ') := h
            exact IH f hf ((u9) + (Int64.ofNat 0)) ((u11) + Int32.ofInt 1) y1 y2 y3 y4 y5 y6 (some (.inr (.inl ((v3) * ((c2).toInt64))))) (none) τ hsτ h
          · skip
            replace hp7 : ¬ (((v3) * ((c2).toInt64)).toInt ≤ (Int64.ofNat 0).toInt) := (not_congr (ab_lc .le _ _)).mp hp7
            refine Or.inr ⟨hp7, ?_⟩
            replace hf := Nat.lt_trans g hf
            clear g
            replace h : EV F f 187 z187 589 [some (rf 11 (0)), y1, y2, y3, y4, y5, y6, some (.inl (c1)), some (.inl (c2)), some (.inr (.inl (u9))), none, some (.inl (u11)), some (.inr (.inl ((v3) * ((c2).toInt64)))), none] [.inr (.inl (u9))] τ (w, σ') := h
            replace h := ei_p h rfl rfl rfl rfl
            obtain ⟨f, g, h⟩ := h
            replace hf := Nat.lt_trans g hf
            clear g
            replace h : EV F f 187 z187 591 [some (rf 11 (0)), y1, y2, y3, y4, y5, y6, some (.inl (c1)), some (.inl (c2)), some (.inr (.inl (u9))), none, some (.inl (u11)), some (.inr (.inl ((v3) * ((c2).toInt64)))), none] [.inr (.inl ((v3) * ((c2).toInt64))), .inr (.inl (u9))] τ (w, σ') := h
            replace h := ei_p h rfl rfl rfl rfl
            obtain ⟨f, g, h⟩ := h
            replace hf := Nat.lt_trans g hf
            clear g
            replace h : EV F f 187 z187 595 [some (rf 11 (0)), y1, y2, y3, y4, y5, y6, some (.inl (c1)), some (.inl (c2)), some (.inr (.inl (u9))), none, some (.inl (u11)), some (.inr (.inl ((v3) * ((c2).toInt64)))), none] [.inr (.inl ((v3) * ((c2).toInt64))), .inr (.inl (u9))] τ (w, σ') := h
            replace h := ei_p h rfl rfl rfl rfl
            obtain ⟨f, g, h⟩ := h
            replace hf := Nat.lt_trans g hf
            clear g
            replace h : EV F f 187 z187 596 [some (rf 11 (0)), y1, y2, y3, y4, y5, y6, some (.inl (c1)), some (.inl (c2)), some (.inr (.inl (u9))), none, some (.inl (u11)), some (.inr (.inl ((v3) * ((c2).toInt64)))), none] [.inr (.inl ((u9) + ((v3) * ((c2).toInt64))))] τ (w, σ') := h
            replace h := ei_p h rfl rfl rfl rfl
            obtain ⟨f, g, h⟩ := h
            replace hf := Nat.lt_trans g hf
            clear g
            replace h : EV F f 187 z187 598 [some (rf 11 (0)), y1, y2, y3, y4, y5, y6, some (.inl (c1)), some (.inl (c2)), some (.inr (.inl ((u9) + ((v3) * ((c2).toInt64))))), none, some (.inl (u11)), some (.inr (.inl ((v3) * ((c2).toInt64)))), none] [] τ (w, σ') := h
            replace h := ei_p h rfl rfl rfl rfl
            obtain ⟨f, g, h⟩ := h
            replace hf := Nat.lt_trans g hf
            clear g
            replace h : EV F f 187 z187 601 [some (rf 11 (0)), y1, y2, y3, y4, y5, y6, some (.inl (c1)), some (.inl (c2)), some (.inr (.inl ((u9) + ((v3) * ((c2).toInt64))))), none, some (.inl ((u11) + Int32.ofInt 1)), some (.inr (.inl ((v3) * ((c2).toInt64)))), none] [] τ (w, σ') := h
            replace h := ei_p h rfl rfl rfl rfl
            obtain ⟨f, g, h⟩ := h
            replace hf := Nat.lt_trans g hf
            clear g
            replace h : EV F f 187 z187 554 [some (rf 11 (0)), y1, y2, y3, y4, y5, y6, some (.inl (c1)), some (.inl (c2)), some (.inr (.inl ((u9) + ((v3) * ((c2).toInt64))))), none, some (.inl ((u11) + Int32.ofInt 1)), some (.inr (.inl ((v3) * ((c2).toInt64)))), none] [] τ (w, σ') := h
            exact IH f hf ((u9) + ((v3) * ((c2).toInt64))) ((u11) + Int32.ofInt 1) y1 y2 y3 y4 y5 y6 (some (.inr (.inl ((v3) * ((c2).toInt64))))) (none) τ hsτ h
        · skip
          have er5 := ro2_run rfl r5
          rw [er5] at e r5
          have p6 := x144 hsτ.1 r5
          cases e
          exact Or.inr ⟨b, p6, rfl, rfl⟩
def J187_447 (t0 : Int64) (t1 : Int64) (τ : mS) (w : mX) (σ' : mS) : Prop := (((t1).toInt ≠ (t0).toInt ∧ w = .inl (some (.inl (Int32.ofInt 0))) ∧ σ' = τ) ∨ (¬ ((t1).toInt ≠ (t0).toInt) ∧ w = .inl (some (.inl (Int32.ofInt 1))) ∧ σ' = τ))
set_option maxRecDepth 100000 in
theorem j187_447 {F f : Nat} {σ' τ : mS} {t0 : Int64} {t1 : Int64} {y0 : Option mV} {y1 : Option mV} {y2 : Option mV} {y3 : Option mV} {y4 : Option mV} {y5 : Option mV} {y6 : Option mV} {y7 : Option mV} {y8 : Option mV} {y9 : Option mV} {y10 : Option mV} {y11 : Option mV} {y12 : Option mV} {y13 : Option mV} {w : mX} (hsτ : HL τ) (h : EV F f 187 z187 447 [y0, y1, y2, y3, y4, y5, y6, y7, y8, y9, y10, y11, y12, y13] [.inr (.inl (t0)), .inr (.inl (t1))] τ (w, σ')) : J187_447 t0 t1 τ w σ' := by
  unfold J187_447
  replace h := ei_p h rfl rfl rfl rfl
  obtain ⟨f, g, h⟩ := h
  clear g
  replace h : EV F f 187 z187 448 [y0, y1, y2, y3, y4, y5, y6, y7, y8, y9, y10, y11, y12, y13] [.inl (lg_cmp (t1) (t0))] τ (w, σ') := h
  replace h := ei_c h rfl rfl rfl
  rcases h with ⟨hp1, f, g, h⟩ | ⟨hp1, f, g, h⟩
  · skip
    replace hp1 : (t1).toInt ≠ (t0).toInt := (ab_lc .ne _ _).mp hp1
    refine Or.inl ⟨hp1, ?_⟩
    clear g
    replace h : EV F f 187 z187 455 [y0, y1, y2, y3, y4, y5, y6, y7, y8, y9, y10, y11, y12, y13] [] τ (w, σ') := h
    replace h := ei_p h rfl rfl rfl rfl
    obtain ⟨f, g, h⟩ := h
    clear g
    replace h : EV F f 187 z187 456 [y0, y1, y2, y3, y4, y5, y6, y7, y8, y9, y10, y11, y12, y13] [.inl (Int32.ofInt 0)] τ (w, σ') := h
    have e := ei_iret h rfl
    cases e
    exact ⟨rfl, rfl⟩
  · skip
    replace hp1 : ¬ ((t1).toInt ≠ (t0).toInt) := (not_congr (ab_lc .ne _ _)).mp hp1
    refine Or.inr ⟨hp1, ?_⟩
    clear g
    replace h : EV F f 187 z187 451 [y0, y1, y2, y3, y4, y5, y6, y7, y8, y9, y10, y11, y12, y13] [] τ (w, σ') := h
    replace h := ei_p h rfl rfl rfl rfl
    obtain ⟨f, g, h⟩ := h
    clear g
    replace h : EV F f 187 z187 452 [y0, y1, y2, y3, y4, y5, y6, y7, y8, y9, y10, y11, y12, y13] [.inl (Int32.ofInt 1)] τ (w, σ') := h
    replace h := ei_p h rfl rfl rfl rfl
    obtain ⟨f, g, h⟩ := h
    clear g
    replace h : EV F f 187 z187 456 [y0, y1, y2, y3, y4, y5, y6, y7, y8, y9, y10, y11, y12, y13] [.inl (Int32.ofInt 1)] τ (w, σ') := h
    have e := ei_iret h rfl
    cases e
    exact ⟨rfl, rfl⟩
def J187_426 (u7 : Int32) (u10 : Int64) (u12 : Int32) (τ : mS) (w : mX) (σ' : mS) : Prop := (((u7).toInt ≠ (3 : Int) ∧ J187_447 ((Int64.ofInt 1000000000) * ((u12).toInt64)) (u10) τ w σ') ∨ (¬ ((u7).toInt ≠ (3 : Int)) ∧ J187_447 (Int64.ofInt (-3000000000)) (u10) τ w σ'))
set_option maxRecDepth 100000 in
theorem j187_426 {F f : Nat} {σ' τ : mS} {u7 : Int32} {u10 : Int64} {u12 : Int32} {y0 : Option mV} {y1 : Option mV} {y2 : Option mV} {y3 : Option mV} {y4 : Option mV} {y5 : Option mV} {y6 : Option mV} {y8 : Option mV} {y9 : Option mV} {y13 : Option mV} {w : mX} (hsτ : HL τ) (h : EV F f 187 z187 426 [y0, y1, y2, y3, y4, y5, y6, some (.inl (u7)), y8, y9, some (.inr (.inl (u10))), none, some (.inl (u12)), y13] [] τ (w, σ')) : J187_426 u7 u10 u12 τ w σ' := by
  unfold J187_426
  replace h := ei_p h rfl rfl rfl rfl
  obtain ⟨f, g, h⟩ := h
  clear g
  replace h : EV F f 187 z187 428 [y0, y1, y2, y3, y4, y5, y6, some (.inl (u7)), y8, y9, some (.inr (.inl (u10))), none, some (.inl (u12)), y13] [.inr (.inl (u10))] τ (w, σ') := h
  replace h := ei_p h rfl rfl rfl rfl
  obtain ⟨f, g, h⟩ := h
  clear g
  replace h : EV F f 187 z187 430 [y0, y1, y2, y3, y4, y5, y6, some (.inl (u7)), y8, y9, some (.inr (.inl (u10))), none, some (.inl (u12)), y13] [.inl (u7), .inr (.inl (u10))] τ (w, σ') := h
  replace h := ei_p h rfl rfl rfl rfl
  obtain ⟨f, g, h⟩ := h
  clear g
  replace h : EV F f 187 z187 431 [y0, y1, y2, y3, y4, y5, y6, some (.inl (u7)), y8, y9, some (.inr (.inl (u10))), none, some (.inl (u12)), y13] [.inl (Int32.ofInt 3), .inl (u7), .inr (.inl (u10))] τ (w, σ') := h
  replace h := ei_c h rfl rfl rfl
  rcases h with ⟨hp1, f, g, h⟩ | ⟨hp1, f, g, h⟩
  · skip
    replace hp1 : (u7).toInt ≠ (3 : Int) := ic_ne.mp hp1
    refine Or.inl ⟨hp1, ?_⟩
    clear g
    replace h : EV F f 187 z187 440 [y0, y1, y2, y3, y4, y5, y6, some (.inl (u7)), y8, y9, some (.inr (.inl (u10))), none, some (.inl (u12)), y13] [.inr (.inl (u10))] τ (w, σ') := h
    replace h := ei_p h rfl rfl rfl rfl
    obtain ⟨f, g, h⟩ := h
    clear g
    replace h : EV F f 187 z187 443 [y0, y1, y2, y3, y4, y5, y6, some (.inl (u7)), y8, y9, some (.inr (.inl (u10))), none, some (.inl (u12)), y13] [.inr (.inl (Int64.ofInt 1000000000)), .inr (.inl (u10))] τ (w, σ') := h
    replace h := ei_p h rfl rfl rfl rfl
    obtain ⟨f, g, h⟩ := h
    clear g
    replace h : EV F f 187 z187 445 [y0, y1, y2, y3, y4, y5, y6, some (.inl (u7)), y8, y9, some (.inr (.inl (u10))), none, some (.inl (u12)), y13] [.inl (u12), .inr (.inl (Int64.ofInt 1000000000)), .inr (.inl (u10))] τ (w, σ') := h
    replace h := ei_p h rfl rfl rfl rfl
    obtain ⟨f, g, h⟩ := h
    clear g
    replace h : EV F f 187 z187 446 [y0, y1, y2, y3, y4, y5, y6, some (.inl (u7)), y8, y9, some (.inr (.inl (u10))), none, some (.inl (u12)), y13] [.inr (.inl ((u12).toInt64)), .inr (.inl (Int64.ofInt 1000000000)), .inr (.inl (u10))] τ (w, σ') := h
    replace h := ei_p h rfl rfl rfl rfl
    obtain ⟨f, g, h⟩ := h
    clear g
    replace h : EV F f 187 z187 447 [y0, y1, y2, y3, y4, y5, y6, some (.inl (u7)), y8, y9, some (.inr (.inl (u10))), none, some (.inl (u12)), y13] [.inr (.inl ((Int64.ofInt 1000000000) * ((u12).toInt64))), .inr (.inl (u10))] τ (w, σ') := h
    exact j187_447 hsτ h
  · skip
    replace hp1 : ¬ ((u7).toInt ≠ (3 : Int)) := (not_congr ic_ne).mp hp1
    refine Or.inr ⟨hp1, ?_⟩
    clear g
    replace h : EV F f 187 z187 434 [y0, y1, y2, y3, y4, y5, y6, some (.inl (u7)), y8, y9, some (.inr (.inl (u10))), none, some (.inl (u12)), y13] [.inr (.inl (u10))] τ (w, σ') := h
    replace h := ei_p h rfl rfl rfl rfl
    obtain ⟨f, g, h⟩ := h
    clear g
    replace h : EV F f 187 z187 437 [y0, y1, y2, y3, y4, y5, y6, some (.inl (u7)), y8, y9, some (.inr (.inl (u10))), none, some (.inl (u12)), y13] [.inr (.inl (Int64.ofInt (-3000000000))), .inr (.inl (u10))] τ (w, σ') := h
    replace h := ei_p h rfl rfl rfl rfl
    obtain ⟨f, g, h⟩ := h
    clear g
    replace h : EV F f 187 z187 447 [y0, y1, y2, y3, y4, y5, y6, some (.inl (u7)), y8, y9, some (.inr (.inl (u10))), none, some (.inl (u12)), y13] [.inr (.inl (Int64.ofInt (-3000000000))), .inr (.inl (u10))] τ (w, σ') := h
    exact j187_447 hsτ h
abbrev B187_470 (c1 : Int32) (c2 : Int32) (c3 : Int64) (c4 : Int32) (ih : Int32 → mS → mX → mS → Prop) (u13 : Int32) (τ : mS) (w : mX) (σ' : mS) : Prop := (0 ≤ (0 : Int) ∧ (0 : Int) < (τ.2.1 13 (17) : Int)) ∧ (((m_i τ 13 (17) (Int32.ofInt 0).toNatClampNeg).toInt ≤ (u13).toInt ∧ (((c3).toInt ≠ ((c4).toInt64).toInt ∧ w = .inl (some (.inl (Int32.ofInt 0))) ∧ σ' = τ) ∨ (¬ ((c3).toInt ≠ ((c4).toInt64).toInt) ∧ w = .inl (some (.inl (Int32.ofInt 1))) ∧ σ' = τ))) ∨ (¬ ((m_i τ 13 (17) (Int32.ofInt 0).toNatClampNeg).toInt ≤ (u13).toInt) ∧ (0 ≤ (u13).toInt ∧ (u13).toInt < (τ.2.1 13 (15) : Int)) ∧ (((((m_i τ 13 (15) (u13).toNatClampNeg) / (Int32.ofInt 10)) - ((m_i τ 13 (15) (u13).toNatClampNeg) / (Int32.ofInt 10)) / (Int32.ofInt 10) * (Int32.ofInt 10)).toInt ≠ (c1).toInt ∧ ih ((u13) + Int32.ofInt 1) τ w σ') ∨ (¬ ((((m_i τ 13 (15) (u13).toNatClampNeg) / (Int32.ofInt 10)) - ((m_i τ 13 (15) (u13).toNatClampNeg) / (Int32.ofInt 10)) / (Int32.ofInt 10) * (Int32.ofInt 10)).toInt ≠ (c1).toInt) ∧ (0 ≤ (u13).toInt ∧ (u13).toInt < (τ.2.1 13 (14) : Int)) ∧ (((1 : Int) ≤ ((m_i τ 13 (14) (u13).toNatClampNeg) / (c2)).toInt ∧ (0 ≤ (u13).toInt ∧ (u13).toInt < (τ.2.1 13 (14) : Int)) ∧ ∃ σ14, σ14 = m_set τ 13 (14) ((u13).toNatClampNeg) (.inl ((m_i τ 13 (14) (u13).toNatClampNeg) / (c2))) ∧ (0 ≤ (u13).toInt ∧ (u13).toInt < (τ.2.1 13 (14) : Int)) ∧ ih ((u13) + Int32.ofInt 1) σ14 w σ') ∨ (¬ ((1 : Int) ≤ ((m_i τ 13 (14) (u13).toNatClampNeg) / (c2)).toInt) ∧ ∃ σ17, σ17 = m_set τ 13 (14) ((u13).toNatClampNeg) (.inl (Int32.ofInt 1)) ∧ (0 ≤ (u13).toInt ∧ (u13).toInt < (τ.2.1 13 (14) : Int)) ∧ ih ((u13) + Int32.ofInt 1) σ17 w σ'))))))
def Q187_470 (c1 : Int32) (c2 : Int32) (c3 : Int64) (c4 : Int32) : Nat → Int32 → mS → mX → mS → Prop
  | 0 => fun _ _ _ _ => False
  | n + 1 => B187_470 c1 c2 c3 c4 (Q187_470 c1 c2 c3 c4 n)
set_option maxRecDepth 100000 in
theorem q187_470 {F : Nat} {σ' : mS} {c1 : Int32} {c2 : Int32} {c3 : Int64} {c4 : Int32} {w : mX} : ∀ N f, f < N → ∀ (u13 : Int32) (y0 : Option mV) (y4 : Option mV) (y5 : Option mV) (y6 : Option mV) (y9 : Option mV) (τ : mS), HL τ → EV F f 187 z187 470 [y0, some (rf 13 (14)), some (rf 13 (15)), some (rf 13 (17)), y4, y5, y6, some (.inl (c1)), some (.inl (c2)), y9, some (.inr (.inl (c3))), none, some (.inl (c4)), some (.inl (u13))] [] τ (w, σ') → Q187_470 c1 c2 c3 c4 N u13 τ w σ' := by
  intro N
  induction N with
  | zero => intro f hf; omega
  | succ N IH =>
    intro f hf0 u13 y0 y4 y5 y6 y9 τ hsτ h
    have hf : f < N + 1 := hf0
    clear hf0
    show B187_470 c1 c2 c3 c4 (Q187_470 c1 c2 c3 c4 N) u13 τ w σ'
    replace h := ei_p h rfl rfl rfl rfl
    obtain ⟨f, g, h⟩ := h
    replace hf := Nat.lt_of_lt_of_le g (Nat.le_of_lt_succ hf)
    clear g
    replace h : EV F f 187 z187 472 [y0, some (rf 13 (14)), some (rf 13 (15)), some (rf 13 (17)), y4, y5, y6, some (.inl (c1)), some (.inl (c2)), y9, some (.inr (.inl (c3))), none, some (.inl (c4)), some (.inl (u13))] [.inl (u13)] τ (w, σ') := h
    replace h := ei_p h rfl rfl rfl rfl
    obtain ⟨f, g, h⟩ := h
    replace hf := Nat.lt_trans g hf
    clear g
    replace h : EV F f 187 z187 473 [y0, some (rf 13 (14)), some (rf 13 (15)), some (rf 13 (17)), y4, y5, y6, some (.inl (c1)), some (.inl (c2)), y9, some (.inr (.inl (c3))), none, some (.inl (c4)), some (.inl (u13))] [rf 13 (17), .inl (u13)] τ (w, σ') := h
    replace h := ei_p h rfl rfl rfl rfl
    obtain ⟨f, g, h⟩ := h
    replace hf := Nat.lt_trans g hf
    clear g
    replace h : EV F f 187 z187 474 [y0, some (rf 13 (14)), some (rf 13 (15)), some (rf 13 (17)), y4, y5, y6, some (.inl (c1)), some (.inl (c2)), y9, some (.inr (.inl (c3))), none, some (.inl (c4)), some (.inl (u13))] [.inl (Int32.ofInt 0), rf 13 (17), .inl (u13)] τ (w, σ') := h
    replace h := ei_iald h rfl (fun _ => rfl)
    obtain ⟨vp1, f, g, h⟩ := h
    replace hf := Nat.lt_trans g hf
    clear g
    replace h : EV F f 187 z187 475 [y0, some (rf 13 (14)), some (rf 13 (15)), some (rf 13 (17)), y4, y5, y6, some (.inl (c1)), some (.inl (c2)), y9, some (.inr (.inl (c3))), none, some (.inl (c4)), some (.inl (u13))] [.inl (m_i τ 13 (17) (Int32.ofInt 0).toNatClampNeg), .inl (u13)] τ (w, σ') := h
    refine ⟨vp_2 vp1, ?_⟩
    replace h := ei_c h rfl rfl rfl
    rcases h with ⟨hp2, f, g, h⟩ | ⟨hp2, f, g, h⟩
    · skip
      replace hp2 : (m_i τ 13 (17) (Int32.ofInt 0).toNatClampNeg).toInt ≤ (u13).toInt := ic_ge.mp hp2
      refine Or.inl ⟨hp2, ?_⟩
      replace hf := Nat.lt_trans g hf
      clear g
      replace h : EV F f 187 z187 525 [y0, some (rf 13 (14)), some (rf 13 (15)), some (rf 13 (17)), y4, y5, y6, some (.inl (c1)), some (.inl (c2)), y9, some (.inr (.inl (c3))), none, some (.inl (c4)), some (.inl (u13))] [] τ (w, σ') := h
      replace h := ei_p h rfl rfl rfl rfl
      obtain ⟨f, g, h⟩ := h
      replace hf := Nat.lt_trans g hf
      clear g
      replace h : EV F f 187 z187 527 [y0, some (rf 13 (14)), some (rf 13 (15)), some (rf 13 (17)), y4, y5, y6, some (.inl (c1)), some (.inl (c2)), y9, some (.inr (.inl (c3))), none, some (.inl (c4)), some (.inl (u13))] [.inr (.inl (c3))] τ (w, σ') := h
      replace h := ei_p h rfl rfl rfl rfl
      obtain ⟨f, g, h⟩ := h
      replace hf := Nat.lt_trans g hf
      clear g
      replace h : EV F f 187 z187 529 [y0, some (rf 13 (14)), some (rf 13 (15)), some (rf 13 (17)), y4, y5, y6, some (.inl (c1)), some (.inl (c2)), y9, some (.inr (.inl (c3))), none, some (.inl (c4)), some (.inl (u13))] [.inl (c4), .inr (.inl (c3))] τ (w, σ') := h
      replace h := ei_p h rfl rfl rfl rfl
      obtain ⟨f, g, h⟩ := h
      replace hf := Nat.lt_trans g hf
      clear g
      replace h : EV F f 187 z187 530 [y0, some (rf 13 (14)), some (rf 13 (15)), some (rf 13 (17)), y4, y5, y6, some (.inl (c1)), some (.inl (c2)), y9, some (.inr (.inl (c3))), none, some (.inl (c4)), some (.inl (u13))] [.inr (.inl ((c4).toInt64)), .inr (.inl (c3))] τ (w, σ') := h
      replace h := ei_p h rfl rfl rfl rfl
      obtain ⟨f, g, h⟩ := h
      replace hf := Nat.lt_trans g hf
      clear g
      replace h : EV F f 187 z187 531 [y0, some (rf 13 (14)), some (rf 13 (15)), some (rf 13 (17)), y4, y5, y6, some (.inl (c1)), some (.inl (c2)), y9, some (.inr (.inl (c3))), none, some (.inl (c4)), some (.inl (u13))] [.inl (lg_cmp (c3) ((c4).toInt64))] τ (w, σ') := h
      replace h := ei_c h rfl rfl rfl
      rcases h with ⟨hp3, f, g, h⟩ | ⟨hp3, f, g, h⟩
      · skip
        replace hp3 : (c3).toInt ≠ ((c4).toInt64).toInt := (ab_lc .ne _ _).mp hp3
        refine Or.inl ⟨hp3, ?_⟩
        replace hf := Nat.lt_trans g hf
        clear g
        replace h : EV F f 187 z187 538 [y0, some (rf 13 (14)), some (rf 13 (15)), some (rf 13 (17)), y4, y5, y6, some (.inl (c1)), some (.inl (c2)), y9, some (.inr (.inl (c3))), none, some (.inl (c4)), some (.inl (u13))] [] τ (w, σ') := h
        replace h := ei_p h rfl rfl rfl rfl
        obtain ⟨f, g, h⟩ := h
        replace hf := Nat.lt_trans g hf
        clear g
        replace h : EV F f 187 z187 539 [y0, some (rf 13 (14)), some (rf 13 (15)), some (rf 13 (17)), y4, y5, y6, some (.inl (c1)), some (.inl (c2)), y9, some (.inr (.inl (c3))), none, some (.inl (c4)), some (.inl (u13))] [.inl (Int32.ofInt 0)] τ (w, σ') := h
        have e := ei_iret h rfl
        cases e
        exact ⟨rfl, rfl⟩
      · skip
        replace hp3 : ¬ ((c3).toInt ≠ ((c4).toInt64).toInt) := (not_congr (ab_lc .ne _ _)).mp hp3
        refine Or.inr ⟨hp3, ?_⟩
        replace hf := Nat.lt_trans g hf
        clear g
        replace h : EV F f 187 z187 534 [y0, some (rf 13 (14)), some (rf 13 (15)), some (rf 13 (17)), y4, y5, y6, some (.inl (c1)), some (.inl (c2)), y9, some (.inr (.inl (c3))), none, some (.inl (c4)), some (.inl (u13))] [] τ (w, σ') := h
        replace h := ei_p h rfl rfl rfl rfl
        obtain ⟨f, g, h⟩ := h
        replace hf := Nat.lt_trans g hf
        clear g
        replace h : EV F f 187 z187 535 [y0, some (rf 13 (14)), some (rf 13 (15)), some (rf 13 (17)), y4, y5, y6, some (.inl (c1)), some (.inl (c2)), y9, some (.inr (.inl (c3))), none, some (.inl (c4)), some (.inl (u13))] [.inl (Int32.ofInt 1)] τ (w, σ') := h
        replace h := ei_p h rfl rfl rfl rfl
        obtain ⟨f, g, h⟩ := h
        replace hf := Nat.lt_trans g hf
        clear g
        replace h : EV F f 187 z187 539 [y0, some (rf 13 (14)), some (rf 13 (15)), some (rf 13 (17)), y4, y5, y6, some (.inl (c1)), some (.inl (c2)), y9, some (.inr (.inl (c3))), none, some (.inl (c4)), some (.inl (u13))] [.inl (Int32.ofInt 1)] τ (w, σ') := h
        have e := ei_iret h rfl
        cases e
        exact ⟨rfl, rfl⟩
    · skip
      replace hp2 : ¬ ((m_i τ 13 (17) (Int32.ofInt 0).toNatClampNeg).toInt ≤ (u13).toInt) := (not_congr ic_ge).mp hp2
      refine Or.inr ⟨hp2, ?_⟩
      replace hf := Nat.lt_trans g hf
      clear g
      replace h : EV F f 187 z187 478 [y0, some (rf 13 (14)), some (rf 13 (15)), some (rf 13 (17)), y4, y5, y6, some (.inl (c1)), some (.inl (c2)), y9, some (.inr (.inl (c3))), none, some (.inl (c4)), some (.inl (u13))] [] τ (w, σ') := h
      replace h := ei_p h rfl rfl rfl rfl
      obtain ⟨f, g, h⟩ := h
      replace hf := Nat.lt_trans g hf
      clear g
      replace h : EV F f 187 z187 479 [y0, some (rf 13 (14)), some (rf 13 (15)), some (rf 13 (17)), y4, y5, y6, some (.inl (c1)), some (.inl (c2)), y9, some (.inr (.inl (c3))), none, some (.inl (c4)), some (.inl (u13))] [rf 13 (15)] τ (w, σ') := h
      replace h := ei_p h rfl rfl rfl rfl
      obtain ⟨f, g, h⟩ := h
      replace hf := Nat.lt_trans g hf
      clear g
      replace h : EV F f 187 z187 481 [y0, some (rf 13 (14)), some (rf 13 (15)), some (rf 13 (17)), y4, y5, y6, some (.inl (c1)), some (.inl (c2)), y9, some (.inr (.inl (c3))), none, some (.inl (c4)), some (.inl (u13))] [.inl (u13), rf 13 (15)] τ (w, σ') := h
      replace h := ei_iald h rfl (fun _ => rfl)
      obtain ⟨vp4, f, g, h⟩ := h
      replace hf := Nat.lt_trans g hf
      clear g
      replace h : EV F f 187 z187 482 [y0, some (rf 13 (14)), some (rf 13 (15)), some (rf 13 (17)), y4, y5, y6, some (.inl (c1)), some (.inl (c2)), y9, some (.inr (.inl (c3))), none, some (.inl (c4)), some (.inl (u13))] [.inl (m_i τ 13 (15) (u13).toNatClampNeg)] τ (w, σ') := h
      refine ⟨vp_2 vp4, ?_⟩
      replace h := ei_p h rfl rfl rfl rfl
      obtain ⟨f, g, h⟩ := h
      replace hf := Nat.lt_trans g hf
      clear g
      replace h : EV F f 187 z187 484 [y0, some (rf 13 (14)), some (rf 13 (15)), some (rf 13 (17)), y4, y5, y6, some (.inl (c1)), some (.inl (c2)), y9, some (.inr (.inl (c3))), none, some (.inl (c4)), some (.inl (u13))] [.inl (Int32.ofInt 10), .inl (m_i τ 13 (15) (u13).toNatClampNeg)] τ (w, σ') := h
      replace h := ei_idiv h rfl
      obtain ⟨hd5, f, g, h⟩ := h
      replace hf := Nat.lt_trans g hf
      clear g
      replace h : EV F f 187 z187 485 [y0, some (rf 13 (14)), some (rf 13 (15)), some (rf 13 (17)), y4, y5, y6, some (.inl (c1)), some (.inl (c2)), y9, some (.inr (.inl (c3))), none, some (.inl (c4)), some (.inl (u13))] [.inl ((m_i τ 13 (15) (u13).toNatClampNeg) / (Int32.ofInt 10))] τ (w, σ') := h
      replace h := ei_p h rfl rfl rfl rfl
      obtain ⟨f, g, h⟩ := h
      replace hf := Nat.lt_trans g hf
      clear g
      replace h : EV F f 187 z187 487 [y0, some (rf 13 (14)), some (rf 13 (15)), some (rf 13 (17)), y4, y5, y6, some (.inl (c1)), some (.inl (c2)), y9, some (.inr (.inl (c3))), none, some (.inl (c4)), some (.inl (u13))] [.inl (Int32.ofInt 10), .inl ((m_i τ 13 (15) (u13).toNatClampNeg) / (Int32.ofInt 10))] τ (w, σ') := h
      replace h := ei_irem h rfl
      obtain ⟨hd6, f, g, h⟩ := h
      replace hf := Nat.lt_trans g hf
      clear g
      replace h : EV F f 187 z187 488 [y0, some (rf 13 (14)), some (rf 13 (15)), some (rf 13 (17)), y4, y5, y6, some (.inl (c1)), some (.inl (c2)), y9, some (.inr (.inl (c3))), none, some (.inl (c4)), some (.inl (u13))] [.inl (((m_i τ 13 (15) (u13).toNatClampNeg) / (Int32.ofInt 10)) - ((m_i τ 13 (15) (u13).toNatClampNeg) / (Int32.ofInt 10)) / (Int32.ofInt 10) * (Int32.ofInt 10))] τ (w, σ') := h
      replace h := ei_p h rfl rfl rfl rfl
      obtain ⟨f, g, h⟩ := h
      replace hf := Nat.lt_trans g hf
      clear g
      replace h : EV F f 187 z187 490 [y0, some (rf 13 (14)), some (rf 13 (15)), some (rf 13 (17)), y4, y5, y6, some (.inl (c1)), some (.inl (c2)), y9, some (.inr (.inl (c3))), none, some (.inl (c4)), some (.inl (u13))] [.inl (c1), .inl (((m_i τ 13 (15) (u13).toNatClampNeg) / (Int32.ofInt 10)) - ((m_i τ 13 (15) (u13).toNatClampNeg) / (Int32.ofInt 10)) / (Int32.ofInt 10) * (Int32.ofInt 10))] τ (w, σ') := h
      replace h := ei_c h rfl rfl rfl
      rcases h with ⟨hp7, f, g, h⟩ | ⟨hp7, f, g, h⟩
      · skip
        replace hp7 : (((m_i τ 13 (15) (u13).toNatClampNeg) / (Int32.ofInt 10)) - ((m_i τ 13 (15) (u13).toNatClampNeg) / (Int32.ofInt 10)) / (Int32.ofInt 10) * (Int32.ofInt 10)).toInt ≠ (c1).toInt := ic_ne.mp hp7
        refine Or.inl ⟨hp7, ?_⟩
        replace hf := Nat.lt_trans g hf
        clear g
        replace h : EV F f 187 z187 519 [y0, some (rf 13 (14)), some (rf 13 (15)), some (rf 13 (17)), y4, y5, y6, some (.inl (c1)), some (.inl (c2)), y9, some (.inr (.inl (c3))), none, some (.inl (c4)), some (.inl (u13))] [] τ (w, σ') := h
        replace h := ei_p h rfl rfl rfl rfl
        obtain ⟨f, g, h⟩ := h
        replace hf := Nat.lt_trans g hf
        clear g
        replace h : EV F f 187 z187 522 [y0, some (rf 13 (14)), some (rf 13 (15)), some (rf 13 (17)), y4, y5, y6, some (.inl (c1)), some (.inl (c2)), y9, some (.inr (.inl (c3))), none, some (.inl (c4)), some (.inl ((u13) + Int32.ofInt 1))] [] τ (w, σ') := h
        replace h := ei_p h rfl rfl rfl rfl
        obtain ⟨f, g, h⟩ := h
        replace hf := Nat.lt_trans g hf
        clear g
        replace h : EV F f 187 z187 470 [y0, some (rf 13 (14)), some (rf 13 (15)), some (rf 13 (17)), y4, y5, y6, some (.inl (c1)), some (.inl (c2)), y9, some (.inr (.inl (c3))), none, some (.inl (c4)), some (.inl ((u13) + Int32.ofInt 1))] [] τ (w, σ') := h
        exact IH f hf ((u13) + Int32.ofInt 1) y0 y4 y5 y6 y9 τ hsτ h
      · skip
        replace hp7 : ¬ ((((m_i τ 13 (15) (u13).toNatClampNeg) / (Int32.ofInt 10)) - ((m_i τ 13 (15) (u13).toNatClampNeg) / (Int32.ofInt 10)) / (Int32.ofInt 10) * (Int32.ofInt 10)).toInt ≠ (c1).toInt) := (not_congr ic_ne).mp hp7
        refine Or.inr ⟨hp7, ?_⟩
        replace hf := Nat.lt_trans g hf
        clear g
        replace h : EV F f 187 z187 493 [y0, some (rf 13 (14)), some (rf 13 (15)), some (rf 13 (17)), y4, y5, y6, some (.inl (c1)), some (.inl (c2)), y9, some (.inr (.inl (c3))), none, some (.inl (c4)), some (.inl (u13))] [] τ (w, σ') := h
        replace h := ei_p h rfl rfl rfl rfl
        obtain ⟨f, g, h⟩ := h
        replace hf := Nat.lt_trans g hf
        clear g
        replace h : EV F f 187 z187 494 [y0, some (rf 13 (14)), some (rf 13 (15)), some (rf 13 (17)), y4, y5, y6, some (.inl (c1)), some (.inl (c2)), y9, some (.inr (.inl (c3))), none, some (.inl (c4)), some (.inl (u13))] [rf 13 (14)] τ (w, σ') := h
        replace h := ei_p h rfl rfl rfl rfl
        obtain ⟨f, g, h⟩ := h
        replace hf := Nat.lt_trans g hf
        clear g
        replace h : EV F f 187 z187 496 [y0, some (rf 13 (14)), some (rf 13 (15)), some (rf 13 (17)), y4, y5, y6, some (.inl (c1)), some (.inl (c2)), y9, some (.inr (.inl (c3))), none, some (.inl (c4)), some (.inl (u13))] [.inl (u13), rf 13 (14)] τ (w, σ') := h
        replace h := ei_p h rfl rfl rfl rfl
        obtain ⟨f, g, h⟩ := h
        replace hf := Nat.lt_trans g hf
        clear g
        replace h : EV F f 187 z187 497 [y0, some (rf 13 (14)), some (rf 13 (15)), some (rf 13 (17)), y4, y5, y6, some (.inl (c1)), some (.inl (c2)), y9, some (.inr (.inl (c3))), none, some (.inl (c4)), some (.inl (u13))] [rf 13 (14), .inl (u13), rf 13 (14)] τ (w, σ') := h
        replace h := ei_p h rfl rfl rfl rfl
        obtain ⟨f, g, h⟩ := h
        replace hf := Nat.lt_trans g hf
        clear g
        replace h : EV F f 187 z187 499 [y0, some (rf 13 (14)), some (rf 13 (15)), some (rf 13 (17)), y4, y5, y6, some (.inl (c1)), some (.inl (c2)), y9, some (.inr (.inl (c3))), none, some (.inl (c4)), some (.inl (u13))] [.inl (u13), rf 13 (14), .inl (u13), rf 13 (14)] τ (w, σ') := h
        replace h := ei_iald h rfl (fun _ => rfl)
        obtain ⟨vp8, f, g, h⟩ := h
        replace hf := Nat.lt_trans g hf
        clear g
        replace h : EV F f 187 z187 500 [y0, some (rf 13 (14)), some (rf 13 (15)), some (rf 13 (17)), y4, y5, y6, some (.inl (c1)), some (.inl (c2)), y9, some (.inr (.inl (c3))), none, some (.inl (c4)), some (.inl (u13))] [.inl (m_i τ 13 (14) (u13).toNatClampNeg), .inl (u13), rf 13 (14)] τ (w, σ') := h
        refine ⟨vp_2 vp8, ?_⟩
        replace h := ei_p h rfl rfl rfl rfl
        obtain ⟨f, g, h⟩ := h
        replace hf := Nat.lt_trans g hf
        clear g
        replace h : EV F f 187 z187 502 [y0, some (rf 13 (14)), some (rf 13 (15)), some (rf 13 (17)), y4, y5, y6, some (.inl (c1)), some (.inl (c2)), y9, some (.inr (.inl (c3))), none, some (.inl (c4)), some (.inl (u13))] [.inl (c2), .inl (m_i τ 13 (14) (u13).toNatClampNeg), .inl (u13), rf 13 (14)] τ (w, σ') := h
        replace h := ei_idiv h rfl
        obtain ⟨hd9, f, g, h⟩ := h
        replace hf := Nat.lt_trans g hf
        clear g
        replace h : EV F f 187 z187 503 [y0, some (rf 13 (14)), some (rf 13 (15)), some (rf 13 (17)), y4, y5, y6, some (.inl (c1)), some (.inl (c2)), y9, some (.inr (.inl (c3))), none, some (.inl (c4)), some (.inl (u13))] [.inl ((m_i τ 13 (14) (u13).toNatClampNeg) / (c2)), .inl (u13), rf 13 (14)] τ (w, σ') := h
        replace h := ei_p h rfl rfl rfl rfl
        obtain ⟨f, g, h⟩ := h
        replace hf := Nat.lt_trans g hf
        clear g
        replace h : EV F f 187 z187 504 [y0, some (rf 13 (14)), some (rf 13 (15)), some (rf 13 (17)), y4, y5, y6, some (.inl (c1)), some (.inl (c2)), y9, some (.inr (.inl (c3))), none, some (.inl (c4)), some (.inl (u13))] [.inl (Int32.ofInt 1), .inl ((m_i τ 13 (14) (u13).toNatClampNeg) / (c2)), .inl (u13), rf 13 (14)] τ (w, σ') := h
        replace h := ei_c h rfl rfl rfl
        rcases h with ⟨hp10, f, g, h⟩ | ⟨hp10, f, g, h⟩
        · skip
          replace hp10 : (1 : Int) ≤ ((m_i τ 13 (14) (u13).toNatClampNeg) / (c2)).toInt := ic_ge.mp hp10
          refine Or.inl ⟨hp10, ?_⟩
          replace hf := Nat.lt_trans g hf
          clear g
          replace h : EV F f 187 z187 511 [y0, some (rf 13 (14)), some (rf 13 (15)), some (rf 13 (17)), y4, y5, y6, some (.inl (c1)), some (.inl (c2)), y9, some (.inr (.inl (c3))), none, some (.inl (c4)), some (.inl (u13))] [.inl (u13), rf 13 (14)] τ (w, σ') := h
          replace h := ei_p h rfl rfl rfl rfl
          obtain ⟨f, g, h⟩ := h
          replace hf := Nat.lt_trans g hf
          clear g
          replace h : EV F f 187 z187 512 [y0, some (rf 13 (14)), some (rf 13 (15)), some (rf 13 (17)), y4, y5, y6, some (.inl (c1)), some (.inl (c2)), y9, some (.inr (.inl (c3))), none, some (.inl (c4)), some (.inl (u13))] [rf 13 (14), .inl (u13), rf 13 (14)] τ (w, σ') := h
          replace h := ei_p h rfl rfl rfl rfl
          obtain ⟨f, g, h⟩ := h
          replace hf := Nat.lt_trans g hf
          clear g
          replace h : EV F f 187 z187 514 [y0, some (rf 13 (14)), some (rf 13 (15)), some (rf 13 (17)), y4, y5, y6, some (.inl (c1)), some (.inl (c2)), y9, some (.inr (.inl (c3))), none, some (.inl (c4)), some (.inl (u13))] [.inl (u13), rf 13 (14), .inl (u13), rf 13 (14)] τ (w, σ') := h
          replace h := ei_iald h rfl (fun _ => rfl)
          obtain ⟨vp11, f, g, h⟩ := h
          replace hf := Nat.lt_trans g hf
          clear g
          replace h : EV F f 187 z187 515 [y0, some (rf 13 (14)), some (rf 13 (15)), some (rf 13 (17)), y4, y5, y6, some (.inl (c1)), some (.inl (c2)), y9, some (.inr (.inl (c3))), none, some (.inl (c4)), some (.inl (u13))] [.inl (m_i τ 13 (14) (u13).toNatClampNeg), .inl (u13), rf 13 (14)] τ (w, σ') := h
          refine ⟨vp_2 vp11, ?_⟩
          replace h := ei_p h rfl rfl rfl rfl
          obtain ⟨f, g, h⟩ := h
          replace hf := Nat.lt_trans g hf
          clear g
          replace h : EV F f 187 z187 517 [y0, some (rf 13 (14)), some (rf 13 (15)), some (rf 13 (17)), y4, y5, y6, some (.inl (c1)), some (.inl (c2)), y9, some (.inr (.inl (c3))), none, some (.inl (c4)), some (.inl (u13))] [.inl (c2), .inl (m_i τ 13 (14) (u13).toNatClampNeg), .inl (u13), rf 13 (14)] τ (w, σ') := h
          replace h := ei_idiv h rfl
          obtain ⟨hd12, f, g, h⟩ := h
          replace hf := Nat.lt_trans g hf
          clear g
          replace h : EV F f 187 z187 518 [y0, some (rf 13 (14)), some (rf 13 (15)), some (rf 13 (17)), y4, y5, y6, some (.inl (c1)), some (.inl (c2)), y9, some (.inr (.inl (c3))), none, some (.inl (c4)), some (.inl (u13))] [.inl ((m_i τ 13 (14) (u13).toNatClampNeg) / (c2)), .inl (u13), rf 13 (14)] τ (w, σ') := h
          replace h := ei_iast h rfl
          obtain ⟨ht13, f, g, h⟩ := h
          replace hf := Nat.lt_trans g hf
          clear g
          obtain ⟨σ14, e15⟩ : ∃ s, s = m_set τ 13 (14) ((u13).toNatClampNeg) (.inl ((m_i τ 13 (14) (u13).toNatClampNeg) / (c2))) := ⟨_, rfl⟩
          rw [← e15] at h
          have hsσ14 : HL σ14 := by rw [e15]; exact HL_set hsτ rfl
          refine ⟨σ14, e15, ?_⟩
          replace h : EV F f 187 z187 519 [y0, some (rf 13 (14)), some (rf 13 (15)), some (rf 13 (17)), y4, y5, y6, some (.inl (c1)), some (.inl (c2)), y9, some (.inr (.inl (c3))), none, some (.inl (c4)), some (.inl (u13))] [] σ14 (w, σ') := h
          refine ⟨vp_2 ht13, ?_⟩
          replace h := ei_p h rfl rfl rfl rfl
          obtain ⟨f, g, h⟩ := h
          replace hf := Nat.lt_trans g hf
          clear g
          replace h : EV F f 187 z187 522 [y0, some (rf 13 (14)), some (rf 13 (15)), some (rf 13 (17)), y4, y5, y6, some (.inl (c1)), some (.inl (c2)), y9, some (.inr (.inl (c3))), none, some (.inl (c4)), some (.inl ((u13) + Int32.ofInt 1))] [] σ14 (w, σ') := h
          replace h := ei_p h rfl rfl rfl rfl
          obtain ⟨f, g, h⟩ := h
          replace hf := Nat.lt_trans g hf
          clear g
          replace h : EV F f 187 z187 470 [y0, some (rf 13 (14)), some (rf 13 (15)), some (rf 13 (17)), y4, y5, y6, some (.inl (c1)), some (.inl (c2)), y9, some (.inr (.inl (c3))), none, some (.inl (c4)), some (.inl ((u13) + Int32.ofInt 1))] [] σ14 (w, σ') := h
          exact IH f hf ((u13) + Int32.ofInt 1) y0 y4 y5 y6 y9 σ14 hsσ14 h
        · skip
          replace hp10 : ¬ ((1 : Int) ≤ ((m_i τ 13 (14) (u13).toNatClampNeg) / (c2)).toInt) := (not_congr ic_ge).mp hp10
          refine Or.inr ⟨hp10, ?_⟩
          replace hf := Nat.lt_trans g hf
          clear g
          replace h : EV F f 187 z187 507 [y0, some (rf 13 (14)), some (rf 13 (15)), some (rf 13 (17)), y4, y5, y6, some (.inl (c1)), some (.inl (c2)), y9, some (.inr (.inl (c3))), none, some (.inl (c4)), some (.inl (u13))] [.inl (u13), rf 13 (14)] τ (w, σ') := h
          replace h := ei_p h rfl rfl rfl rfl
          obtain ⟨f, g, h⟩ := h
          replace hf := Nat.lt_trans g hf
          clear g
          replace h : EV F f 187 z187 508 [y0, some (rf 13 (14)), some (rf 13 (15)), some (rf 13 (17)), y4, y5, y6, some (.inl (c1)), some (.inl (c2)), y9, some (.inr (.inl (c3))), none, some (.inl (c4)), some (.inl (u13))] [.inl (Int32.ofInt 1), .inl (u13), rf 13 (14)] τ (w, σ') := h
          replace h := ei_p h rfl rfl rfl rfl
          obtain ⟨f, g, h⟩ := h
          replace hf := Nat.lt_trans g hf
          clear g
          replace h : EV F f 187 z187 518 [y0, some (rf 13 (14)), some (rf 13 (15)), some (rf 13 (17)), y4, y5, y6, some (.inl (c1)), some (.inl (c2)), y9, some (.inr (.inl (c3))), none, some (.inl (c4)), some (.inl (u13))] [.inl (Int32.ofInt 1), .inl (u13), rf 13 (14)] τ (w, σ') := h
          replace h := ei_iast h rfl
          obtain ⟨ht16, f, g, h⟩ := h
          replace hf := Nat.lt_trans g hf
          clear g
          obtain ⟨σ17, e18⟩ : ∃ s, s = m_set τ 13 (14) ((u13).toNatClampNeg) (.inl (Int32.ofInt 1)) := ⟨_, rfl⟩
          rw [← e18] at h
          have hsσ17 : HL σ17 := by rw [e18]; exact HL_set hsτ rfl
          refine ⟨σ17, e18, ?_⟩
          replace h : EV F f 187 z187 519 [y0, some (rf 13 (14)), some (rf 13 (15)), some (rf 13 (17)), y4, y5, y6, some (.inl (c1)), some (.inl (c2)), y9, some (.inr (.inl (c3))), none, some (.inl (c4)), some (.inl (u13))] [] σ17 (w, σ') := h
          refine ⟨vp_2 ht16, ?_⟩
          replace h := ei_p h rfl rfl rfl rfl
          obtain ⟨f, g, h⟩ := h
          replace hf := Nat.lt_trans g hf
          clear g
          replace h : EV F f 187 z187 522 [y0, some (rf 13 (14)), some (rf 13 (15)), some (rf 13 (17)), y4, y5, y6, some (.inl (c1)), some (.inl (c2)), y9, some (.inr (.inl (c3))), none, some (.inl (c4)), some (.inl ((u13) + Int32.ofInt 1))] [] σ17 (w, σ') := h
          replace h := ei_p h rfl rfl rfl rfl
          obtain ⟨f, g, h⟩ := h
          replace hf := Nat.lt_trans g hf
          clear g
          replace h : EV F f 187 z187 470 [y0, some (rf 13 (14)), some (rf 13 (15)), some (rf 13 (17)), y4, y5, y6, some (.inl (c1)), some (.inl (c2)), y9, some (.inr (.inl (c3))), none, some (.inl (c4)), some (.inl ((u13) + Int32.ofInt 1))] [] σ17 (w, σ') := h
          exact IH f hf ((u13) + Int32.ofInt 1) y0 y4 y5 y6 y9 σ17 hsσ17 h
def J187_413 (u7 : Int32) (u8 : Int32) (u10 : Int64) (t0 : Int32) (τ : mS) (w : mX) (σ' : mS) : Prop := (((u7).toInt = (3 : Int) ∧ J187_426 (u7) (u10) (t0) τ w σ') ∨ (¬ ((u7).toInt = (3 : Int)) ∧ (((0 : Int) ≤ (t0).toInt ∧ (0 ≤ ((Int32.ofInt 5) + (u7)).toInt ∧ ((Int32.ofInt 5) + (u7)).toInt < (τ.2.1 13 (17) : Int)) ∧ ∃ σ5, σ5 = m_set τ 13 (17) (((Int32.ofInt 5) + (u7)).toNatClampNeg) (.inl ((m_i τ 13 (17) ((Int32.ofInt 5) + (u7)).toNatClampNeg) + (Int32.ofInt 1))) ∧ (0 ≤ ((Int32.ofInt 5) + (u7)).toInt ∧ ((Int32.ofInt 5) + (u7)).toInt < (τ.2.1 13 (17) : Int)) ∧ ∃ n, Q187_470 (u7) (u8) (u10) (t0) n (Int32.ofInt 0) σ5 w σ') ∨ (¬ ((0 : Int) ≤ (t0).toInt) ∧ J187_426 (u7) (u10) (t0) τ w σ'))))
set_option maxRecDepth 100000 in
theorem j187_413 {F f : Nat} {σ' τ : mS} {u7 : Int32} {u8 : Int32} {u10 : Int64} {t0 : Int32} {y0 : Option mV} {y4 : Option mV} {y5 : Option mV} {y6 : Option mV} {y9 : Option mV} {y12 : Option mV} {y13 : Option mV} {w : mX} (hsτ : HL τ) (h : EV F f 187 z187 413 [y0, some (rf 13 (14)), some (rf 13 (15)), some (rf 13 (17)), y4, y5, y6, some (.inl (u7)), some (.inl (u8)), y9, some (.inr (.inl (u10))), none, y12, y13] [.inl (t0)] τ (w, σ')) : J187_413 u7 u8 u10 t0 τ w σ' := by
  unfold J187_413
  replace h := ei_p h rfl rfl rfl rfl
  obtain ⟨f, g, h⟩ := h
  clear g
  replace h : EV F f 187 z187 415 [y0, some (rf 13 (14)), some (rf 13 (15)), some (rf 13 (17)), y4, y5, y6, some (.inl (u7)), some (.inl (u8)), y9, some (.inr (.inl (u10))), none, some (.inl (t0)), y13] [] τ (w, σ') := h
  replace h := ei_p h rfl rfl rfl rfl
  obtain ⟨f, g, h⟩ := h
  clear g
  replace h : EV F f 187 z187 417 [y0, some (rf 13 (14)), some (rf 13 (15)), some (rf 13 (17)), y4, y5, y6, some (.inl (u7)), some (.inl (u8)), y9, some (.inr (.inl (u10))), none, some (.inl (t0)), y13] [.inl (u7)] τ (w, σ') := h
  replace h := ei_p h rfl rfl rfl rfl
  obtain ⟨f, g, h⟩ := h
  clear g
  replace h : EV F f 187 z187 418 [y0, some (rf 13 (14)), some (rf 13 (15)), some (rf 13 (17)), y4, y5, y6, some (.inl (u7)), some (.inl (u8)), y9, some (.inr (.inl (u10))), none, some (.inl (t0)), y13] [.inl (Int32.ofInt 3), .inl (u7)] τ (w, σ') := h
  replace h := ei_c h rfl rfl rfl
  rcases h with ⟨hp1, f, g, h⟩ | ⟨hp1, f, g, h⟩
  · skip
    replace hp1 : (u7).toInt = (3 : Int) := ic_eq.mp hp1
    refine Or.inl ⟨hp1, ?_⟩
    clear g
    replace h : EV F f 187 z187 426 [y0, some (rf 13 (14)), some (rf 13 (15)), some (rf 13 (17)), y4, y5, y6, some (.inl (u7)), some (.inl (u8)), y9, some (.inr (.inl (u10))), none, some (.inl (t0)), y13] [] τ (w, σ') := h
    exact j187_426 hsτ h
  · skip
    replace hp1 : ¬ ((u7).toInt = (3 : Int)) := (not_congr ic_eq).mp hp1
    refine Or.inr ⟨hp1, ?_⟩
    clear g
    replace h : EV F f 187 z187 421 [y0, some (rf 13 (14)), some (rf 13 (15)), some (rf 13 (17)), y4, y5, y6, some (.inl (u7)), some (.inl (u8)), y9, some (.inr (.inl (u10))), none, some (.inl (t0)), y13] [] τ (w, σ') := h
    replace h := ei_p h rfl rfl rfl rfl
    obtain ⟨f, g, h⟩ := h
    clear g
    replace h : EV F f 187 z187 423 [y0, some (rf 13 (14)), some (rf 13 (15)), some (rf 13 (17)), y4, y5, y6, some (.inl (u7)), some (.inl (u8)), y9, some (.inr (.inl (u10))), none, some (.inl (t0)), y13] [.inl (t0)] τ (w, σ') := h
    replace h := ei_c h rfl rfl rfl
    rcases h with ⟨hp2, f, g, h⟩ | ⟨hp2, f, g, h⟩
    · skip
      replace hp2 : (0 : Int) ≤ (t0).toInt := ic_ge.mp hp2
      refine Or.inl ⟨hp2, ?_⟩
      clear g
      replace h : EV F f 187 z187 457 [y0, some (rf 13 (14)), some (rf 13 (15)), some (rf 13 (17)), y4, y5, y6, some (.inl (u7)), some (.inl (u8)), y9, some (.inr (.inl (u10))), none, some (.inl (t0)), y13] [] τ (w, σ') := h
      replace h := ei_p h rfl rfl rfl rfl
      obtain ⟨f, g, h⟩ := h
      clear g
      replace h : EV F f 187 z187 458 [y0, some (rf 13 (14)), some (rf 13 (15)), some (rf 13 (17)), y4, y5, y6, some (.inl (u7)), some (.inl (u8)), y9, some (.inr (.inl (u10))), none, some (.inl (t0)), y13] [rf 13 (17)] τ (w, σ') := h
      replace h := ei_p h rfl rfl rfl rfl
      obtain ⟨f, g, h⟩ := h
      clear g
      replace h : EV F f 187 z187 459 [y0, some (rf 13 (14)), some (rf 13 (15)), some (rf 13 (17)), y4, y5, y6, some (.inl (u7)), some (.inl (u8)), y9, some (.inr (.inl (u10))), none, some (.inl (t0)), y13] [.inl (Int32.ofInt 5), rf 13 (17)] τ (w, σ') := h
      replace h := ei_p h rfl rfl rfl rfl
      obtain ⟨f, g, h⟩ := h
      clear g
      replace h : EV F f 187 z187 461 [y0, some (rf 13 (14)), some (rf 13 (15)), some (rf 13 (17)), y4, y5, y6, some (.inl (u7)), some (.inl (u8)), y9, some (.inr (.inl (u10))), none, some (.inl (t0)), y13] [.inl (u7), .inl (Int32.ofInt 5), rf 13 (17)] τ (w, σ') := h
      replace h := ei_p h rfl rfl rfl rfl
      obtain ⟨f, g, h⟩ := h
      clear g
      replace h : EV F f 187 z187 462 [y0, some (rf 13 (14)), some (rf 13 (15)), some (rf 13 (17)), y4, y5, y6, some (.inl (u7)), some (.inl (u8)), y9, some (.inr (.inl (u10))), none, some (.inl (t0)), y13] [.inl ((Int32.ofInt 5) + (u7)), rf 13 (17)] τ (w, σ') := h
      replace h := ei_p h rfl rfl rfl rfl
      obtain ⟨f, g, h⟩ := h
      clear g
      replace h : EV F f 187 z187 463 [y0, some (rf 13 (14)), some (rf 13 (15)), some (rf 13 (17)), y4, y5, y6, some (.inl (u7)), some (.inl (u8)), y9, some (.inr (.inl (u10))), none, some (.inl (t0)), y13] [.inl ((Int32.ofInt 5) + (u7)), rf 13 (17), .inl ((Int32.ofInt 5) + (u7)), rf 13 (17)] τ (w, σ') := h
      replace h := ei_iald h rfl (fun _ => rfl)
      obtain ⟨vp3, f, g, h⟩ := h
      clear g
      replace h : EV F f 187 z187 464 [y0, some (rf 13 (14)), some (rf 13 (15)), some (rf 13 (17)), y4, y5, y6, some (.inl (u7)), some (.inl (u8)), y9, some (.inr (.inl (u10))), none, some (.inl (t0)), y13] [.inl (m_i τ 13 (17) ((Int32.ofInt 5) + (u7)).toNatClampNeg), .inl ((Int32.ofInt 5) + (u7)), rf 13 (17)] τ (w, σ') := h
      refine ⟨vp_2 vp3, ?_⟩
      replace h := ei_p h rfl rfl rfl rfl
      obtain ⟨f, g, h⟩ := h
      clear g
      replace h : EV F f 187 z187 465 [y0, some (rf 13 (14)), some (rf 13 (15)), some (rf 13 (17)), y4, y5, y6, some (.inl (u7)), some (.inl (u8)), y9, some (.inr (.inl (u10))), none, some (.inl (t0)), y13] [.inl (Int32.ofInt 1), .inl (m_i τ 13 (17) ((Int32.ofInt 5) + (u7)).toNatClampNeg), .inl ((Int32.ofInt 5) + (u7)), rf 13 (17)] τ (w, σ') := h
      replace h := ei_p h rfl rfl rfl rfl
      obtain ⟨f, g, h⟩ := h
      clear g
      replace h : EV F f 187 z187 466 [y0, some (rf 13 (14)), some (rf 13 (15)), some (rf 13 (17)), y4, y5, y6, some (.inl (u7)), some (.inl (u8)), y9, some (.inr (.inl (u10))), none, some (.inl (t0)), y13] [.inl ((m_i τ 13 (17) ((Int32.ofInt 5) + (u7)).toNatClampNeg) + (Int32.ofInt 1)), .inl ((Int32.ofInt 5) + (u7)), rf 13 (17)] τ (w, σ') := h
      replace h := ei_iast h rfl
      obtain ⟨ht4, f, g, h⟩ := h
      clear g
      obtain ⟨σ5, e6⟩ : ∃ s, s = m_set τ 13 (17) (((Int32.ofInt 5) + (u7)).toNatClampNeg) (.inl ((m_i τ 13 (17) ((Int32.ofInt 5) + (u7)).toNatClampNeg) + (Int32.ofInt 1))) := ⟨_, rfl⟩
      rw [← e6] at h
      have hsσ5 : HL σ5 := by rw [e6]; exact HL_set hsτ rfl
      refine ⟨σ5, e6, ?_⟩
      replace h : EV F f 187 z187 467 [y0, some (rf 13 (14)), some (rf 13 (15)), some (rf 13 (17)), y4, y5, y6, some (.inl (u7)), some (.inl (u8)), y9, some (.inr (.inl (u10))), none, some (.inl (t0)), y13] [] σ5 (w, σ') := h
      refine ⟨vp_2 ht4, ?_⟩
      replace h := ei_p h rfl rfl rfl rfl
      obtain ⟨f, g, h⟩ := h
      clear g
      replace h : EV F f 187 z187 468 [y0, some (rf 13 (14)), some (rf 13 (15)), some (rf 13 (17)), y4, y5, y6, some (.inl (u7)), some (.inl (u8)), y9, some (.inr (.inl (u10))), none, some (.inl (t0)), y13] [.inl (Int32.ofInt 0)] σ5 (w, σ') := h
      replace h := ei_p h rfl rfl rfl rfl
      obtain ⟨f, g, h⟩ := h
      clear g
      replace h : EV F f 187 z187 470 [y0, some (rf 13 (14)), some (rf 13 (15)), some (rf 13 (17)), y4, y5, y6, some (.inl (u7)), some (.inl (u8)), y9, some (.inr (.inl (u10))), none, some (.inl (t0)), some (.inl (Int32.ofInt 0))] [] σ5 (w, σ') := h
      exact ⟨f + 1, q187_470 (f + 1) f (Nat.lt_succ_self f) (Int32.ofInt 0) _ _ _ _ _ σ5 hsσ5 h⟩
    · skip
      replace hp2 : ¬ ((0 : Int) ≤ (t0).toInt) := (not_congr ic_ge).mp hp2
      refine Or.inr ⟨hp2, ?_⟩
      clear g
      replace h : EV F f 187 z187 426 [y0, some (rf 13 (14)), some (rf 13 (15)), some (rf 13 (17)), y4, y5, y6, some (.inl (u7)), some (.inl (u8)), y9, some (.inr (.inl (u10))), none, some (.inl (t0)), y13] [] τ (w, σ') := h
      exact j187_426 hsτ h
def J187_394 (u7 : Int32) (u8 : Int32) (u10 : Int64) (τ : mS) (w : mX) (σ' : mS) : Prop := J187_413 (u7) (u8) (u10) (Int32.ofInt (-2)) τ w σ'
set_option maxRecDepth 100000 in
theorem j187_394 {F f : Nat} {σ' τ : mS} {u7 : Int32} {u8 : Int32} {u10 : Int64} {y0 : Option mV} {y4 : Option mV} {y5 : Option mV} {y6 : Option mV} {y9 : Option mV} {y12 : Option mV} {y13 : Option mV} {w : mX} (hsτ : HL τ) (h : EV F f 187 z187 394 [y0, some (rf 13 (14)), some (rf 13 (15)), some (rf 13 (17)), y4, y5, y6, some (.inl (u7)), some (.inl (u8)), y9, some (.inr (.inl (u10))), none, y12, y13] [] τ (w, σ')) : J187_394 u7 u8 u10 τ w σ' := by
  unfold J187_394
  replace h := ei_p h rfl rfl rfl rfl
  obtain ⟨f, g, h⟩ := h
  clear g
  replace h : EV F f 187 z187 396 [y0, some (rf 13 (14)), some (rf 13 (15)), some (rf 13 (17)), y4, y5, y6, some (.inl (u7)), some (.inl (u8)), y9, some (.inr (.inl (u10))), none, y12, y13] [.inl (Int32.ofInt (-2))] τ (w, σ') := h
  replace h := ei_p h rfl rfl rfl rfl
  obtain ⟨f, g, h⟩ := h
  clear g
  replace h : EV F f 187 z187 413 [y0, some (rf 13 (14)), some (rf 13 (15)), some (rf 13 (17)), y4, y5, y6, some (.inl (u7)), some (.inl (u8)), y9, some (.inr (.inl (u10))), none, y12, y13] [.inl (Int32.ofInt (-2))] τ (w, σ') := h
  exact j187_413 hsτ h
def J187_363 (u7 : Int32) (u8 : Int32) (t0 : Int32) (τ : mS) (w : mX) (σ' : mS) : Prop := ∃ v1 σ2, gF τ σ2 ∧ HL σ2 ∧ P172 τ (Int32.ofInt 8) (u7) (u8) (Int32.ofInt 0) (Int32.ofInt 0) (Int32.ofInt 0) (Int32.ofInt 0) (Int32.ofInt 0) (.inl (some (.inr (.inl v1)))) σ2 ∧ (((u8).toInt < (2 : Int) ∧ J187_394 (u7) (u8) (v1) σ2 w σ') ∨ (¬ ((u8).toInt < (2 : Int)) ∧ (((u8).toInt ≤ (5 : Int) ∧ (((t0).toInt ≠ (3 : Int) ∧ J187_413 (u7) (u8) (v1) ((t0) + (Int32.ofInt 1)) σ2 w σ') ∨ (¬ ((t0).toInt ≠ (3 : Int)) ∧ J187_413 (u7) (u8) (v1) (Int32.ofInt (-1)) σ2 w σ'))) ∨ (¬ ((u8).toInt ≤ (5 : Int)) ∧ J187_394 (u7) (u8) (v1) σ2 w σ'))))
set_option maxRecDepth 100000 in
theorem j187_363 {F f : Nat} {σ' τ : mS} {u7 : Int32} {u8 : Int32} {t0 : Int32} {y4 : Option mV} {y5 : Option mV} {y6 : Option mV} {y9 : Option mV} {y10 : Option mV} {y11 : Option mV} {y12 : Option mV} {y13 : Option mV} {w : mX} (hsτ : HL τ) (h : EV F f 187 z187 363 [some (rf 11 (0)), some (rf 13 (14)), some (rf 13 (15)), some (rf 13 (17)), y4, y5, y6, some (.inl (u7)), some (.inl (u8)), y9, y10, y11, y12, y13] [.inl (t0)] τ (w, σ')) : J187_363 u7 u8 t0 τ w σ' := by
  unfold J187_363
  replace h := ei_p h rfl rfl rfl rfl
  obtain ⟨f, g, h⟩ := h
  clear g
  replace h : EV F f 187 z187 365 [some (rf 11 (0)), some (rf 13 (14)), some (rf 13 (15)), some (rf 13 (17)), y4, y5, y6, some (.inl (u7)), some (.inl (u8)), some (.inl (t0)), y10, y11, y12, y13] [] τ (w, σ') := h
  replace h := ei_p h rfl rfl rfl rfl
  obtain ⟨f, g, h⟩ := h
  clear g
  replace h : EV F f 187 z187 366 [some (rf 11 (0)), some (rf 13 (14)), some (rf 13 (15)), some (rf 13 (17)), y4, y5, y6, some (.inl (u7)), some (.inl (u8)), some (.inl (t0)), y10, y11, y12, y13] [rf 11 (0)] τ (w, σ') := h
  replace h := ei_p h rfl rfl rfl rfl
  obtain ⟨f, g, h⟩ := h
  clear g
  replace h : EV F f 187 z187 368 [some (rf 11 (0)), some (rf 13 (14)), some (rf 13 (15)), some (rf 13 (17)), y4, y5, y6, some (.inl (u7)), some (.inl (u8)), some (.inl (t0)), y10, y11, y12, y13] [.inl (Int32.ofInt 8), rf 11 (0)] τ (w, σ') := h
  replace h := ei_p h rfl rfl rfl rfl
  obtain ⟨f, g, h⟩ := h
  clear g
  replace h : EV F f 187 z187 370 [some (rf 11 (0)), some (rf 13 (14)), some (rf 13 (15)), some (rf 13 (17)), y4, y5, y6, some (.inl (u7)), some (.inl (u8)), some (.inl (t0)), y10, y11, y12, y13] [.inl (u7), .inl (Int32.ofInt 8), rf 11 (0)] τ (w, σ') := h
  replace h := ei_p h rfl rfl rfl rfl
  obtain ⟨f, g, h⟩ := h
  clear g
  replace h : EV F f 187 z187 372 [some (rf 11 (0)), some (rf 13 (14)), some (rf 13 (15)), some (rf 13 (17)), y4, y5, y6, some (.inl (u7)), some (.inl (u8)), some (.inl (t0)), y10, y11, y12, y13] [.inl (u8), .inl (u7), .inl (Int32.ofInt 8), rf 11 (0)] τ (w, σ') := h
  replace h := ei_p h rfl rfl rfl rfl
  obtain ⟨f, g, h⟩ := h
  clear g
  replace h : EV F f 187 z187 373 [some (rf 11 (0)), some (rf 13 (14)), some (rf 13 (15)), some (rf 13 (17)), y4, y5, y6, some (.inl (u7)), some (.inl (u8)), some (.inl (t0)), y10, y11, y12, y13] [.inl (Int32.ofInt 0), .inl (u8), .inl (u7), .inl (Int32.ofInt 8), rf 11 (0)] τ (w, σ') := h
  replace h := ei_p h rfl rfl rfl rfl
  obtain ⟨f, g, h⟩ := h
  clear g
  replace h : EV F f 187 z187 374 [some (rf 11 (0)), some (rf 13 (14)), some (rf 13 (15)), some (rf 13 (17)), y4, y5, y6, some (.inl (u7)), some (.inl (u8)), some (.inl (t0)), y10, y11, y12, y13] [.inl (Int32.ofInt 0), .inl (Int32.ofInt 0), .inl (u8), .inl (u7), .inl (Int32.ofInt 8), rf 11 (0)] τ (w, σ') := h
  replace h := ei_p h rfl rfl rfl rfl
  obtain ⟨f, g, h⟩ := h
  clear g
  replace h : EV F f 187 z187 375 [some (rf 11 (0)), some (rf 13 (14)), some (rf 13 (15)), some (rf 13 (17)), y4, y5, y6, some (.inl (u7)), some (.inl (u8)), some (.inl (t0)), y10, y11, y12, y13] [.inl (Int32.ofInt 0), .inl (Int32.ofInt 0), .inl (Int32.ofInt 0), .inl (u8), .inl (u7), .inl (Int32.ofInt 8), rf 11 (0)] τ (w, σ') := h
  replace h := ei_p h rfl rfl rfl rfl
  obtain ⟨f, g, h⟩ := h
  clear g
  replace h : EV F f 187 z187 376 [some (rf 11 (0)), some (rf 13 (14)), some (rf 13 (15)), some (rf 13 (17)), y4, y5, y6, some (.inl (u7)), some (.inl (u8)), some (.inl (t0)), y10, y11, y12, y13] [.inl (Int32.ofInt 0), .inl (Int32.ofInt 0), .inl (Int32.ofInt 0), .inl (Int32.ofInt 0), .inl (u8), .inl (u7), .inl (Int32.ofInt 8), rf 11 (0)] τ (w, σ') := h
  replace h := ei_p h rfl rfl rfl rfl
  obtain ⟨f, g, h⟩ := h
  clear g
  replace h : EV F f 187 z187 377 [some (rf 11 (0)), some (rf 13 (14)), some (rf 13 (15)), some (rf 13 (17)), y4, y5, y6, some (.inl (u7)), some (.inl (u8)), some (.inl (t0)), y10, y11, y12, y13] [.inl (Int32.ofInt 0), .inl (Int32.ofInt 0), .inl (Int32.ofInt 0), .inl (Int32.ofInt 0), .inl (Int32.ofInt 0), .inl (u8), .inl (u7), .inl (Int32.ofInt 8), rf 11 (0)] τ (w, σ') := h
  replace h := bx_L (ei_s (as := [.inl (Int32.ofInt 0), .inl (Int32.ofInt 0), .inl (Int32.ofInt 0), .inl (Int32.ofInt 0), .inl (Int32.ofInt 0), .inl (u8), .inl (u7), .inl (Int32.ofInt 8), rf 11 (0)]) h rfl (Nat.le_of_ble_eq_true rfl) rfl rfl) z172_at rfl
  rcases h with ⟨v1, σ2, r3, f, g, h⟩ | ⟨b, σ2, r3, e⟩
  rotate_left
  · exact (nt172 (x172 hsτ r3)).elim
  clear g
  have p4 := x172 hsτ r3
  have hsσ2 : HL σ2 := hl172 p4
  refine ⟨v1, σ2, gF_r r3 rfl hsτ, hsσ2, p4, ?_⟩
  replace h : EV F f 187 z187 380 [some (rf 11 (0)), some (rf 13 (14)), some (rf 13 (15)), some (rf 13 (17)), y4, y5, y6, some (.inl (u7)), some (.inl (u8)), some (.inl (t0)), y10, y11, y12, y13] [.inr (.inl (v1))] σ2 (w, σ') := h
  replace h := ei_p h rfl rfl rfl rfl
  obtain ⟨f, g, h⟩ := h
  clear g
  replace h : EV F f 187 z187 382 [some (rf 11 (0)), some (rf 13 (14)), some (rf 13 (15)), some (rf 13 (17)), y4, y5, y6, some (.inl (u7)), some (.inl (u8)), some (.inl (t0)), some (.inr (.inl (v1))), none, y12, y13] [] σ2 (w, σ') := h
  replace h := ei_p h rfl rfl rfl rfl
  obtain ⟨f, g, h⟩ := h
  clear g
  replace h : EV F f 187 z187 384 [some (rf 11 (0)), some (rf 13 (14)), some (rf 13 (15)), some (rf 13 (17)), y4, y5, y6, some (.inl (u7)), some (.inl (u8)), some (.inl (t0)), some (.inr (.inl (v1))), none, y12, y13] [.inl (u8)] σ2 (w, σ') := h
  replace h := ei_p h rfl rfl rfl rfl
  obtain ⟨f, g, h⟩ := h
  clear g
  replace h : EV F f 187 z187 385 [some (rf 11 (0)), some (rf 13 (14)), some (rf 13 (15)), some (rf 13 (17)), y4, y5, y6, some (.inl (u7)), some (.inl (u8)), some (.inl (t0)), some (.inr (.inl (v1))), none, y12, y13] [.inl (Int32.ofInt 2), .inl (u8)] σ2 (w, σ') := h
  replace h := ei_c h rfl rfl rfl
  rcases h with ⟨hp5, f, g, h⟩ | ⟨hp5, f, g, h⟩
  · skip
    replace hp5 : (u8).toInt < (2 : Int) := ic_lt.mp hp5
    refine Or.inl ⟨hp5, ?_⟩
    clear g
    replace h : EV F f 187 z187 394 [some (rf 11 (0)), some (rf 13 (14)), some (rf 13 (15)), some (rf 13 (17)), y4, y5, y6, some (.inl (u7)), some (.inl (u8)), some (.inl (t0)), some (.inr (.inl (v1))), none, y12, y13] [] σ2 (w, σ') := h
    exact j187_394 hsσ2 h
  · skip
    replace hp5 : ¬ ((u8).toInt < (2 : Int)) := (not_congr ic_lt).mp hp5
    refine Or.inr ⟨hp5, ?_⟩
    clear g
    replace h : EV F f 187 z187 388 [some (rf 11 (0)), some (rf 13 (14)), some (rf 13 (15)), some (rf 13 (17)), y4, y5, y6, some (.inl (u7)), some (.inl (u8)), some (.inl (t0)), some (.inr (.inl (v1))), none, y12, y13] [] σ2 (w, σ') := h
    replace h := ei_p h rfl rfl rfl rfl
    obtain ⟨f, g, h⟩ := h
    clear g
    replace h : EV F f 187 z187 390 [some (rf 11 (0)), some (rf 13 (14)), some (rf 13 (15)), some (rf 13 (17)), y4, y5, y6, some (.inl (u7)), some (.inl (u8)), some (.inl (t0)), some (.inr (.inl (v1))), none, y12, y13] [.inl (u8)] σ2 (w, σ') := h
    replace h := ei_p h rfl rfl rfl rfl
    obtain ⟨f, g, h⟩ := h
    clear g
    replace h : EV F f 187 z187 391 [some (rf 11 (0)), some (rf 13 (14)), some (rf 13 (15)), some (rf 13 (17)), y4, y5, y6, some (.inl (u7)), some (.inl (u8)), some (.inl (t0)), some (.inr (.inl (v1))), none, y12, y13] [.inl (Int32.ofInt 5), .inl (u8)] σ2 (w, σ') := h
    replace h := ei_c h rfl rfl rfl
    rcases h with ⟨hp6, f, g, h⟩ | ⟨hp6, f, g, h⟩
    · skip
      replace hp6 : (u8).toInt ≤ (5 : Int) := ic_le.mp hp6
      refine Or.inl ⟨hp6, ?_⟩
      clear g
      replace h : EV F f 187 z187 399 [some (rf 11 (0)), some (rf 13 (14)), some (rf 13 (15)), some (rf 13 (17)), y4, y5, y6, some (.inl (u7)), some (.inl (u8)), some (.inl (t0)), some (.inr (.inl (v1))), none, y12, y13] [] σ2 (w, σ') := h
      replace h := ei_p h rfl rfl rfl rfl
      obtain ⟨f, g, h⟩ := h
      clear g
      replace h : EV F f 187 z187 401 [some (rf 11 (0)), some (rf 13 (14)), some (rf 13 (15)), some (rf 13 (17)), y4, y5, y6, some (.inl (u7)), some (.inl (u8)), some (.inl (t0)), some (.inr (.inl (v1))), none, y12, y13] [.inl (t0)] σ2 (w, σ') := h
      replace h := ei_p h rfl rfl rfl rfl
      obtain ⟨f, g, h⟩ := h
      clear g
      replace h : EV F f 187 z187 402 [some (rf 11 (0)), some (rf 13 (14)), some (rf 13 (15)), some (rf 13 (17)), y4, y5, y6, some (.inl (u7)), some (.inl (u8)), some (.inl (t0)), some (.inr (.inl (v1))), none, y12, y13] [.inl (Int32.ofInt 3), .inl (t0)] σ2 (w, σ') := h
      replace h := ei_c h rfl rfl rfl
      rcases h with ⟨hp7, f, g, h⟩ | ⟨hp7, f, g, h⟩
      · skip
        replace hp7 : (t0).toInt ≠ (3 : Int) := ic_ne.mp hp7
        refine Or.inl ⟨hp7, ?_⟩
        clear g
        replace h : EV F f 187 z187 409 [some (rf 11 (0)), some (rf 13 (14)), some (rf 13 (15)), some (rf 13 (17)), y4, y5, y6, some (.inl (u7)), some (.inl (u8)), some (.inl (t0)), some (.inr (.inl (v1))), none, y12, y13] [] σ2 (w, σ') := h
        replace h := ei_p h rfl rfl rfl rfl
        obtain ⟨f, g, h⟩ := h
        clear g
        replace h : EV F f 187 z187 411 [some (rf 11 (0)), some (rf 13 (14)), some (rf 13 (15)), some (rf 13 (17)), y4, y5, y6, some (.inl (u7)), some (.inl (u8)), some (.inl (t0)), some (.inr (.inl (v1))), none, y12, y13] [.inl (t0)] σ2 (w, σ') := h
        replace h := ei_p h rfl rfl rfl rfl
        obtain ⟨f, g, h⟩ := h
        clear g
        replace h : EV F f 187 z187 412 [some (rf 11 (0)), some (rf 13 (14)), some (rf 13 (15)), some (rf 13 (17)), y4, y5, y6, some (.inl (u7)), some (.inl (u8)), some (.inl (t0)), some (.inr (.inl (v1))), none, y12, y13] [.inl (Int32.ofInt 1), .inl (t0)] σ2 (w, σ') := h
        replace h := ei_p h rfl rfl rfl rfl
        obtain ⟨f, g, h⟩ := h
        clear g
        replace h : EV F f 187 z187 413 [some (rf 11 (0)), some (rf 13 (14)), some (rf 13 (15)), some (rf 13 (17)), y4, y5, y6, some (.inl (u7)), some (.inl (u8)), some (.inl (t0)), some (.inr (.inl (v1))), none, y12, y13] [.inl ((t0) + (Int32.ofInt 1))] σ2 (w, σ') := h
        exact j187_413 hsσ2 h
      · skip
        replace hp7 : ¬ ((t0).toInt ≠ (3 : Int)) := (not_congr ic_ne).mp hp7
        refine Or.inr ⟨hp7, ?_⟩
        clear g
        replace h : EV F f 187 z187 405 [some (rf 11 (0)), some (rf 13 (14)), some (rf 13 (15)), some (rf 13 (17)), y4, y5, y6, some (.inl (u7)), some (.inl (u8)), some (.inl (t0)), some (.inr (.inl (v1))), none, y12, y13] [] σ2 (w, σ') := h
        replace h := ei_p h rfl rfl rfl rfl
        obtain ⟨f, g, h⟩ := h
        clear g
        replace h : EV F f 187 z187 406 [some (rf 11 (0)), some (rf 13 (14)), some (rf 13 (15)), some (rf 13 (17)), y4, y5, y6, some (.inl (u7)), some (.inl (u8)), some (.inl (t0)), some (.inr (.inl (v1))), none, y12, y13] [.inl (Int32.ofInt (-1))] σ2 (w, σ') := h
        replace h := ei_p h rfl rfl rfl rfl
        obtain ⟨f, g, h⟩ := h
        clear g
        replace h : EV F f 187 z187 413 [some (rf 11 (0)), some (rf 13 (14)), some (rf 13 (15)), some (rf 13 (17)), y4, y5, y6, some (.inl (u7)), some (.inl (u8)), some (.inl (t0)), some (.inr (.inl (v1))), none, y12, y13] [.inl (Int32.ofInt (-1))] σ2 (w, σ') := h
        exact j187_413 hsσ2 h
    · skip
      replace hp6 : ¬ ((u8).toInt ≤ (5 : Int)) := (not_congr ic_le).mp hp6
      refine Or.inr ⟨hp6, ?_⟩
      clear g
      replace h : EV F f 187 z187 394 [some (rf 11 (0)), some (rf 13 (14)), some (rf 13 (15)), some (rf 13 (17)), y4, y5, y6, some (.inl (u7)), some (.inl (u8)), some (.inl (t0)), some (.inr (.inl (v1))), none, y12, y13] [] σ2 (w, σ') := h
      exact j187_394 hsσ2 h
def J187_330 (τ : mS) (w : mX) (σ' : mS) : Prop := w = .inl (some (.inl (Int32.ofInt 0))) ∧ σ' = τ
set_option maxRecDepth 100000 in
theorem j187_330 {F f : Nat} {σ' τ : mS} {y0 : Option mV} {y1 : Option mV} {y2 : Option mV} {y3 : Option mV} {y4 : Option mV} {y5 : Option mV} {y6 : Option mV} {y7 : Option mV} {y8 : Option mV} {y9 : Option mV} {y10 : Option mV} {y11 : Option mV} {y12 : Option mV} {y13 : Option mV} {w : mX} (hsτ : HL τ) (h : EV F f 187 z187 330 [y0, y1, y2, y3, y4, y5, y6, y7, y8, y9, y10, y11, y12, y13] [] τ (w, σ')) : J187_330 τ w σ' := by
  unfold J187_330
  replace h := ei_p h rfl rfl rfl rfl
  obtain ⟨f, g, h⟩ := h
  clear g
  replace h : EV F f 187 z187 331 [y0, y1, y2, y3, y4, y5, y6, y7, y8, y9, y10, y11, y12, y13] [.inl (Int32.ofInt 0)] τ (w, σ') := h
  have e := ei_iret h rfl
  cases e
  exact ⟨rfl, rfl⟩
def J187_190 (t0 : Int64) (t1 : Int64) (τ : mS) (w : mX) (σ' : mS) : Prop := (((t1).toInt ≠ (t0).toInt ∧ w = .inl (some (.inl (Int32.ofInt 0))) ∧ σ' = τ) ∨ (¬ ((t1).toInt ≠ (t0).toInt) ∧ w = .inl (some (.inl (Int32.ofInt 1))) ∧ σ' = τ))
set_option maxRecDepth 100000 in
theorem j187_190 {F f : Nat} {σ' τ : mS} {t0 : Int64} {t1 : Int64} {y0 : Option mV} {y1 : Option mV} {y2 : Option mV} {y3 : Option mV} {y4 : Option mV} {y5 : Option mV} {y6 : Option mV} {y7 : Option mV} {y8 : Option mV} {y9 : Option mV} {y10 : Option mV} {y11 : Option mV} {y12 : Option mV} {y13 : Option mV} {w : mX} (hsτ : HL τ) (h : EV F f 187 z187 190 [y0, y1, y2, y3, y4, y5, y6, y7, y8, y9, y10, y11, y12, y13] [.inr (.inl (t0)), .inr (.inl (t1))] τ (w, σ')) : J187_190 t0 t1 τ w σ' := by
  unfold J187_190
  replace h := ei_p h rfl rfl rfl rfl
  obtain ⟨f, g, h⟩ := h
  clear g
  replace h : EV F f 187 z187 191 [y0, y1, y2, y3, y4, y5, y6, y7, y8, y9, y10, y11, y12, y13] [.inl (lg_cmp (t1) (t0))] τ (w, σ') := h
  replace h := ei_c h rfl rfl rfl
  rcases h with ⟨hp1, f, g, h⟩ | ⟨hp1, f, g, h⟩
  · skip
    replace hp1 : (t1).toInt ≠ (t0).toInt := (ab_lc .ne _ _).mp hp1
    refine Or.inl ⟨hp1, ?_⟩
    clear g
    replace h : EV F f 187 z187 198 [y0, y1, y2, y3, y4, y5, y6, y7, y8, y9, y10, y11, y12, y13] [] τ (w, σ') := h
    replace h := ei_p h rfl rfl rfl rfl
    obtain ⟨f, g, h⟩ := h
    clear g
    replace h : EV F f 187 z187 199 [y0, y1, y2, y3, y4, y5, y6, y7, y8, y9, y10, y11, y12, y13] [.inl (Int32.ofInt 0)] τ (w, σ') := h
    have e := ei_iret h rfl
    cases e
    exact ⟨rfl, rfl⟩
  · skip
    replace hp1 : ¬ ((t1).toInt ≠ (t0).toInt) := (not_congr (ab_lc .ne _ _)).mp hp1
    refine Or.inr ⟨hp1, ?_⟩
    clear g
    replace h : EV F f 187 z187 194 [y0, y1, y2, y3, y4, y5, y6, y7, y8, y9, y10, y11, y12, y13] [] τ (w, σ') := h
    replace h := ei_p h rfl rfl rfl rfl
    obtain ⟨f, g, h⟩ := h
    clear g
    replace h : EV F f 187 z187 195 [y0, y1, y2, y3, y4, y5, y6, y7, y8, y9, y10, y11, y12, y13] [.inl (Int32.ofInt 1)] τ (w, σ') := h
    replace h := ei_p h rfl rfl rfl rfl
    obtain ⟨f, g, h⟩ := h
    clear g
    replace h : EV F f 187 z187 199 [y0, y1, y2, y3, y4, y5, y6, y7, y8, y9, y10, y11, y12, y13] [.inl (Int32.ofInt 1)] τ (w, σ') := h
    have e := ei_iret h rfl
    cases e
    exact ⟨rfl, rfl⟩
def J187_173 (u7 : Int32) (u12 : Int64) (τ : mS) (w : mX) (σ' : mS) : Prop := (((u7).toInt ≠ (3 : Int) ∧ J187_190 (Int64.ofInt (-1000000000)) (u12) τ w σ') ∨ (¬ ((u7).toInt ≠ (3 : Int)) ∧ J187_190 (Int64.ofInt (-3000000000)) (u12) τ w σ'))
set_option maxRecDepth 100000 in
theorem j187_173 {F f : Nat} {σ' τ : mS} {u7 : Int32} {u12 : Int64} {y0 : Option mV} {y1 : Option mV} {y2 : Option mV} {y3 : Option mV} {y4 : Option mV} {y5 : Option mV} {y6 : Option mV} {y8 : Option mV} {y9 : Option mV} {y10 : Option mV} {y11 : Option mV} {w : mX} (hsτ : HL τ) (h : EV F f 187 z187 173 [y0, y1, y2, y3, y4, y5, y6, some (.inl (u7)), y8, y9, y10, y11, some (.inr (.inl (u12))), none] [] τ (w, σ')) : J187_173 u7 u12 τ w σ' := by
  unfold J187_173
  replace h := ei_p h rfl rfl rfl rfl
  obtain ⟨f, g, h⟩ := h
  clear g
  replace h : EV F f 187 z187 175 [y0, y1, y2, y3, y4, y5, y6, some (.inl (u7)), y8, y9, y10, y11, some (.inr (.inl (u12))), none] [.inr (.inl (u12))] τ (w, σ') := h
  replace h := ei_p h rfl rfl rfl rfl
  obtain ⟨f, g, h⟩ := h
  clear g
  replace h : EV F f 187 z187 177 [y0, y1, y2, y3, y4, y5, y6, some (.inl (u7)), y8, y9, y10, y11, some (.inr (.inl (u12))), none] [.inl (u7), .inr (.inl (u12))] τ (w, σ') := h
  replace h := ei_p h rfl rfl rfl rfl
  obtain ⟨f, g, h⟩ := h
  clear g
  replace h : EV F f 187 z187 178 [y0, y1, y2, y3, y4, y5, y6, some (.inl (u7)), y8, y9, y10, y11, some (.inr (.inl (u12))), none] [.inl (Int32.ofInt 3), .inl (u7), .inr (.inl (u12))] τ (w, σ') := h
  replace h := ei_c h rfl rfl rfl
  rcases h with ⟨hp1, f, g, h⟩ | ⟨hp1, f, g, h⟩
  · skip
    replace hp1 : (u7).toInt ≠ (3 : Int) := ic_ne.mp hp1
    refine Or.inl ⟨hp1, ?_⟩
    clear g
    replace h : EV F f 187 z187 187 [y0, y1, y2, y3, y4, y5, y6, some (.inl (u7)), y8, y9, y10, y11, some (.inr (.inl (u12))), none] [.inr (.inl (u12))] τ (w, σ') := h
    replace h := ei_p h rfl rfl rfl rfl
    obtain ⟨f, g, h⟩ := h
    clear g
    replace h : EV F f 187 z187 190 [y0, y1, y2, y3, y4, y5, y6, some (.inl (u7)), y8, y9, y10, y11, some (.inr (.inl (u12))), none] [.inr (.inl (Int64.ofInt (-1000000000))), .inr (.inl (u12))] τ (w, σ') := h
    exact j187_190 hsτ h
  · skip
    replace hp1 : ¬ ((u7).toInt ≠ (3 : Int)) := (not_congr ic_ne).mp hp1
    refine Or.inr ⟨hp1, ?_⟩
    clear g
    replace h : EV F f 187 z187 181 [y0, y1, y2, y3, y4, y5, y6, some (.inl (u7)), y8, y9, y10, y11, some (.inr (.inl (u12))), none] [.inr (.inl (u12))] τ (w, σ') := h
    replace h := ei_p h rfl rfl rfl rfl
    obtain ⟨f, g, h⟩ := h
    clear g
    replace h : EV F f 187 z187 184 [y0, y1, y2, y3, y4, y5, y6, some (.inl (u7)), y8, y9, y10, y11, some (.inr (.inl (u12))), none] [.inr (.inl (Int64.ofInt (-3000000000))), .inr (.inl (u12))] τ (w, σ') := h
    replace h := ei_p h rfl rfl rfl rfl
    obtain ⟨f, g, h⟩ := h
    clear g
    replace h : EV F f 187 z187 190 [y0, y1, y2, y3, y4, y5, y6, some (.inl (u7)), y8, y9, y10, y11, some (.inr (.inl (u12))), none] [.inr (.inl (Int64.ofInt (-3000000000))), .inr (.inl (u12))] τ (w, σ') := h
    exact j187_190 hsτ h
def J187_231 (τ : mS) (w : mX) (σ' : mS) : Prop := w = .inl (some (.inl (Int32.ofInt 0))) ∧ σ' = τ
set_option maxRecDepth 100000 in
theorem j187_231 {F f : Nat} {σ' τ : mS} {y0 : Option mV} {y1 : Option mV} {y2 : Option mV} {y3 : Option mV} {y4 : Option mV} {y5 : Option mV} {y6 : Option mV} {y7 : Option mV} {y8 : Option mV} {y9 : Option mV} {y10 : Option mV} {y11 : Option mV} {y12 : Option mV} {y13 : Option mV} {w : mX} (hsτ : HL τ) (h : EV F f 187 z187 231 [y0, y1, y2, y3, y4, y5, y6, y7, y8, y9, y10, y11, y12, y13] [] τ (w, σ')) : J187_231 τ w σ' := by
  unfold J187_231
  replace h := ei_p h rfl rfl rfl rfl
  obtain ⟨f, g, h⟩ := h
  clear g
  replace h : EV F f 187 z187 232 [y0, y1, y2, y3, y4, y5, y6, y7, y8, y9, y10, y11, y12, y13] [.inl (Int32.ofInt 0)] τ (w, σ') := h
  have e := ei_iret h rfl
  cases e
  exact ⟨rfl, rfl⟩
def J187_144 (τ : mS) (w : mX) (σ' : mS) : Prop := w = .inl (some (.inl (Int32.ofInt 0))) ∧ σ' = τ
set_option maxRecDepth 100000 in
theorem j187_144 {F f : Nat} {σ' τ : mS} {y0 : Option mV} {y1 : Option mV} {y2 : Option mV} {y3 : Option mV} {y4 : Option mV} {y5 : Option mV} {y6 : Option mV} {y7 : Option mV} {y8 : Option mV} {y9 : Option mV} {y10 : Option mV} {y11 : Option mV} {y12 : Option mV} {y13 : Option mV} {w : mX} (hsτ : HL τ) (h : EV F f 187 z187 144 [y0, y1, y2, y3, y4, y5, y6, y7, y8, y9, y10, y11, y12, y13] [] τ (w, σ')) : J187_144 τ w σ' := by
  unfold J187_144
  replace h := ei_p h rfl rfl rfl rfl
  obtain ⟨f, g, h⟩ := h
  clear g
  replace h : EV F f 187 z187 145 [y0, y1, y2, y3, y4, y5, y6, y7, y8, y9, y10, y11, y12, y13] [.inl (Int32.ofInt 0)] τ (w, σ') := h
  have e := ei_iret h rfl
  cases e
  exact ⟨rfl, rfl⟩
def J187_140 (τ : mS) (w : mX) (σ' : mS) : Prop := w = .inl (some (.inl (Int32.ofInt 1))) ∧ σ' = τ
set_option maxRecDepth 100000 in
theorem j187_140 {F f : Nat} {σ' τ : mS} {y0 : Option mV} {y1 : Option mV} {y2 : Option mV} {y3 : Option mV} {y4 : Option mV} {y5 : Option mV} {y6 : Option mV} {y7 : Option mV} {y8 : Option mV} {y9 : Option mV} {y10 : Option mV} {y11 : Option mV} {y12 : Option mV} {y13 : Option mV} {w : mX} (hsτ : HL τ) (h : EV F f 187 z187 140 [y0, y1, y2, y3, y4, y5, y6, y7, y8, y9, y10, y11, y12, y13] [] τ (w, σ')) : J187_140 τ w σ' := by
  unfold J187_140
  replace h := ei_p h rfl rfl rfl rfl
  obtain ⟨f, g, h⟩ := h
  clear g
  replace h : EV F f 187 z187 141 [y0, y1, y2, y3, y4, y5, y6, y7, y8, y9, y10, y11, y12, y13] [.inl (Int32.ofInt 1)] τ (w, σ') := h
  replace h := ei_p h rfl rfl rfl rfl
  obtain ⟨f, g, h⟩ := h
  clear g
  replace h : EV F f 187 z187 145 [y0, y1, y2, y3, y4, y5, y6, y7, y8, y9, y10, y11, y12, y13] [.inl (Int32.ofInt 1)] τ (w, σ') := h
  have e := ei_iret h rfl
  cases e
  exact ⟨rfl, rfl⟩
def J187_115 (u7 : Int32) (u9 : Int32) (t0 : Int32) (t1 : Int32) (τ : mS) (w : mX) (σ' : mS) : Prop := (((t1).toInt ≠ (t0).toInt ∧ J187_144 τ w σ') ∨ (¬ ((t1).toInt ≠ (t0).toInt) ∧ (((u7).toInt = (3 : Int) ∧ J187_140 τ w σ') ∨ (¬ ((u7).toInt = (3 : Int)) ∧ ((∃ v3, P140 τ (u7) (.inl (some (.inl v3))) τ ∧ (((v3).toInt ≠ (((Int32.ofInt 10) * (u9)) + (Int32.ofInt 1)).toInt ∧ J187_144 τ w σ') ∨ (¬ ((v3).toInt ≠ (((Int32.ofInt 10) * (u9)) + (Int32.ofInt 1)).toInt) ∧ J187_140 τ w σ'))) ∨ (∃ b, P140 τ (u7) (.inr b) τ ∧ w = .inr b ∧ σ' = τ))))))
set_option maxRecDepth 100000 in
theorem j187_115 {F f : Nat} {σ' τ : mS} {u7 : Int32} {u9 : Int32} {t0 : Int32} {t1 : Int32} {y1 : Option mV} {y2 : Option mV} {y3 : Option mV} {y4 : Option mV} {y5 : Option mV} {y6 : Option mV} {y8 : Option mV} {y10 : Option mV} {y11 : Option mV} {y12 : Option mV} {y13 : Option mV} {w : mX} (hsτ : HL τ) (h : EV F f 187 z187 115 [some (rf 11 (0)), y1, y2, y3, y4, y5, y6, some (.inl (u7)), y8, some (.inl (u9)), y10, y11, y12, y13] [.inl (t0), .inl (t1)] τ (w, σ')) : J187_115 u7 u9 t0 t1 τ w σ' := by
  unfold J187_115
  replace h := ei_c h rfl rfl rfl
  rcases h with ⟨hp1, f, g, h⟩ | ⟨hp1, f, g, h⟩
  · skip
    replace hp1 : (t1).toInt ≠ (t0).toInt := ic_ne.mp hp1
    refine Or.inl ⟨hp1, ?_⟩
    clear g
    replace h : EV F f 187 z187 144 [some (rf 11 (0)), y1, y2, y3, y4, y5, y6, some (.inl (u7)), y8, some (.inl (u9)), y10, y11, y12, y13] [] τ (w, σ') := h
    exact j187_144 hsτ h
  · skip
    replace hp1 : ¬ ((t1).toInt ≠ (t0).toInt) := (not_congr ic_ne).mp hp1
    refine Or.inr ⟨hp1, ?_⟩
    clear g
    replace h : EV F f 187 z187 118 [some (rf 11 (0)), y1, y2, y3, y4, y5, y6, some (.inl (u7)), y8, some (.inl (u9)), y10, y11, y12, y13] [] τ (w, σ') := h
    replace h := ei_p h rfl rfl rfl rfl
    obtain ⟨f, g, h⟩ := h
    clear g
    replace h : EV F f 187 z187 120 [some (rf 11 (0)), y1, y2, y3, y4, y5, y6, some (.inl (u7)), y8, some (.inl (u9)), y10, y11, y12, y13] [.inl (u7)] τ (w, σ') := h
    replace h := ei_p h rfl rfl rfl rfl
    obtain ⟨f, g, h⟩ := h
    clear g
    replace h : EV F f 187 z187 121 [some (rf 11 (0)), y1, y2, y3, y4, y5, y6, some (.inl (u7)), y8, some (.inl (u9)), y10, y11, y12, y13] [.inl (Int32.ofInt 3), .inl (u7)] τ (w, σ') := h
    replace h := ei_c h rfl rfl rfl
    rcases h with ⟨hp2, f, g, h⟩ | ⟨hp2, f, g, h⟩
    · skip
      replace hp2 : (u7).toInt = (3 : Int) := ic_eq.mp hp2
      refine Or.inl ⟨hp2, ?_⟩
      clear g
      replace h : EV F f 187 z187 140 [some (rf 11 (0)), y1, y2, y3, y4, y5, y6, some (.inl (u7)), y8, some (.inl (u9)), y10, y11, y12, y13] [] τ (w, σ') := h
      exact j187_140 hsτ h
    · skip
      replace hp2 : ¬ ((u7).toInt = (3 : Int)) := (not_congr ic_eq).mp hp2
      refine Or.inr ⟨hp2, ?_⟩
      clear g
      replace h : EV F f 187 z187 124 [some (rf 11 (0)), y1, y2, y3, y4, y5, y6, some (.inl (u7)), y8, some (.inl (u9)), y10, y11, y12, y13] [] τ (w, σ') := h
      replace h := ei_p h rfl rfl rfl rfl
      obtain ⟨f, g, h⟩ := h
      clear g
      replace h : EV F f 187 z187 125 [some (rf 11 (0)), y1, y2, y3, y4, y5, y6, some (.inl (u7)), y8, some (.inl (u9)), y10, y11, y12, y13] [rf 11 (0)] τ (w, σ') := h
      replace h := ei_p h rfl rfl rfl rfl
      obtain ⟨f, g, h⟩ := h
      clear g
      replace h : EV F f 187 z187 127 [some (rf 11 (0)), y1, y2, y3, y4, y5, y6, some (.inl (u7)), y8, some (.inl (u9)), y10, y11, y12, y13] [.inl (u7), rf 11 (0)] τ (w, σ') := h
      replace h := bx_I (ei_v (as := [.inl (u7)]) h rfl rfl rfl) z140_at (Or.inl rfl)
      rcases h with ⟨v3, σ4, r5, f, g, h⟩ | ⟨b, σ4, r5, e⟩
      · skip
        have er5 := ro2_run rfl r5
        rw [er5] at h r5
        clear g
        have p6 := x140 hsτ.1 r5
        refine Or.inl ⟨v3, p6, ?_⟩
        replace h : EV F f 187 z187 130 [some (rf 11 (0)), y1, y2, y3, y4, y5, y6, some (.inl (u7)), y8, some (.inl (u9)), y10, y11, y12, y13] [.inl (v3)] τ (w, σ') := h
        replace h := ei_p h rfl rfl rfl rfl
        obtain ⟨f, g, h⟩ := h
        clear g
        replace h : EV F f 187 z187 132 [some (rf 11 (0)), y1, y2, y3, y4, y5, y6, some (.inl (u7)), y8, some (.inl (u9)), y10, y11, y12, y13] [.inl (Int32.ofInt 10), .inl (v3)] τ (w, σ') := h
        replace h := ei_p h rfl rfl rfl rfl
        obtain ⟨f, g, h⟩ := h
        clear g
        replace h : EV F f 187 z187 134 [some (rf 11 (0)), y1, y2, y3, y4, y5, y6, some (.inl (u7)), y8, some (.inl (u9)), y10, y11, y12, y13] [.inl (u9), .inl (Int32.ofInt 10), .inl (v3)] τ (w, σ') := h
        replace h := ei_p h rfl rfl rfl rfl
        obtain ⟨f, g, h⟩ := h
        clear g
        replace h : EV F f 187 z187 135 [some (rf 11 (0)), y1, y2, y3, y4, y5, y6, some (.inl (u7)), y8, some (.inl (u9)), y10, y11, y12, y13] [.inl ((Int32.ofInt 10) * (u9)), .inl (v3)] τ (w, σ') := h
        replace h := ei_p h rfl rfl rfl rfl
        obtain ⟨f, g, h⟩ := h
        clear g
        replace h : EV F f 187 z187 136 [some (rf 11 (0)), y1, y2, y3, y4, y5, y6, some (.inl (u7)), y8, some (.inl (u9)), y10, y11, y12, y13] [.inl (Int32.ofInt 1), .inl ((Int32.ofInt 10) * (u9)), .inl (v3)] τ (w, σ') := h
        replace h := ei_p h rfl rfl rfl rfl
        obtain ⟨f, g, h⟩ := h
        clear g
        replace h : EV F f 187 z187 137 [some (rf 11 (0)), y1, y2, y3, y4, y5, y6, some (.inl (u7)), y8, some (.inl (u9)), y10, y11, y12, y13] [.inl (((Int32.ofInt 10) * (u9)) + (Int32.ofInt 1)), .inl (v3)] τ (w, σ') := h
        replace h := ei_c h rfl rfl rfl
        rcases h with ⟨hp7, f, g, h⟩ | ⟨hp7, f, g, h⟩
        · skip
          replace hp7 : (v3).toInt ≠ (((Int32.ofInt 10) * (u9)) + (Int32.ofInt 1)).toInt := ic_ne.mp hp7
          refine Or.inl ⟨hp7, ?_⟩
          clear g
          replace h : EV F f 187 z187 144 [some (rf 11 (0)), y1, y2, y3, y4, y5, y6, some (.inl (u7)), y8, some (.inl (u9)), y10, y11, y12, y13] [] τ (w, σ') := h
          exact j187_144 hsτ h
        · skip
          replace hp7 : ¬ ((v3).toInt ≠ (((Int32.ofInt 10) * (u9)) + (Int32.ofInt 1)).toInt) := (not_congr ic_ne).mp hp7
          refine Or.inr ⟨hp7, ?_⟩
          clear g
          replace h : EV F f 187 z187 140 [some (rf 11 (0)), y1, y2, y3, y4, y5, y6, some (.inl (u7)), y8, some (.inl (u9)), y10, y11, y12, y13] [] τ (w, σ') := h
          exact j187_140 hsτ h
      · skip
        have er5 := ro2_run rfl r5
        rw [er5] at e r5
        have p6 := x140 hsτ.1 r5
        cases e
        exact Or.inr ⟨b, p6, rfl, rfl⟩
def J187_75 (u4 : Int32) (u7 : Int32) (u8 : Int32) (u9 : Int32) (t0 : Int64) (τ : mS) (w : mX) (σ' : mS) : Prop := (((u4).toInt ≠ (0 : Int) ∧ ∃ v2 σ3, gF τ σ3 ∧ HL σ3 ∧ P172 τ (Int32.ofInt 7) (u7) (Int32.ofInt 0) (Int32.ofInt 0) (Int32.ofInt 0) (Int32.ofInt 0) (Int32.ofInt 0) (Int32.ofInt 0) (.inl (some (.inr (.inl v2)))) σ3 ∧ (((u7).toInt = (3 : Int) ∧ J187_173 (u7) (v2) σ3 w σ') ∨ (¬ ((u7).toInt = (3 : Int)) ∧ (((u8).toInt ≠ (0 : Int) ∧ (((v2).toInt < (Int64.ofNat 0).toInt ∧ J187_231 σ3 w σ') ∨ (¬ ((v2).toInt < (Int64.ofNat 0).toInt) ∧ ((((t0) - (t0) / (Int64.ofInt 1000000) * (Int64.ofInt 1000000)).toInt < (v2).toInt ∧ J187_231 σ3 w σ') ∨ (¬ (((t0) - (t0) / (Int64.ofInt 1000000) * (Int64.ofInt 1000000)).toInt < (v2).toInt) ∧ ((∃ v11 σ12, HL σ12 ∧ P181 σ3 (.inl (some (.inl v11))) σ12 ∧ (((v11).toInt = (0 : Int) ∧ J187_231 σ12 w σ') ∨ (¬ ((v11).toInt = (0 : Int)) ∧ w = .inl (some (.inl (Int32.ofInt 1))) ∧ σ' = σ12))) ∨ (∃ b, HL σ' ∧ P181 σ3 (.inr b) σ' ∧ w = .inr b))))))) ∨ (¬ ((u8).toInt ≠ (0 : Int)) ∧ J187_173 (u7) (v2) σ3 w σ'))))) ∨ (¬ ((u4).toInt ≠ (0 : Int)) ∧ ∃ v16 σ17, gF τ σ17 ∧ HL σ17 ∧ P173 τ (Int32.ofInt 1) (u7) (Int32.ofInt 0) (.inl (some (.inl v16))) σ17 ∧ (((u7).toInt ≠ (3 : Int) ∧ (((u8).toInt = (0 : Int) ∧ J187_115 (u7) (u9) (Int32.ofInt 0) (v16) σ17 w σ') ∨ (¬ ((u8).toInt = (0 : Int)) ∧ J187_115 (u7) (u9) (Int32.ofInt (-1)) (v16) σ17 w σ'))) ∨ (¬ ((u7).toInt ≠ (3 : Int)) ∧ J187_115 (u7) (u9) (Int32.ofInt (-3)) (v16) σ17 w σ'))))
set_option maxRecDepth 100000 in
theorem j187_75 {F f : Nat} {σ' τ : mS} {u4 : Int32} {u7 : Int32} {u8 : Int32} {u9 : Int32} {t0 : Int64} {y1 : Option mV} {y2 : Option mV} {y5 : Option mV} {y6 : Option mV} {y10 : Option mV} {y11 : Option mV} {y12 : Option mV} {y13 : Option mV} {w : mX} (hsτ : HL τ) (h : EV F f 187 z187 75 [some (rf 11 (0)), y1, y2, some (rf 13 (17)), some (.inl (u4)), y5, y6, some (.inl (u7)), some (.inl (u8)), some (.inl (u9)), y10, y11, y12, y13] [.inr (.inl (t0))] τ (w, σ')) : J187_75 u4 u7 u8 u9 t0 τ w σ' := by
  unfold J187_75
  replace h := ei_p h rfl rfl rfl rfl
  obtain ⟨f, g, h⟩ := h
  clear g
  replace h : EV F f 187 z187 77 [some (rf 11 (0)), y1, y2, some (rf 13 (17)), some (.inl (u4)), y5, y6, some (.inl (u7)), some (.inl (u8)), some (.inl (u9)), some (.inr (.inl (t0))), none, y12, y13] [] τ (w, σ') := h
  replace h := ei_p h rfl rfl rfl rfl
  obtain ⟨f, g, h⟩ := h
  clear g
  replace h : EV F f 187 z187 79 [some (rf 11 (0)), y1, y2, some (rf 13 (17)), some (.inl (u4)), y5, y6, some (.inl (u7)), some (.inl (u8)), some (.inl (u9)), some (.inr (.inl (t0))), none, y12, y13] [.inl (u4)] τ (w, σ') := h
  replace h := ei_c h rfl rfl rfl
  rcases h with ⟨hp1, f, g, h⟩ | ⟨hp1, f, g, h⟩
  · skip
    replace hp1 : (u4).toInt ≠ (0 : Int) := ic_ne.mp hp1
    refine Or.inl ⟨hp1, ?_⟩
    clear g
    replace h : EV F f 187 z187 146 [some (rf 11 (0)), y1, y2, some (rf 13 (17)), some (.inl (u4)), y5, y6, some (.inl (u7)), some (.inl (u8)), some (.inl (u9)), some (.inr (.inl (t0))), none, y12, y13] [] τ (w, σ') := h
    replace h := ei_p h rfl rfl rfl rfl
    obtain ⟨f, g, h⟩ := h
    clear g
    replace h : EV F f 187 z187 147 [some (rf 11 (0)), y1, y2, some (rf 13 (17)), some (.inl (u4)), y5, y6, some (.inl (u7)), some (.inl (u8)), some (.inl (u9)), some (.inr (.inl (t0))), none, y12, y13] [rf 11 (0)] τ (w, σ') := h
    replace h := ei_p h rfl rfl rfl rfl
    obtain ⟨f, g, h⟩ := h
    clear g
    replace h : EV F f 187 z187 149 [some (rf 11 (0)), y1, y2, some (rf 13 (17)), some (.inl (u4)), y5, y6, some (.inl (u7)), some (.inl (u8)), some (.inl (u9)), some (.inr (.inl (t0))), none, y12, y13] [.inl (Int32.ofInt 7), rf 11 (0)] τ (w, σ') := h
    replace h := ei_p h rfl rfl rfl rfl
    obtain ⟨f, g, h⟩ := h
    clear g
    replace h : EV F f 187 z187 151 [some (rf 11 (0)), y1, y2, some (rf 13 (17)), some (.inl (u4)), y5, y6, some (.inl (u7)), some (.inl (u8)), some (.inl (u9)), some (.inr (.inl (t0))), none, y12, y13] [.inl (u7), .inl (Int32.ofInt 7), rf 11 (0)] τ (w, σ') := h
    replace h := ei_p h rfl rfl rfl rfl
    obtain ⟨f, g, h⟩ := h
    clear g
    replace h : EV F f 187 z187 152 [some (rf 11 (0)), y1, y2, some (rf 13 (17)), some (.inl (u4)), y5, y6, some (.inl (u7)), some (.inl (u8)), some (.inl (u9)), some (.inr (.inl (t0))), none, y12, y13] [.inl (Int32.ofInt 0), .inl (u7), .inl (Int32.ofInt 7), rf 11 (0)] τ (w, σ') := h
    replace h := ei_p h rfl rfl rfl rfl
    obtain ⟨f, g, h⟩ := h
    clear g
    replace h : EV F f 187 z187 153 [some (rf 11 (0)), y1, y2, some (rf 13 (17)), some (.inl (u4)), y5, y6, some (.inl (u7)), some (.inl (u8)), some (.inl (u9)), some (.inr (.inl (t0))), none, y12, y13] [.inl (Int32.ofInt 0), .inl (Int32.ofInt 0), .inl (u7), .inl (Int32.ofInt 7), rf 11 (0)] τ (w, σ') := h
    replace h := ei_p h rfl rfl rfl rfl
    obtain ⟨f, g, h⟩ := h
    clear g
    replace h : EV F f 187 z187 154 [some (rf 11 (0)), y1, y2, some (rf 13 (17)), some (.inl (u4)), y5, y6, some (.inl (u7)), some (.inl (u8)), some (.inl (u9)), some (.inr (.inl (t0))), none, y12, y13] [.inl (Int32.ofInt 0), .inl (Int32.ofInt 0), .inl (Int32.ofInt 0), .inl (u7), .inl (Int32.ofInt 7), rf 11 (0)] τ (w, σ') := h
    replace h := ei_p h rfl rfl rfl rfl
    obtain ⟨f, g, h⟩ := h
    clear g
    replace h : EV F f 187 z187 155 [some (rf 11 (0)), y1, y2, some (rf 13 (17)), some (.inl (u4)), y5, y6, some (.inl (u7)), some (.inl (u8)), some (.inl (u9)), some (.inr (.inl (t0))), none, y12, y13] [.inl (Int32.ofInt 0), .inl (Int32.ofInt 0), .inl (Int32.ofInt 0), .inl (Int32.ofInt 0), .inl (u7), .inl (Int32.ofInt 7), rf 11 (0)] τ (w, σ') := h
    replace h := ei_p h rfl rfl rfl rfl
    obtain ⟨f, g, h⟩ := h
    clear g
    replace h : EV F f 187 z187 156 [some (rf 11 (0)), y1, y2, some (rf 13 (17)), some (.inl (u4)), y5, y6, some (.inl (u7)), some (.inl (u8)), some (.inl (u9)), some (.inr (.inl (t0))), none, y12, y13] [.inl (Int32.ofInt 0), .inl (Int32.ofInt 0), .inl (Int32.ofInt 0), .inl (Int32.ofInt 0), .inl (Int32.ofInt 0), .inl (u7), .inl (Int32.ofInt 7), rf 11 (0)] τ (w, σ') := h
    replace h := ei_p h rfl rfl rfl rfl
    obtain ⟨f, g, h⟩ := h
    clear g
    replace h : EV F f 187 z187 157 [some (rf 11 (0)), y1, y2, some (rf 13 (17)), some (.inl (u4)), y5, y6, some (.inl (u7)), some (.inl (u8)), some (.inl (u9)), some (.inr (.inl (t0))), none, y12, y13] [.inl (Int32.ofInt 0), .inl (Int32.ofInt 0), .inl (Int32.ofInt 0), .inl (Int32.ofInt 0), .inl (Int32.ofInt 0), .inl (Int32.ofInt 0), .inl (u7), .inl (Int32.ofInt 7), rf 11 (0)] τ (w, σ') := h
    replace h := bx_L (ei_s (as := [.inl (Int32.ofInt 0), .inl (Int32.ofInt 0), .inl (Int32.ofInt 0), .inl (Int32.ofInt 0), .inl (Int32.ofInt 0), .inl (Int32.ofInt 0), .inl (u7), .inl (Int32.ofInt 7), rf 11 (0)]) h rfl (Nat.le_of_ble_eq_true rfl) rfl rfl) z172_at rfl
    rcases h with ⟨v2, σ3, r4, f, g, h⟩ | ⟨b, σ3, r4, e⟩
    rotate_left
    · exact (nt172 (x172 hsτ r4)).elim
    clear g
    have p5 := x172 hsτ r4
    have hsσ3 : HL σ3 := hl172 p5
    refine ⟨v2, σ3, gF_r r4 rfl hsτ, hsσ3, p5, ?_⟩
    replace h : EV F f 187 z187 160 [some (rf 11 (0)), y1, y2, some (rf 13 (17)), some (.inl (u4)), y5, y6, some (.inl (u7)), some (.inl (u8)), some (.inl (u9)), some (.inr (.inl (t0))), none, y12, y13] [.inr (.inl (v2))] σ3 (w, σ') := h
    replace h := ei_p h rfl rfl rfl rfl
    obtain ⟨f, g, h⟩ := h
    clear g
    replace h : EV F f 187 z187 162 [some (rf 11 (0)), y1, y2, some (rf 13 (17)), some (.inl (u4)), y5, y6, some (.inl (u7)), some (.inl (u8)), some (.inl (u9)), some (.inr (.inl (t0))), none, some (.inr (.inl (v2))), none] [] σ3 (w, σ') := h
    replace h := ei_p h rfl rfl rfl rfl
    obtain ⟨f, g, h⟩ := h
    clear g
    replace h : EV F f 187 z187 164 [some (rf 11 (0)), y1, y2, some (rf 13 (17)), some (.inl (u4)), y5, y6, some (.inl (u7)), some (.inl (u8)), some (.inl (u9)), some (.inr (.inl (t0))), none, some (.inr (.inl (v2))), none] [.inl (u7)] σ3 (w, σ') := h
    replace h := ei_p h rfl rfl rfl rfl
    obtain ⟨f, g, h⟩ := h
    clear g
    replace h : EV F f 187 z187 165 [some (rf 11 (0)), y1, y2, some (rf 13 (17)), some (.inl (u4)), y5, y6, some (.inl (u7)), some (.inl (u8)), some (.inl (u9)), some (.inr (.inl (t0))), none, some (.inr (.inl (v2))), none] [.inl (Int32.ofInt 3), .inl (u7)] σ3 (w, σ') := h
    replace h := ei_c h rfl rfl rfl
    rcases h with ⟨hp6, f, g, h⟩ | ⟨hp6, f, g, h⟩
    · skip
      replace hp6 : (u7).toInt = (3 : Int) := ic_eq.mp hp6
      refine Or.inl ⟨hp6, ?_⟩
      clear g
      replace h : EV F f 187 z187 173 [some (rf 11 (0)), y1, y2, some (rf 13 (17)), some (.inl (u4)), y5, y6, some (.inl (u7)), some (.inl (u8)), some (.inl (u9)), some (.inr (.inl (t0))), none, some (.inr (.inl (v2))), none] [] σ3 (w, σ') := h
      exact j187_173 hsσ3 h
    · skip
      replace hp6 : ¬ ((u7).toInt = (3 : Int)) := (not_congr ic_eq).mp hp6
      refine Or.inr ⟨hp6, ?_⟩
      clear g
      replace h : EV F f 187 z187 168 [some (rf 11 (0)), y1, y2, some (rf 13 (17)), some (.inl (u4)), y5, y6, some (.inl (u7)), some (.inl (u8)), some (.inl (u9)), some (.inr (.inl (t0))), none, some (.inr (.inl (v2))), none] [] σ3 (w, σ') := h
      replace h := ei_p h rfl rfl rfl rfl
      obtain ⟨f, g, h⟩ := h
      clear g
      replace h : EV F f 187 z187 170 [some (rf 11 (0)), y1, y2, some (rf 13 (17)), some (.inl (u4)), y5, y6, some (.inl (u7)), some (.inl (u8)), some (.inl (u9)), some (.inr (.inl (t0))), none, some (.inr (.inl (v2))), none] [.inl (u8)] σ3 (w, σ') := h
      replace h := ei_c h rfl rfl rfl
      rcases h with ⟨hp7, f, g, h⟩ | ⟨hp7, f, g, h⟩
      · skip
        replace hp7 : (u8).toInt ≠ (0 : Int) := ic_ne.mp hp7
        refine Or.inl ⟨hp7, ?_⟩
        clear g
        replace h : EV F f 187 z187 200 [some (rf 11 (0)), y1, y2, some (rf 13 (17)), some (.inl (u4)), y5, y6, some (.inl (u7)), some (.inl (u8)), some (.inl (u9)), some (.inr (.inl (t0))), none, some (.inr (.inl (v2))), none] [] σ3 (w, σ') := h
        replace h := ei_p h rfl rfl rfl rfl
        obtain ⟨f, g, h⟩ := h
        clear g
        replace h : EV F f 187 z187 202 [some (rf 11 (0)), y1, y2, some (rf 13 (17)), some (.inl (u4)), y5, y6, some (.inl (u7)), some (.inl (u8)), some (.inl (u9)), some (.inr (.inl (t0))), none, some (.inr (.inl (v2))), none] [.inr (.inl (v2))] σ3 (w, σ') := h
        replace h := ei_p h rfl rfl rfl rfl
        obtain ⟨f, g, h⟩ := h
        clear g
        replace h : EV F f 187 z187 203 [some (rf 11 (0)), y1, y2, some (rf 13 (17)), some (.inl (u4)), y5, y6, some (.inl (u7)), some (.inl (u8)), some (.inl (u9)), some (.inr (.inl (t0))), none, some (.inr (.inl (v2))), none] [.inr (.inl (Int64.ofNat 0)), .inr (.inl (v2))] σ3 (w, σ') := h
        replace h := ei_p h rfl rfl rfl rfl
        obtain ⟨f, g, h⟩ := h
        clear g
        replace h : EV F f 187 z187 204 [some (rf 11 (0)), y1, y2, some (rf 13 (17)), some (.inl (u4)), y5, y6, some (.inl (u7)), some (.inl (u8)), some (.inl (u9)), some (.inr (.inl (t0))), none, some (.inr (.inl (v2))), none] [.inl (lg_cmp (v2) (Int64.ofNat 0))] σ3 (w, σ') := h
        replace h := ei_c h rfl rfl rfl
        rcases h with ⟨hp8, f, g, h⟩ | ⟨hp8, f, g, h⟩
        · skip
          replace hp8 : (v2).toInt < (Int64.ofNat 0).toInt := (ab_lc .lt _ _).mp hp8
          refine Or.inl ⟨hp8, ?_⟩
          clear g
          replace h : EV F f 187 z187 231 [some (rf 11 (0)), y1, y2, some (rf 13 (17)), some (.inl (u4)), y5, y6, some (.inl (u7)), some (.inl (u8)), some (.inl (u9)), some (.inr (.inl (t0))), none, some (.inr (.inl (v2))), none] [] σ3 (w, σ') := h
          exact j187_231 hsσ3 h
        · skip
          replace hp8 : ¬ ((v2).toInt < (Int64.ofNat 0).toInt) := (not_congr (ab_lc .lt _ _)).mp hp8
          refine Or.inr ⟨hp8, ?_⟩
          clear g
          replace h : EV F f 187 z187 207 [some (rf 11 (0)), y1, y2, some (rf 13 (17)), some (.inl (u4)), y5, y6, some (.inl (u7)), some (.inl (u8)), some (.inl (u9)), some (.inr (.inl (t0))), none, some (.inr (.inl (v2))), none] [] σ3 (w, σ') := h
          replace h := ei_p h rfl rfl rfl rfl
          obtain ⟨f, g, h⟩ := h
          clear g
          replace h : EV F f 187 z187 209 [some (rf 11 (0)), y1, y2, some (rf 13 (17)), some (.inl (u4)), y5, y6, some (.inl (u7)), some (.inl (u8)), some (.inl (u9)), some (.inr (.inl (t0))), none, some (.inr (.inl (v2))), none] [.inr (.inl (v2))] σ3 (w, σ') := h
          replace h := ei_p h rfl rfl rfl rfl
          obtain ⟨f, g, h⟩ := h
          clear g
          replace h : EV F f 187 z187 211 [some (rf 11 (0)), y1, y2, some (rf 13 (17)), some (.inl (u4)), y5, y6, some (.inl (u7)), some (.inl (u8)), some (.inl (u9)), some (.inr (.inl (t0))), none, some (.inr (.inl (v2))), none] [.inr (.inl (t0)), .inr (.inl (v2))] σ3 (w, σ') := h
          replace h := ei_p h rfl rfl rfl rfl
          obtain ⟨f, g, h⟩ := h
          clear g
          replace h : EV F f 187 z187 214 [some (rf 11 (0)), y1, y2, some (rf 13 (17)), some (.inl (u4)), y5, y6, some (.inl (u7)), some (.inl (u8)), some (.inl (u9)), some (.inr (.inl (t0))), none, some (.inr (.inl (v2))), none] [.inr (.inl (Int64.ofInt 1000000)), .inr (.inl (t0)), .inr (.inl (v2))] σ3 (w, σ') := h
          replace h := ei_lrem h rfl
          obtain ⟨hd9, f, g, h⟩ := h
          clear g
          replace h : EV F f 187 z187 215 [some (rf 11 (0)), y1, y2, some (rf 13 (17)), some (.inl (u4)), y5, y6, some (.inl (u7)), some (.inl (u8)), some (.inl (u9)), some (.inr (.inl (t0))), none, some (.inr (.inl (v2))), none] [.inr (.inl ((t0) - (t0) / (Int64.ofInt 1000000) * (Int64.ofInt 1000000))), .inr (.inl (v2))] σ3 (w, σ') := h
          replace h := ei_p h rfl rfl rfl rfl
          obtain ⟨f, g, h⟩ := h
          clear g
          replace h : EV F f 187 z187 216 [some (rf 11 (0)), y1, y2, some (rf 13 (17)), some (.inl (u4)), y5, y6, some (.inl (u7)), some (.inl (u8)), some (.inl (u9)), some (.inr (.inl (t0))), none, some (.inr (.inl (v2))), none] [.inl (lg_cmp (v2) ((t0) - (t0) / (Int64.ofInt 1000000) * (Int64.ofInt 1000000)))] σ3 (w, σ') := h
          replace h := ei_c h rfl rfl rfl
          rcases h with ⟨hp10, f, g, h⟩ | ⟨hp10, f, g, h⟩
          · skip
            replace hp10 : ((t0) - (t0) / (Int64.ofInt 1000000) * (Int64.ofInt 1000000)).toInt < (v2).toInt := (ab_lc .gt _ _).mp hp10
            refine Or.inl ⟨hp10, ?_⟩
            clear g
            replace h : EV F f 187 z187 231 [some (rf 11 (0)), y1, y2, some (rf 13 (17)), some (.inl (u4)), y5, y6, some (.inl (u7)), some (.inl (u8)), some (.inl (u9)), some (.inr (.inl (t0))), none, some (.inr (.inl (v2))), none] [] σ3 (w, σ') := h
            exact j187_231 hsσ3 h
          · skip
            replace hp10 : ¬ (((t0) - (t0) / (Int64.ofInt 1000000) * (Int64.ofInt 1000000)).toInt < (v2).toInt) := (not_congr (ab_lc .gt _ _)).mp hp10
            refine Or.inr ⟨hp10, ?_⟩
            clear g
            replace h : EV F f 187 z187 219 [some (rf 11 (0)), y1, y2, some (rf 13 (17)), some (.inl (u4)), y5, y6, some (.inl (u7)), some (.inl (u8)), some (.inl (u9)), some (.inr (.inl (t0))), none, some (.inr (.inl (v2))), none] [] σ3 (w, σ') := h
            replace h := ei_p h rfl rfl rfl rfl
            obtain ⟨f, g, h⟩ := h
            clear g
            replace h : EV F f 187 z187 220 [some (rf 11 (0)), y1, y2, some (rf 13 (17)), some (.inl (u4)), y5, y6, some (.inl (u7)), some (.inl (u8)), some (.inl (u9)), some (.inr (.inl (t0))), none, some (.inr (.inl (v2))), none] [rf 11 (0)] σ3 (w, σ') := h
            replace h := ei_p h rfl rfl rfl rfl
            obtain ⟨f, g, h⟩ := h
            clear g
            replace h : EV F f 187 z187 221 [some (rf 11 (0)), y1, y2, some (rf 13 (17)), some (.inl (u4)), y5, y6, some (.inl (u7)), some (.inl (u8)), some (.inl (u9)), some (.inr (.inl (t0))), none, some (.inr (.inl (v2))), none] [rf 13 (17), rf 11 (0)] σ3 (w, σ') := h
            replace h := bx_I (ei_s (as := [rf 13 (17), rf 11 (0)]) h rfl (Nat.le_of_ble_eq_true rfl) rfl rfl) z181_at (Or.inr rfl)
            rcases h with ⟨v11, σ12, r13, f, g, h⟩ | ⟨b, σ12, r13, e⟩
            · skip
              clear g
              have p14 := x181 hsσ3 r13
              have hsσ12 : HL σ12 := hl181 hsσ3 p14
              refine Or.inl ⟨v11, σ12, hl181 hsσ3 p14, p14, ?_⟩
              replace h : EV F f 187 z187 224 [some (rf 11 (0)), y1, y2, some (rf 13 (17)), some (.inl (u4)), y5, y6, some (.inl (u7)), some (.inl (u8)), some (.inl (u9)), some (.inr (.inl (t0))), none, some (.inr (.inl (v2))), none] [.inl (v11)] σ12 (w, σ') := h
              replace h := ei_c h rfl rfl rfl
              rcases h with ⟨hp15, f, g, h⟩ | ⟨hp15, f, g, h⟩
              · skip
                replace hp15 : (v11).toInt = (0 : Int) := ic_eq.mp hp15
                refine Or.inl ⟨hp15, ?_⟩
                clear g
                replace h : EV F f 187 z187 231 [some (rf 11 (0)), y1, y2, some (rf 13 (17)), some (.inl (u4)), y5, y6, some (.inl (u7)), some (.inl (u8)), some (.inl (u9)), some (.inr (.inl (t0))), none, some (.inr (.inl (v2))), none] [] σ12 (w, σ') := h
                exact j187_231 hsσ12 h
              · skip
                replace hp15 : ¬ ((v11).toInt = (0 : Int)) := (not_congr ic_eq).mp hp15
                refine Or.inr ⟨hp15, ?_⟩
                clear g
                replace h : EV F f 187 z187 227 [some (rf 11 (0)), y1, y2, some (rf 13 (17)), some (.inl (u4)), y5, y6, some (.inl (u7)), some (.inl (u8)), some (.inl (u9)), some (.inr (.inl (t0))), none, some (.inr (.inl (v2))), none] [] σ12 (w, σ') := h
                replace h := ei_p h rfl rfl rfl rfl
                obtain ⟨f, g, h⟩ := h
                clear g
                replace h : EV F f 187 z187 228 [some (rf 11 (0)), y1, y2, some (rf 13 (17)), some (.inl (u4)), y5, y6, some (.inl (u7)), some (.inl (u8)), some (.inl (u9)), some (.inr (.inl (t0))), none, some (.inr (.inl (v2))), none] [.inl (Int32.ofInt 1)] σ12 (w, σ') := h
                replace h := ei_p h rfl rfl rfl rfl
                obtain ⟨f, g, h⟩ := h
                clear g
                replace h : EV F f 187 z187 232 [some (rf 11 (0)), y1, y2, some (rf 13 (17)), some (.inl (u4)), y5, y6, some (.inl (u7)), some (.inl (u8)), some (.inl (u9)), some (.inr (.inl (t0))), none, some (.inr (.inl (v2))), none] [.inl (Int32.ofInt 1)] σ12 (w, σ') := h
                have e := ei_iret h rfl
                cases e
                exact ⟨rfl, rfl⟩
            · skip
              have p14 := x181 hsσ3 r13
              cases e
              exact Or.inr ⟨b, hl181 hsσ3 p14, p14, rfl⟩
      · skip
        replace hp7 : ¬ ((u8).toInt ≠ (0 : Int)) := (not_congr ic_ne).mp hp7
        refine Or.inr ⟨hp7, ?_⟩
        clear g
        replace h : EV F f 187 z187 173 [some (rf 11 (0)), y1, y2, some (rf 13 (17)), some (.inl (u4)), y5, y6, some (.inl (u7)), some (.inl (u8)), some (.inl (u9)), some (.inr (.inl (t0))), none, some (.inr (.inl (v2))), none] [] σ3 (w, σ') := h
        exact j187_173 hsσ3 h
  · skip
    replace hp1 : ¬ ((u4).toInt ≠ (0 : Int)) := (not_congr ic_ne).mp hp1
    refine Or.inr ⟨hp1, ?_⟩
    clear g
    replace h : EV F f 187 z187 82 [some (rf 11 (0)), y1, y2, some (rf 13 (17)), some (.inl (u4)), y5, y6, some (.inl (u7)), some (.inl (u8)), some (.inl (u9)), some (.inr (.inl (t0))), none, y12, y13] [] τ (w, σ') := h
    replace h := ei_p h rfl rfl rfl rfl
    obtain ⟨f, g, h⟩ := h
    clear g
    replace h : EV F f 187 z187 83 [some (rf 11 (0)), y1, y2, some (rf 13 (17)), some (.inl (u4)), y5, y6, some (.inl (u7)), some (.inl (u8)), some (.inl (u9)), some (.inr (.inl (t0))), none, y12, y13] [rf 11 (0)] τ (w, σ') := h
    replace h := ei_p h rfl rfl rfl rfl
    obtain ⟨f, g, h⟩ := h
    clear g
    replace h : EV F f 187 z187 84 [some (rf 11 (0)), y1, y2, some (rf 13 (17)), some (.inl (u4)), y5, y6, some (.inl (u7)), some (.inl (u8)), some (.inl (u9)), some (.inr (.inl (t0))), none, y12, y13] [.inl (Int32.ofInt 1), rf 11 (0)] τ (w, σ') := h
    replace h := ei_p h rfl rfl rfl rfl
    obtain ⟨f, g, h⟩ := h
    clear g
    replace h : EV F f 187 z187 86 [some (rf 11 (0)), y1, y2, some (rf 13 (17)), some (.inl (u4)), y5, y6, some (.inl (u7)), some (.inl (u8)), some (.inl (u9)), some (.inr (.inl (t0))), none, y12, y13] [.inl (u7), .inl (Int32.ofInt 1), rf 11 (0)] τ (w, σ') := h
    replace h := ei_p h rfl rfl rfl rfl
    obtain ⟨f, g, h⟩ := h
    clear g
    replace h : EV F f 187 z187 87 [some (rf 11 (0)), y1, y2, some (rf 13 (17)), some (.inl (u4)), y5, y6, some (.inl (u7)), some (.inl (u8)), some (.inl (u9)), some (.inr (.inl (t0))), none, y12, y13] [.inl (Int32.ofInt 0), .inl (u7), .inl (Int32.ofInt 1), rf 11 (0)] τ (w, σ') := h
    replace h := bx_I (ei_s (as := [.inl (Int32.ofInt 0), .inl (u7), .inl (Int32.ofInt 1), rf 11 (0)]) h rfl (Nat.le_of_ble_eq_true rfl) rfl rfl) z173_at (Or.inl rfl)
    rcases h with ⟨v16, σ17, r18, f, g, h⟩ | ⟨b, σ17, r18, e⟩
    rotate_left
    · exact (nt173 (x173 hsτ r18)).elim
    clear g
    have p19 := x173 hsτ r18
    have hsσ17 : HL σ17 := hl173 p19
    refine ⟨v16, σ17, gF_r r18 rfl hsτ, hsσ17, p19, ?_⟩
    replace h : EV F f 187 z187 90 [some (rf 11 (0)), y1, y2, some (rf 13 (17)), some (.inl (u4)), y5, y6, some (.inl (u7)), some (.inl (u8)), some (.inl (u9)), some (.inr (.inl (t0))), none, y12, y13] [.inl (v16)] σ17 (w, σ') := h
    replace h := ei_p h rfl rfl rfl rfl
    obtain ⟨f, g, h⟩ := h
    clear g
    replace h : EV F f 187 z187 92 [some (rf 11 (0)), y1, y2, some (rf 13 (17)), some (.inl (u4)), y5, y6, some (.inl (u7)), some (.inl (u8)), some (.inl (u9)), some (.inr (.inl (t0))), none, some (.inl (v16)), y13] [] σ17 (w, σ') := h
    replace h := ei_p h rfl rfl rfl rfl
    obtain ⟨f, g, h⟩ := h
    clear g
    replace h : EV F f 187 z187 94 [some (rf 11 (0)), y1, y2, some (rf 13 (17)), some (.inl (u4)), y5, y6, some (.inl (u7)), some (.inl (u8)), some (.inl (u9)), some (.inr (.inl (t0))), none, some (.inl (v16)), y13] [.inl (v16)] σ17 (w, σ') := h
    replace h := ei_p h rfl rfl rfl rfl
    obtain ⟨f, g, h⟩ := h
    clear g
    replace h : EV F f 187 z187 96 [some (rf 11 (0)), y1, y2, some (rf 13 (17)), some (.inl (u4)), y5, y6, some (.inl (u7)), some (.inl (u8)), some (.inl (u9)), some (.inr (.inl (t0))), none, some (.inl (v16)), y13] [.inl (u7), .inl (v16)] σ17 (w, σ') := h
    replace h := ei_p h rfl rfl rfl rfl
    obtain ⟨f, g, h⟩ := h
    clear g
    replace h : EV F f 187 z187 97 [some (rf 11 (0)), y1, y2, some (rf 13 (17)), some (.inl (u4)), y5, y6, some (.inl (u7)), some (.inl (u8)), some (.inl (u9)), some (.inr (.inl (t0))), none, some (.inl (v16)), y13] [.inl (Int32.ofInt 3), .inl (u7), .inl (v16)] σ17 (w, σ') := h
    replace h := ei_c h rfl rfl rfl
    rcases h with ⟨hp20, f, g, h⟩ | ⟨hp20, f, g, h⟩
    · skip
      replace hp20 : (u7).toInt ≠ (3 : Int) := ic_ne.mp hp20
      refine Or.inl ⟨hp20, ?_⟩
      clear g
      replace h : EV F f 187 z187 105 [some (rf 11 (0)), y1, y2, some (rf 13 (17)), some (.inl (u4)), y5, y6, some (.inl (u7)), some (.inl (u8)), some (.inl (u9)), some (.inr (.inl (t0))), none, some (.inl (v16)), y13] [.inl (v16)] σ17 (w, σ') := h
      replace h := ei_p h rfl rfl rfl rfl
      obtain ⟨f, g, h⟩ := h
      clear g
      replace h : EV F f 187 z187 107 [some (rf 11 (0)), y1, y2, some (rf 13 (17)), some (.inl (u4)), y5, y6, some (.inl (u7)), some (.inl (u8)), some (.inl (u9)), some (.inr (.inl (t0))), none, some (.inl (v16)), y13] [.inl (u8), .inl (v16)] σ17 (w, σ') := h
      replace h := ei_c h rfl rfl rfl
      rcases h with ⟨hp21, f, g, h⟩ | ⟨hp21, f, g, h⟩
      · skip
        replace hp21 : (u8).toInt = (0 : Int) := ic_eq.mp hp21
        refine Or.inl ⟨hp21, ?_⟩
        clear g
        replace h : EV F f 187 z187 114 [some (rf 11 (0)), y1, y2, some (rf 13 (17)), some (.inl (u4)), y5, y6, some (.inl (u7)), some (.inl (u8)), some (.inl (u9)), some (.inr (.inl (t0))), none, some (.inl (v16)), y13] [.inl (v16)] σ17 (w, σ') := h
        replace h := ei_p h rfl rfl rfl rfl
        obtain ⟨f, g, h⟩ := h
        clear g
        replace h : EV F f 187 z187 115 [some (rf 11 (0)), y1, y2, some (rf 13 (17)), some (.inl (u4)), y5, y6, some (.inl (u7)), some (.inl (u8)), some (.inl (u9)), some (.inr (.inl (t0))), none, some (.inl (v16)), y13] [.inl (Int32.ofInt 0), .inl (v16)] σ17 (w, σ') := h
        exact j187_115 hsσ17 h
      · skip
        replace hp21 : ¬ ((u8).toInt = (0 : Int)) := (not_congr ic_eq).mp hp21
        refine Or.inr ⟨hp21, ?_⟩
        clear g
        replace h : EV F f 187 z187 110 [some (rf 11 (0)), y1, y2, some (rf 13 (17)), some (.inl (u4)), y5, y6, some (.inl (u7)), some (.inl (u8)), some (.inl (u9)), some (.inr (.inl (t0))), none, some (.inl (v16)), y13] [.inl (v16)] σ17 (w, σ') := h
        replace h := ei_p h rfl rfl rfl rfl
        obtain ⟨f, g, h⟩ := h
        clear g
        replace h : EV F f 187 z187 111 [some (rf 11 (0)), y1, y2, some (rf 13 (17)), some (.inl (u4)), y5, y6, some (.inl (u7)), some (.inl (u8)), some (.inl (u9)), some (.inr (.inl (t0))), none, some (.inl (v16)), y13] [.inl (Int32.ofInt (-1)), .inl (v16)] σ17 (w, σ') := h
        replace h := ei_p h rfl rfl rfl rfl
        obtain ⟨f, g, h⟩ := h
        clear g
        replace h : EV F f 187 z187 115 [some (rf 11 (0)), y1, y2, some (rf 13 (17)), some (.inl (u4)), y5, y6, some (.inl (u7)), some (.inl (u8)), some (.inl (u9)), some (.inr (.inl (t0))), none, some (.inl (v16)), y13] [.inl (Int32.ofInt (-1)), .inl (v16)] σ17 (w, σ') := h
        exact j187_115 hsσ17 h
    · skip
      replace hp20 : ¬ ((u7).toInt ≠ (3 : Int)) := (not_congr ic_ne).mp hp20
      refine Or.inr ⟨hp20, ?_⟩
      clear g
      replace h : EV F f 187 z187 100 [some (rf 11 (0)), y1, y2, some (rf 13 (17)), some (.inl (u4)), y5, y6, some (.inl (u7)), some (.inl (u8)), some (.inl (u9)), some (.inr (.inl (t0))), none, some (.inl (v16)), y13] [.inl (v16)] σ17 (w, σ') := h
      replace h := ei_p h rfl rfl rfl rfl
      obtain ⟨f, g, h⟩ := h
      clear g
      replace h : EV F f 187 z187 102 [some (rf 11 (0)), y1, y2, some (rf 13 (17)), some (.inl (u4)), y5, y6, some (.inl (u7)), some (.inl (u8)), some (.inl (u9)), some (.inr (.inl (t0))), none, some (.inl (v16)), y13] [.inl (Int32.ofInt (-3)), .inl (v16)] σ17 (w, σ') := h
      replace h := ei_p h rfl rfl rfl rfl
      obtain ⟨f, g, h⟩ := h
      clear g
      replace h : EV F f 187 z187 115 [some (rf 11 (0)), y1, y2, some (rf 13 (17)), some (.inl (u4)), y5, y6, some (.inl (u7)), some (.inl (u8)), some (.inl (u9)), some (.inr (.inl (t0))), none, some (.inl (v16)), y13] [.inl (Int32.ofInt (-3)), .inl (v16)] σ17 (w, σ') := h
      exact j187_115 hsσ17 h
def J187_57 (u4 : Int32) (u7 : Int32) (u8 : Int32) (t0 : Int32) (τ : mS) (w : mX) (σ' : mS) : Prop := (((3 : Int) ≤ (u7).toInt ∧ J187_75 (u4) (u7) (u8) (t0) (Int64.ofNat 0) τ w σ') ∨ (¬ ((3 : Int) ≤ (u7).toInt) ∧ ((∃ v2, P136 τ (u7) (.inl (some (.inr (.inl v2)))) τ ∧ J187_75 (u4) (u7) (u8) (t0) (v2) τ w σ') ∨ (∃ b, P136 τ (u7) (.inr b) τ ∧ w = .inr b ∧ σ' = τ))))
set_option maxRecDepth 100000 in
theorem j187_57 {F f : Nat} {σ' τ : mS} {u4 : Int32} {u7 : Int32} {u8 : Int32} {t0 : Int32} {y1 : Option mV} {y2 : Option mV} {y5 : Option mV} {y6 : Option mV} {y9 : Option mV} {y10 : Option mV} {y11 : Option mV} {y12 : Option mV} {y13 : Option mV} {w : mX} (hsτ : HL τ) (h : EV F f 187 z187 57 [some (rf 11 (0)), y1, y2, some (rf 13 (17)), some (.inl (u4)), y5, y6, some (.inl (u7)), some (.inl (u8)), y9, y10, y11, y12, y13] [.inl (t0)] τ (w, σ')) : J187_57 u4 u7 u8 t0 τ w σ' := by
  unfold J187_57
  replace h := ei_p h rfl rfl rfl rfl
  obtain ⟨f, g, h⟩ := h
  clear g
  replace h : EV F f 187 z187 59 [some (rf 11 (0)), y1, y2, some (rf 13 (17)), some (.inl (u4)), y5, y6, some (.inl (u7)), some (.inl (u8)), some (.inl (t0)), y10, y11, y12, y13] [] τ (w, σ') := h
  replace h := ei_p h rfl rfl rfl rfl
  obtain ⟨f, g, h⟩ := h
  clear g
  replace h : EV F f 187 z187 61 [some (rf 11 (0)), y1, y2, some (rf 13 (17)), some (.inl (u4)), y5, y6, some (.inl (u7)), some (.inl (u8)), some (.inl (t0)), y10, y11, y12, y13] [.inl (u7)] τ (w, σ') := h
  replace h := ei_p h rfl rfl rfl rfl
  obtain ⟨f, g, h⟩ := h
  clear g
  replace h : EV F f 187 z187 62 [some (rf 11 (0)), y1, y2, some (rf 13 (17)), some (.inl (u4)), y5, y6, some (.inl (u7)), some (.inl (u8)), some (.inl (t0)), y10, y11, y12, y13] [.inl (Int32.ofInt 3), .inl (u7)] τ (w, σ') := h
  replace h := ei_c h rfl rfl rfl
  rcases h with ⟨hp1, f, g, h⟩ | ⟨hp1, f, g, h⟩
  · skip
    replace hp1 : (3 : Int) ≤ (u7).toInt := ic_ge.mp hp1
    refine Or.inl ⟨hp1, ?_⟩
    clear g
    replace h : EV F f 187 z187 74 [some (rf 11 (0)), y1, y2, some (rf 13 (17)), some (.inl (u4)), y5, y6, some (.inl (u7)), some (.inl (u8)), some (.inl (t0)), y10, y11, y12, y13] [] τ (w, σ') := h
    replace h := ei_p h rfl rfl rfl rfl
    obtain ⟨f, g, h⟩ := h
    clear g
    replace h : EV F f 187 z187 75 [some (rf 11 (0)), y1, y2, some (rf 13 (17)), some (.inl (u4)), y5, y6, some (.inl (u7)), some (.inl (u8)), some (.inl (t0)), y10, y11, y12, y13] [.inr (.inl (Int64.ofNat 0))] τ (w, σ') := h
    exact j187_75 hsτ h
  · skip
    replace hp1 : ¬ ((3 : Int) ≤ (u7).toInt) := (not_congr ic_ge).mp hp1
    refine Or.inr ⟨hp1, ?_⟩
    clear g
    replace h : EV F f 187 z187 65 [some (rf 11 (0)), y1, y2, some (rf 13 (17)), some (.inl (u4)), y5, y6, some (.inl (u7)), some (.inl (u8)), some (.inl (t0)), y10, y11, y12, y13] [] τ (w, σ') := h
    replace h := ei_p h rfl rfl rfl rfl
    obtain ⟨f, g, h⟩ := h
    clear g
    replace h : EV F f 187 z187 66 [some (rf 11 (0)), y1, y2, some (rf 13 (17)), some (.inl (u4)), y5, y6, some (.inl (u7)), some (.inl (u8)), some (.inl (t0)), y10, y11, y12, y13] [rf 11 (0)] τ (w, σ') := h
    replace h := ei_p h rfl rfl rfl rfl
    obtain ⟨f, g, h⟩ := h
    clear g
    replace h : EV F f 187 z187 68 [some (rf 11 (0)), y1, y2, some (rf 13 (17)), some (.inl (u4)), y5, y6, some (.inl (u7)), some (.inl (u8)), some (.inl (t0)), y10, y11, y12, y13] [.inl (u7), rf 11 (0)] τ (w, σ') := h
    replace h := bx_L (ei_v (as := [.inl (u7)]) h rfl rfl rfl) z136_at rfl
    rcases h with ⟨v2, σ3, r4, f, g, h⟩ | ⟨b, σ3, r4, e⟩
    · skip
      have er4 := ro2_run rfl r4
      rw [er4] at h r4
      clear g
      have p5 := x136 hsτ.1 r4
      refine Or.inl ⟨v2, p5, ?_⟩
      replace h : EV F f 187 z187 71 [some (rf 11 (0)), y1, y2, some (rf 13 (17)), some (.inl (u4)), y5, y6, some (.inl (u7)), some (.inl (u8)), some (.inl (t0)), y10, y11, y12, y13] [.inr (.inl (v2))] τ (w, σ') := h
      replace h := ei_p h rfl rfl rfl rfl
      obtain ⟨f, g, h⟩ := h
      clear g
      replace h : EV F f 187 z187 75 [some (rf 11 (0)), y1, y2, some (rf 13 (17)), some (.inl (u4)), y5, y6, some (.inl (u7)), some (.inl (u8)), some (.inl (t0)), y10, y11, y12, y13] [.inr (.inl (v2))] τ (w, σ') := h
      exact j187_75 hsτ h
    · skip
      have er4 := ro2_run rfl r4
      rw [er4] at e r4
      have p5 := x136 hsτ.1 r4
      cases e
      exact Or.inr ⟨b, p5, rfl, rfl⟩
def J187_36 (u4 : Int32) (u7 : Int32) (t0 : Int32) (τ : mS) (w : mX) (σ' : mS) : Prop := (((3 : Int) ≤ (u7).toInt ∧ J187_57 (u4) (u7) (t0) (Int32.ofInt 0) τ w σ') ∨ (¬ ((3 : Int) ≤ (u7).toInt) ∧ ((∃ v2, P140 τ (u7) (.inl (some (.inl v2))) τ ∧ J187_57 (u4) (u7) (t0) ((v2) / (Int32.ofInt 10)) τ w σ') ∨ (∃ b, P140 τ (u7) (.inr b) τ ∧ w = .inr b ∧ σ' = τ))))
set_option maxRecDepth 100000 in
theorem j187_36 {F f : Nat} {σ' τ : mS} {u4 : Int32} {u7 : Int32} {t0 : Int32} {y1 : Option mV} {y2 : Option mV} {y5 : Option mV} {y6 : Option mV} {y8 : Option mV} {y9 : Option mV} {y10 : Option mV} {y11 : Option mV} {y12 : Option mV} {y13 : Option mV} {w : mX} (hsτ : HL τ) (h : EV F f 187 z187 36 [some (rf 11 (0)), y1, y2, some (rf 13 (17)), some (.inl (u4)), y5, y6, some (.inl (u7)), y8, y9, y10, y11, y12, y13] [.inl (t0)] τ (w, σ')) : J187_36 u4 u7 t0 τ w σ' := by
  unfold J187_36
  replace h := ei_p h rfl rfl rfl rfl
  obtain ⟨f, g, h⟩ := h
  clear g
  replace h : EV F f 187 z187 38 [some (rf 11 (0)), y1, y2, some (rf 13 (17)), some (.inl (u4)), y5, y6, some (.inl (u7)), some (.inl (t0)), y9, y10, y11, y12, y13] [] τ (w, σ') := h
  replace h := ei_p h rfl rfl rfl rfl
  obtain ⟨f, g, h⟩ := h
  clear g
  replace h : EV F f 187 z187 40 [some (rf 11 (0)), y1, y2, some (rf 13 (17)), some (.inl (u4)), y5, y6, some (.inl (u7)), some (.inl (t0)), y9, y10, y11, y12, y13] [.inl (u7)] τ (w, σ') := h
  replace h := ei_p h rfl rfl rfl rfl
  obtain ⟨f, g, h⟩ := h
  clear g
  replace h : EV F f 187 z187 41 [some (rf 11 (0)), y1, y2, some (rf 13 (17)), some (.inl (u4)), y5, y6, some (.inl (u7)), some (.inl (t0)), y9, y10, y11, y12, y13] [.inl (Int32.ofInt 3), .inl (u7)] τ (w, σ') := h
  replace h := ei_c h rfl rfl rfl
  rcases h with ⟨hp1, f, g, h⟩ | ⟨hp1, f, g, h⟩
  · skip
    replace hp1 : (3 : Int) ≤ (u7).toInt := ic_ge.mp hp1
    refine Or.inl ⟨hp1, ?_⟩
    clear g
    replace h : EV F f 187 z187 56 [some (rf 11 (0)), y1, y2, some (rf 13 (17)), some (.inl (u4)), y5, y6, some (.inl (u7)), some (.inl (t0)), y9, y10, y11, y12, y13] [] τ (w, σ') := h
    replace h := ei_p h rfl rfl rfl rfl
    obtain ⟨f, g, h⟩ := h
    clear g
    replace h : EV F f 187 z187 57 [some (rf 11 (0)), y1, y2, some (rf 13 (17)), some (.inl (u4)), y5, y6, some (.inl (u7)), some (.inl (t0)), y9, y10, y11, y12, y13] [.inl (Int32.ofInt 0)] τ (w, σ') := h
    exact j187_57 hsτ h
  · skip
    replace hp1 : ¬ ((3 : Int) ≤ (u7).toInt) := (not_congr ic_ge).mp hp1
    refine Or.inr ⟨hp1, ?_⟩
    clear g
    replace h : EV F f 187 z187 44 [some (rf 11 (0)), y1, y2, some (rf 13 (17)), some (.inl (u4)), y5, y6, some (.inl (u7)), some (.inl (t0)), y9, y10, y11, y12, y13] [] τ (w, σ') := h
    replace h := ei_p h rfl rfl rfl rfl
    obtain ⟨f, g, h⟩ := h
    clear g
    replace h : EV F f 187 z187 45 [some (rf 11 (0)), y1, y2, some (rf 13 (17)), some (.inl (u4)), y5, y6, some (.inl (u7)), some (.inl (t0)), y9, y10, y11, y12, y13] [rf 11 (0)] τ (w, σ') := h
    replace h := ei_p h rfl rfl rfl rfl
    obtain ⟨f, g, h⟩ := h
    clear g
    replace h : EV F f 187 z187 47 [some (rf 11 (0)), y1, y2, some (rf 13 (17)), some (.inl (u4)), y5, y6, some (.inl (u7)), some (.inl (t0)), y9, y10, y11, y12, y13] [.inl (u7), rf 11 (0)] τ (w, σ') := h
    replace h := bx_I (ei_v (as := [.inl (u7)]) h rfl rfl rfl) z140_at (Or.inl rfl)
    rcases h with ⟨v2, σ3, r4, f, g, h⟩ | ⟨b, σ3, r4, e⟩
    · skip
      have er4 := ro2_run rfl r4
      rw [er4] at h r4
      clear g
      have p5 := x140 hsτ.1 r4
      refine Or.inl ⟨v2, p5, ?_⟩
      replace h : EV F f 187 z187 50 [some (rf 11 (0)), y1, y2, some (rf 13 (17)), some (.inl (u4)), y5, y6, some (.inl (u7)), some (.inl (t0)), y9, y10, y11, y12, y13] [.inl (v2)] τ (w, σ') := h
      replace h := ei_p h rfl rfl rfl rfl
      obtain ⟨f, g, h⟩ := h
      clear g
      replace h : EV F f 187 z187 52 [some (rf 11 (0)), y1, y2, some (rf 13 (17)), some (.inl (u4)), y5, y6, some (.inl (u7)), some (.inl (t0)), y9, y10, y11, y12, y13] [.inl (Int32.ofInt 10), .inl (v2)] τ (w, σ') := h
      replace h := ei_idiv h rfl
      obtain ⟨hd6, f, g, h⟩ := h
      clear g
      replace h : EV F f 187 z187 53 [some (rf 11 (0)), y1, y2, some (rf 13 (17)), some (.inl (u4)), y5, y6, some (.inl (u7)), some (.inl (t0)), y9, y10, y11, y12, y13] [.inl ((v2) / (Int32.ofInt 10))] τ (w, σ') := h
      replace h := ei_p h rfl rfl rfl rfl
      obtain ⟨f, g, h⟩ := h
      clear g
      replace h : EV F f 187 z187 57 [some (rf 11 (0)), y1, y2, some (rf 13 (17)), some (.inl (u4)), y5, y6, some (.inl (u7)), some (.inl (t0)), y9, y10, y11, y12, y13] [.inl ((v2) / (Int32.ofInt 10))] τ (w, σ') := h
      exact j187_57 hsτ h
    · skip
      have er4 := ro2_run rfl r4
      rw [er4] at e r4
      have p5 := x140 hsτ.1 r4
      cases e
      exact Or.inr ⟨b, p5, rfl, rfl⟩
def J187_35 (u4 : Int32) (u7 : Int32) (τ : mS) (w : mX) (σ' : mS) : Prop := J187_36 (u4) (u7) (Int32.ofInt 0) τ w σ'
set_option maxRecDepth 100000 in
theorem j187_35 {F f : Nat} {σ' τ : mS} {u4 : Int32} {u7 : Int32} {y1 : Option mV} {y2 : Option mV} {y5 : Option mV} {y6 : Option mV} {y8 : Option mV} {y9 : Option mV} {y10 : Option mV} {y11 : Option mV} {y12 : Option mV} {y13 : Option mV} {w : mX} (hsτ : HL τ) (h : EV F f 187 z187 35 [some (rf 11 (0)), y1, y2, some (rf 13 (17)), some (.inl (u4)), y5, y6, some (.inl (u7)), y8, y9, y10, y11, y12, y13] [] τ (w, σ')) : J187_35 u4 u7 τ w σ' := by
  unfold J187_35
  replace h := ei_p h rfl rfl rfl rfl
  obtain ⟨f, g, h⟩ := h
  clear g
  replace h : EV F f 187 z187 36 [some (rf 11 (0)), y1, y2, some (rf 13 (17)), some (.inl (u4)), y5, y6, some (.inl (u7)), y8, y9, y10, y11, y12, y13] [.inl (Int32.ofInt 0)] τ (w, σ') := h
  exact j187_36 hsτ h
def P187 (σ : mS) (x5 : Int32) (x6 : Int32) (x7 : Int32) (w : mX) (σ' : mS) : Prop := ∃ n2, n2 = (x6) - (x6) / (Int32.ofInt 4) * (Int32.ofInt 4) ∧ (((2 : Int) ≤ (x5).toInt ∧ (((x5).toInt ≠ (2 : Int) ∧ (((x5).toInt ≠ (3 : Int) ∧ ∃ n8, n8 = (x7) - (x7) / (Int32.ofInt 1002) * (Int32.ofInt 1002) ∧ ∃ n, Q187_554 (n2) (n8) n (Int64.ofNat 0) (Int32.ofInt (-1)) σ w σ') ∨ (¬ ((x5).toInt ≠ (3 : Int)) ∧ ∃ n11, n11 = (Int32.ofInt 1) + ((x7) - (x7) / (Int32.ofInt 6) * (Int32.ofInt 6)) ∧ (((3 : Int) ≤ (n2).toInt ∧ J187_363 (n2) (n11) (Int32.ofInt 0) σ w σ') ∨ (¬ ((3 : Int) ≤ (n2).toInt) ∧ (0 ≤ ((Int32.ofInt 5) + (n2)).toInt ∧ ((Int32.ofInt 5) + (n2)).toInt < (σ.2.1 13 (17) : Int)) ∧ J187_363 (n2) (n11) (m_i σ 13 (17) ((Int32.ofInt 5) + (n2)).toNatClampNeg) σ w σ'))))) ∨ (¬ ((x5).toInt ≠ (2 : Int)) ∧ ∃ n16, n16 = (x7) - (x7) / (Int32.ofInt 52) * (Int32.ofInt 52) ∧ ∃ v18 σ19, gF σ σ19 ∧ HL σ19 ∧ P172 σ (Int32.ofInt 6) (n2) (n16) (Int32.ofInt 0) (Int32.ofInt 0) (Int32.ofInt 0) (Int32.ofInt 0) (Int32.ofInt 0) (.inl (some (.inr (.inl v18)))) σ19 ∧ (((n2).toInt ≠ (3 : Int) ∧ (((n16).toInt ≤ (50 : Int) ∧ (((v18).toInt < (Int64.ofNat 0).toInt ∧ J187_330 σ19 w σ') ∨ (¬ ((v18).toInt < (Int64.ofNat 0).toInt) ∧ (((Int64.ofInt 51).toInt ≤ (v18).toInt ∧ J187_330 σ19 w σ') ∨ (¬ ((Int64.ofInt 51).toInt ≤ (v18).toInt) ∧ w = .inl (some (.inl (Int32.ofInt 1))) ∧ σ' = σ19))))) ∨ (¬ ((n16).toInt ≤ (50 : Int)) ∧ (((v18).toInt ≠ (Int64.ofInt (-2000000000)).toInt ∧ w = .inl (some (.inl (Int32.ofInt 0))) ∧ σ' = σ19) ∨ (¬ ((v18).toInt ≠ (Int64.ofInt (-2000000000)).toInt) ∧ w = .inl (some (.inl (Int32.ofInt 1))) ∧ σ' = σ19))))) ∨ (¬ ((n2).toInt ≠ (3 : Int)) ∧ (((v18).toInt ≠ (Int64.ofInt (-3000000000)).toInt ∧ w = .inl (some (.inl (Int32.ofInt 0))) ∧ σ' = σ19) ∨ (¬ ((v18).toInt ≠ (Int64.ofInt (-3000000000)).toInt) ∧ w = .inl (some (.inl (Int32.ofInt 1))) ∧ σ' = σ19))))))) ∨ (¬ ((2 : Int) ≤ (x5).toInt) ∧ (((3 : Int) ≤ (n2).toInt ∧ J187_35 (x5) (n2) σ w σ') ∨ (¬ ((3 : Int) ≤ (n2).toInt) ∧ ((∃ v29, P140 σ (n2) (.inl (some (.inl v29))) σ ∧ ((((v29) - (v29) / (Int32.ofInt 10) * (Int32.ofInt 10)).toInt ≠ (1 : Int) ∧ J187_35 (x5) (n2) σ w σ') ∨ (¬ (((v29) - (v29) / (Int32.ofInt 10) * (Int32.ofInt 10)).toInt ≠ (1 : Int)) ∧ J187_36 (x5) (n2) (Int32.ofInt 1) σ w σ'))) ∨ (∃ b, P140 σ (n2) (.inr b) σ ∧ w = .inr b ∧ σ' = σ))))))
set_option maxRecDepth 100000 in
theorem x187 {σ σ' : mS} {x5 : Int32} {x6 : Int32} {x7 : Int32} {w : mX} (hs : HL σ) (h : ev_run sm_all 187 [rf 11 (0), rf 13 (14), rf 13 (15), rf 13 (17), .inl (x5), .inl (x6), .inl (x7)] σ (w) σ') : P187 σ x5 x6 x7 w σ' := by
  unfold P187
  obtain ⟨F, f, h⟩ := ei_go h z187_at
  replace h : EV F f 187 z187 0 [some (rf 11 (0)), some (rf 13 (14)), some (rf 13 (15)), some (rf 13 (17)), some (.inl (x5)), some (.inl (x6)), some (.inl (x7)), none, none, none, none, none, none, none] [] σ (w, σ') := h
  replace h := ei_p h rfl rfl rfl rfl
  obtain ⟨f, g, h⟩ := h
  clear g
  replace h : EV F f 187 z187 2 [some (rf 11 (0)), some (rf 13 (14)), some (rf 13 (15)), some (rf 13 (17)), some (.inl (x5)), some (.inl (x6)), some (.inl (x7)), none, none, none, none, none, none, none] [.inl (x6)] σ (w, σ') := h
  replace h := ei_p h rfl rfl rfl rfl
  obtain ⟨f, g, h⟩ := h
  clear g
  replace h : EV F f 187 z187 3 [some (rf 11 (0)), some (rf 13 (14)), some (rf 13 (15)), some (rf 13 (17)), some (.inl (x5)), some (.inl (x6)), some (.inl (x7)), none, none, none, none, none, none, none] [.inl (Int32.ofInt 4), .inl (x6)] σ (w, σ') := h
  replace h := ei_irem h rfl
  obtain ⟨hd1, f, g, h⟩ := h
  clear g
  replace h : EV F f 187 z187 4 [some (rf 11 (0)), some (rf 13 (14)), some (rf 13 (15)), some (rf 13 (17)), some (.inl (x5)), some (.inl (x6)), some (.inl (x7)), none, none, none, none, none, none, none] [.inl ((x6) - (x6) / (Int32.ofInt 4) * (Int32.ofInt 4))] σ (w, σ') := h
  replace h := ei_p h rfl rfl rfl rfl
  obtain ⟨f, g, h⟩ := h
  clear g
  replace h : EV F f 187 z187 6 [some (rf 11 (0)), some (rf 13 (14)), some (rf 13 (15)), some (rf 13 (17)), some (.inl (x5)), some (.inl (x6)), some (.inl (x7)), some (.inl ((x6) - (x6) / (Int32.ofInt 4) * (Int32.ofInt 4))), none, none, none, none, none, none] [] σ (w, σ') := h
  obtain ⟨n2, e3⟩ : ∃ s, s = (x6) - (x6) / (Int32.ofInt 4) * (Int32.ofInt 4) := ⟨_, rfl⟩
  rw [← e3] at h
  refine ⟨n2, e3, ?_⟩
  replace h : EV F f 187 z187 6 [some (rf 11 (0)), some (rf 13 (14)), some (rf 13 (15)), some (rf 13 (17)), some (.inl (x5)), some (.inl (x6)), some (.inl (x7)), some (.inl (n2)), none, none, none, none, none, none] [] σ (w, σ') := h
  replace h := ei_p h rfl rfl rfl rfl
  obtain ⟨f, g, h⟩ := h
  clear g
  replace h : EV F f 187 z187 8 [some (rf 11 (0)), some (rf 13 (14)), some (rf 13 (15)), some (rf 13 (17)), some (.inl (x5)), some (.inl (x6)), some (.inl (x7)), some (.inl (n2)), none, none, none, none, none, none] [.inl (x5)] σ (w, σ') := h
  replace h := ei_p h rfl rfl rfl rfl
  obtain ⟨f, g, h⟩ := h
  clear g
  replace h : EV F f 187 z187 9 [some (rf 11 (0)), some (rf 13 (14)), some (rf 13 (15)), some (rf 13 (17)), some (.inl (x5)), some (.inl (x6)), some (.inl (x7)), some (.inl (n2)), none, none, none, none, none, none] [.inl (Int32.ofInt 2), .inl (x5)] σ (w, σ') := h
  replace h := ei_c h rfl rfl rfl
  rcases h with ⟨hp4, f, g, h⟩ | ⟨hp4, f, g, h⟩
  · skip
    replace hp4 : (2 : Int) ≤ (x5).toInt := ic_ge.mp hp4
    refine Or.inl ⟨hp4, ?_⟩
    clear g
    replace h : EV F f 187 z187 233 [some (rf 11 (0)), some (rf 13 (14)), some (rf 13 (15)), some (rf 13 (17)), some (.inl (x5)), some (.inl (x6)), some (.inl (x7)), some (.inl (n2)), none, none, none, none, none, none] [] σ (w, σ') := h
    replace h := ei_p h rfl rfl rfl rfl
    obtain ⟨f, g, h⟩ := h
    clear g
    replace h : EV F f 187 z187 235 [some (rf 11 (0)), some (rf 13 (14)), some (rf 13 (15)), some (rf 13 (17)), some (.inl (x5)), some (.inl (x6)), some (.inl (x7)), some (.inl (n2)), none, none, none, none, none, none] [.inl (x5)] σ (w, σ') := h
    replace h := ei_p h rfl rfl rfl rfl
    obtain ⟨f, g, h⟩ := h
    clear g
    replace h : EV F f 187 z187 236 [some (rf 11 (0)), some (rf 13 (14)), some (rf 13 (15)), some (rf 13 (17)), some (.inl (x5)), some (.inl (x6)), some (.inl (x7)), some (.inl (n2)), none, none, none, none, none, none] [.inl (Int32.ofInt 2), .inl (x5)] σ (w, σ') := h
    replace h := ei_c h rfl rfl rfl
    rcases h with ⟨hp5, f, g, h⟩ | ⟨hp5, f, g, h⟩
    · skip
      replace hp5 : (x5).toInt ≠ (2 : Int) := ic_ne.mp hp5
      refine Or.inl ⟨hp5, ?_⟩
      clear g
      replace h : EV F f 187 z187 332 [some (rf 11 (0)), some (rf 13 (14)), some (rf 13 (15)), some (rf 13 (17)), some (.inl (x5)), some (.inl (x6)), some (.inl (x7)), some (.inl (n2)), none, none, none, none, none, none] [] σ (w, σ') := h
      replace h := ei_p h rfl rfl rfl rfl
      obtain ⟨f, g, h⟩ := h
      clear g
      replace h : EV F f 187 z187 334 [some (rf 11 (0)), some (rf 13 (14)), some (rf 13 (15)), some (rf 13 (17)), some (.inl (x5)), some (.inl (x6)), some (.inl (x7)), some (.inl (n2)), none, none, none, none, none, none] [.inl (x5)] σ (w, σ') := h
      replace h := ei_p h rfl rfl rfl rfl
      obtain ⟨f, g, h⟩ := h
      clear g
      replace h : EV F f 187 z187 335 [some (rf 11 (0)), some (rf 13 (14)), some (rf 13 (15)), some (rf 13 (17)), some (.inl (x5)), some (.inl (x6)), some (.inl (x7)), some (.inl (n2)), none, none, none, none, none, none] [.inl (Int32.ofInt 3), .inl (x5)] σ (w, σ') := h
      replace h := ei_c h rfl rfl rfl
      rcases h with ⟨hp6, f, g, h⟩ | ⟨hp6, f, g, h⟩
      · skip
        replace hp6 : (x5).toInt ≠ (3 : Int) := ic_ne.mp hp6
        refine Or.inl ⟨hp6, ?_⟩
        clear g
        replace h : EV F f 187 z187 540 [some (rf 11 (0)), some (rf 13 (14)), some (rf 13 (15)), some (rf 13 (17)), some (.inl (x5)), some (.inl (x6)), some (.inl (x7)), some (.inl (n2)), none, none, none, none, none, none] [] σ (w, σ') := h
        replace h := ei_p h rfl rfl rfl rfl
        obtain ⟨f, g, h⟩ := h
        clear g
        replace h : EV F f 187 z187 542 [some (rf 11 (0)), some (rf 13 (14)), some (rf 13 (15)), some (rf 13 (17)), some (.inl (x5)), some (.inl (x6)), some (.inl (x7)), some (.inl (n2)), none, none, none, none, none, none] [.inl (x7)] σ (w, σ') := h
        replace h := ei_p h rfl rfl rfl rfl
        obtain ⟨f, g, h⟩ := h
        clear g
        replace h : EV F f 187 z187 545 [some (rf 11 (0)), some (rf 13 (14)), some (rf 13 (15)), some (rf 13 (17)), some (.inl (x5)), some (.inl (x6)), some (.inl (x7)), some (.inl (n2)), none, none, none, none, none, none] [.inl (Int32.ofInt 1002), .inl (x7)] σ (w, σ') := h
        replace h := ei_irem h rfl
        obtain ⟨hd7, f, g, h⟩ := h
        clear g
        replace h : EV F f 187 z187 546 [some (rf 11 (0)), some (rf 13 (14)), some (rf 13 (15)), some (rf 13 (17)), some (.inl (x5)), some (.inl (x6)), some (.inl (x7)), some (.inl (n2)), none, none, none, none, none, none] [.inl ((x7) - (x7) / (Int32.ofInt 1002) * (Int32.ofInt 1002))] σ (w, σ') := h
        replace h := ei_p h rfl rfl rfl rfl
        obtain ⟨f, g, h⟩ := h
        clear g
        replace h : EV F f 187 z187 548 [some (rf 11 (0)), some (rf 13 (14)), some (rf 13 (15)), some (rf 13 (17)), some (.inl (x5)), some (.inl (x6)), some (.inl (x7)), some (.inl (n2)), some (.inl ((x7) - (x7) / (Int32.ofInt 1002) * (Int32.ofInt 1002))), none, none, none, none, none] [] σ (w, σ') := h
        obtain ⟨n8, e9⟩ : ∃ s, s = (x7) - (x7) / (Int32.ofInt 1002) * (Int32.ofInt 1002) := ⟨_, rfl⟩
        rw [← e9] at h
        refine ⟨n8, e9, ?_⟩
        replace h : EV F f 187 z187 548 [some (rf 11 (0)), some (rf 13 (14)), some (rf 13 (15)), some (rf 13 (17)), some (.inl (x5)), some (.inl (x6)), some (.inl (x7)), some (.inl (n2)), some (.inl (n8)), none, none, none, none, none] [] σ (w, σ') := h
        replace h := ei_p h rfl rfl rfl rfl
        obtain ⟨f, g, h⟩ := h
        clear g
        replace h : EV F f 187 z187 549 [some (rf 11 (0)), some (rf 13 (14)), some (rf 13 (15)), some (rf 13 (17)), some (.inl (x5)), some (.inl (x6)), some (.inl (x7)), some (.inl (n2)), some (.inl (n8)), none, none, none, none, none] [.inr (.inl (Int64.ofNat 0))] σ (w, σ') := h
        replace h := ei_p h rfl rfl rfl rfl
        obtain ⟨f, g, h⟩ := h
        clear g
        replace h : EV F f 187 z187 551 [some (rf 11 (0)), some (rf 13 (14)), some (rf 13 (15)), some (rf 13 (17)), some (.inl (x5)), some (.inl (x6)), some (.inl (x7)), some (.inl (n2)), some (.inl (n8)), some (.inr (.inl (Int64.ofNat 0))), none, none, none, none] [] σ (w, σ') := h
        replace h := ei_p h rfl rfl rfl rfl
        obtain ⟨f, g, h⟩ := h
        clear g
        replace h : EV F f 187 z187 552 [some (rf 11 (0)), some (rf 13 (14)), some (rf 13 (15)), some (rf 13 (17)), some (.inl (x5)), some (.inl (x6)), some (.inl (x7)), some (.inl (n2)), some (.inl (n8)), some (.inr (.inl (Int64.ofNat 0))), none, none, none, none] [.inl (Int32.ofInt (-1))] σ (w, σ') := h
        replace h := ei_p h rfl rfl rfl rfl
        obtain ⟨f, g, h⟩ := h
        clear g
        replace h : EV F f 187 z187 554 [some (rf 11 (0)), some (rf 13 (14)), some (rf 13 (15)), some (rf 13 (17)), some (.inl (x5)), some (.inl (x6)), some (.inl (x7)), some (.inl (n2)), some (.inl (n8)), some (.inr (.inl (Int64.ofNat 0))), none, some (.inl (Int32.ofInt (-1))), none, none] [] σ (w, σ') := h
        exact ⟨f + 1, q187_554 (f + 1) f (Nat.lt_succ_self f) (Int64.ofNat 0) (Int32.ofInt (-1)) _ _ _ _ _ _ _ _ σ hs h⟩
      · skip
        replace hp6 : ¬ ((x5).toInt ≠ (3 : Int)) := (not_congr ic_ne).mp hp6
        refine Or.inr ⟨hp6, ?_⟩
        clear g
        replace h : EV F f 187 z187 338 [some (rf 11 (0)), some (rf 13 (14)), some (rf 13 (15)), some (rf 13 (17)), some (.inl (x5)), some (.inl (x6)), some (.inl (x7)), some (.inl (n2)), none, none, none, none, none, none] [] σ (w, σ') := h
        replace h := ei_p h rfl rfl rfl rfl
        obtain ⟨f, g, h⟩ := h
        clear g
        replace h : EV F f 187 z187 339 [some (rf 11 (0)), some (rf 13 (14)), some (rf 13 (15)), some (rf 13 (17)), some (.inl (x5)), some (.inl (x6)), some (.inl (x7)), some (.inl (n2)), none, none, none, none, none, none] [.inl (Int32.ofInt 1)] σ (w, σ') := h
        replace h := ei_p h rfl rfl rfl rfl
        obtain ⟨f, g, h⟩ := h
        clear g
        replace h : EV F f 187 z187 341 [some (rf 11 (0)), some (rf 13 (14)), some (rf 13 (15)), some (rf 13 (17)), some (.inl (x5)), some (.inl (x6)), some (.inl (x7)), some (.inl (n2)), none, none, none, none, none, none] [.inl (x7), .inl (Int32.ofInt 1)] σ (w, σ') := h
        replace h := ei_p h rfl rfl rfl rfl
        obtain ⟨f, g, h⟩ := h
        clear g
        replace h : EV F f 187 z187 343 [some (rf 11 (0)), some (rf 13 (14)), some (rf 13 (15)), some (rf 13 (17)), some (.inl (x5)), some (.inl (x6)), some (.inl (x7)), some (.inl (n2)), none, none, none, none, none, none] [.inl (Int32.ofInt 6), .inl (x7), .inl (Int32.ofInt 1)] σ (w, σ') := h
        replace h := ei_irem h rfl
        obtain ⟨hd10, f, g, h⟩ := h
        clear g
        replace h : EV F f 187 z187 344 [some (rf 11 (0)), some (rf 13 (14)), some (rf 13 (15)), some (rf 13 (17)), some (.inl (x5)), some (.inl (x6)), some (.inl (x7)), some (.inl (n2)), none, none, none, none, none, none] [.inl ((x7) - (x7) / (Int32.ofInt 6) * (Int32.ofInt 6)), .inl (Int32.ofInt 1)] σ (w, σ') := h
        replace h := ei_p h rfl rfl rfl rfl
        obtain ⟨f, g, h⟩ := h
        clear g
        replace h : EV F f 187 z187 345 [some (rf 11 (0)), some (rf 13 (14)), some (rf 13 (15)), some (rf 13 (17)), some (.inl (x5)), some (.inl (x6)), some (.inl (x7)), some (.inl (n2)), none, none, none, none, none, none] [.inl ((Int32.ofInt 1) + ((x7) - (x7) / (Int32.ofInt 6) * (Int32.ofInt 6)))] σ (w, σ') := h
        replace h := ei_p h rfl rfl rfl rfl
        obtain ⟨f, g, h⟩ := h
        clear g
        replace h : EV F f 187 z187 347 [some (rf 11 (0)), some (rf 13 (14)), some (rf 13 (15)), some (rf 13 (17)), some (.inl (x5)), some (.inl (x6)), some (.inl (x7)), some (.inl (n2)), some (.inl ((Int32.ofInt 1) + ((x7) - (x7) / (Int32.ofInt 6) * (Int32.ofInt 6)))), none, none, none, none, none] [] σ (w, σ') := h
        obtain ⟨n11, e12⟩ : ∃ s, s = (Int32.ofInt 1) + ((x7) - (x7) / (Int32.ofInt 6) * (Int32.ofInt 6)) := ⟨_, rfl⟩
        rw [← e12] at h
        refine ⟨n11, e12, ?_⟩
        replace h : EV F f 187 z187 347 [some (rf 11 (0)), some (rf 13 (14)), some (rf 13 (15)), some (rf 13 (17)), some (.inl (x5)), some (.inl (x6)), some (.inl (x7)), some (.inl (n2)), some (.inl (n11)), none, none, none, none, none] [] σ (w, σ') := h
        replace h := ei_p h rfl rfl rfl rfl
        obtain ⟨f, g, h⟩ := h
        clear g
        replace h : EV F f 187 z187 349 [some (rf 11 (0)), some (rf 13 (14)), some (rf 13 (15)), some (rf 13 (17)), some (.inl (x5)), some (.inl (x6)), some (.inl (x7)), some (.inl (n2)), some (.inl (n11)), none, none, none, none, none] [.inl (n2)] σ (w, σ') := h
        replace h := ei_p h rfl rfl rfl rfl
        obtain ⟨f, g, h⟩ := h
        clear g
        replace h : EV F f 187 z187 350 [some (rf 11 (0)), some (rf 13 (14)), some (rf 13 (15)), some (rf 13 (17)), some (.inl (x5)), some (.inl (x6)), some (.inl (x7)), some (.inl (n2)), some (.inl (n11)), none, none, none, none, none] [.inl (Int32.ofInt 3), .inl (n2)] σ (w, σ') := h
        replace h := ei_c h rfl rfl rfl
        rcases h with ⟨hp13, f, g, h⟩ | ⟨hp13, f, g, h⟩
        · skip
          replace hp13 : (3 : Int) ≤ (n2).toInt := ic_ge.mp hp13
          refine Or.inl ⟨hp13, ?_⟩
          clear g
          replace h : EV F f 187 z187 362 [some (rf 11 (0)), some (rf 13 (14)), some (rf 13 (15)), some (rf 13 (17)), some (.inl (x5)), some (.inl (x6)), some (.inl (x7)), some (.inl (n2)), some (.inl (n11)), none, none, none, none, none] [] σ (w, σ') := h
          replace h := ei_p h rfl rfl rfl rfl
          obtain ⟨f, g, h⟩ := h
          clear g
          replace h : EV F f 187 z187 363 [some (rf 11 (0)), some (rf 13 (14)), some (rf 13 (15)), some (rf 13 (17)), some (.inl (x5)), some (.inl (x6)), some (.inl (x7)), some (.inl (n2)), some (.inl (n11)), none, none, none, none, none] [.inl (Int32.ofInt 0)] σ (w, σ') := h
          exact j187_363 hs h
        · skip
          replace hp13 : ¬ ((3 : Int) ≤ (n2).toInt) := (not_congr ic_ge).mp hp13
          refine Or.inr ⟨hp13, ?_⟩
          clear g
          replace h : EV F f 187 z187 353 [some (rf 11 (0)), some (rf 13 (14)), some (rf 13 (15)), some (rf 13 (17)), some (.inl (x5)), some (.inl (x6)), some (.inl (x7)), some (.inl (n2)), some (.inl (n11)), none, none, none, none, none] [] σ (w, σ') := h
          replace h := ei_p h rfl rfl rfl rfl
          obtain ⟨f, g, h⟩ := h
          clear g
          replace h : EV F f 187 z187 354 [some (rf 11 (0)), some (rf 13 (14)), some (rf 13 (15)), some (rf 13 (17)), some (.inl (x5)), some (.inl (x6)), some (.inl (x7)), some (.inl (n2)), some (.inl (n11)), none, none, none, none, none] [rf 13 (17)] σ (w, σ') := h
          replace h := ei_p h rfl rfl rfl rfl
          obtain ⟨f, g, h⟩ := h
          clear g
          replace h : EV F f 187 z187 355 [some (rf 11 (0)), some (rf 13 (14)), some (rf 13 (15)), some (rf 13 (17)), some (.inl (x5)), some (.inl (x6)), some (.inl (x7)), some (.inl (n2)), some (.inl (n11)), none, none, none, none, none] [.inl (Int32.ofInt 5), rf 13 (17)] σ (w, σ') := h
          replace h := ei_p h rfl rfl rfl rfl
          obtain ⟨f, g, h⟩ := h
          clear g
          replace h : EV F f 187 z187 357 [some (rf 11 (0)), some (rf 13 (14)), some (rf 13 (15)), some (rf 13 (17)), some (.inl (x5)), some (.inl (x6)), some (.inl (x7)), some (.inl (n2)), some (.inl (n11)), none, none, none, none, none] [.inl (n2), .inl (Int32.ofInt 5), rf 13 (17)] σ (w, σ') := h
          replace h := ei_p h rfl rfl rfl rfl
          obtain ⟨f, g, h⟩ := h
          clear g
          replace h : EV F f 187 z187 358 [some (rf 11 (0)), some (rf 13 (14)), some (rf 13 (15)), some (rf 13 (17)), some (.inl (x5)), some (.inl (x6)), some (.inl (x7)), some (.inl (n2)), some (.inl (n11)), none, none, none, none, none] [.inl ((Int32.ofInt 5) + (n2)), rf 13 (17)] σ (w, σ') := h
          replace h := ei_iald h rfl (fun _ => rfl)
          obtain ⟨vp14, f, g, h⟩ := h
          clear g
          replace h : EV F f 187 z187 359 [some (rf 11 (0)), some (rf 13 (14)), some (rf 13 (15)), some (rf 13 (17)), some (.inl (x5)), some (.inl (x6)), some (.inl (x7)), some (.inl (n2)), some (.inl (n11)), none, none, none, none, none] [.inl (m_i σ 13 (17) ((Int32.ofInt 5) + (n2)).toNatClampNeg)] σ (w, σ') := h
          refine ⟨vp_2 vp14, ?_⟩
          replace h := ei_p h rfl rfl rfl rfl
          obtain ⟨f, g, h⟩ := h
          clear g
          replace h : EV F f 187 z187 363 [some (rf 11 (0)), some (rf 13 (14)), some (rf 13 (15)), some (rf 13 (17)), some (.inl (x5)), some (.inl (x6)), some (.inl (x7)), some (.inl (n2)), some (.inl (n11)), none, none, none, none, none] [.inl (m_i σ 13 (17) ((Int32.ofInt 5) + (n2)).toNatClampNeg)] σ (w, σ') := h
          exact j187_363 hs h
    · skip
      replace hp5 : ¬ ((x5).toInt ≠ (2 : Int)) := (not_congr ic_ne).mp hp5
      refine Or.inr ⟨hp5, ?_⟩
      clear g
      replace h : EV F f 187 z187 239 [some (rf 11 (0)), some (rf 13 (14)), some (rf 13 (15)), some (rf 13 (17)), some (.inl (x5)), some (.inl (x6)), some (.inl (x7)), some (.inl (n2)), none, none, none, none, none, none] [] σ (w, σ') := h
      replace h := ei_p h rfl rfl rfl rfl
      obtain ⟨f, g, h⟩ := h
      clear g
      replace h : EV F f 187 z187 241 [some (rf 11 (0)), some (rf 13 (14)), some (rf 13 (15)), some (rf 13 (17)), some (.inl (x5)), some (.inl (x6)), some (.inl (x7)), some (.inl (n2)), none, none, none, none, none, none] [.inl (x7)] σ (w, σ') := h
      replace h := ei_p h rfl rfl rfl rfl
      obtain ⟨f, g, h⟩ := h
      clear g
      replace h : EV F f 187 z187 243 [some (rf 11 (0)), some (rf 13 (14)), some (rf 13 (15)), some (rf 13 (17)), some (.inl (x5)), some (.inl (x6)), some (.inl (x7)), some (.inl (n2)), none, none, none, none, none, none] [.inl (Int32.ofInt 52), .inl (x7)] σ (w, σ') := h
      replace h := ei_irem h rfl
      obtain ⟨hd15, f, g, h⟩ := h
      clear g
      replace h : EV F f 187 z187 244 [some (rf 11 (0)), some (rf 13 (14)), some (rf 13 (15)), some (rf 13 (17)), some (.inl (x5)), some (.inl (x6)), some (.inl (x7)), some (.inl (n2)), none, none, none, none, none, none] [.inl ((x7) - (x7) / (Int32.ofInt 52) * (Int32.ofInt 52))] σ (w, σ') := h
      replace h := ei_p h rfl rfl rfl rfl
      obtain ⟨f, g, h⟩ := h
      clear g
      replace h : EV F f 187 z187 246 [some (rf 11 (0)), some (rf 13 (14)), some (rf 13 (15)), some (rf 13 (17)), some (.inl (x5)), some (.inl (x6)), some (.inl (x7)), some (.inl (n2)), some (.inl ((x7) - (x7) / (Int32.ofInt 52) * (Int32.ofInt 52))), none, none, none, none, none] [] σ (w, σ') := h
      obtain ⟨n16, e17⟩ : ∃ s, s = (x7) - (x7) / (Int32.ofInt 52) * (Int32.ofInt 52) := ⟨_, rfl⟩
      rw [← e17] at h
      refine ⟨n16, e17, ?_⟩
      replace h : EV F f 187 z187 246 [some (rf 11 (0)), some (rf 13 (14)), some (rf 13 (15)), some (rf 13 (17)), some (.inl (x5)), some (.inl (x6)), some (.inl (x7)), some (.inl (n2)), some (.inl (n16)), none, none, none, none, none] [] σ (w, σ') := h
      replace h := ei_p h rfl rfl rfl rfl
      obtain ⟨f, g, h⟩ := h
      clear g
      replace h : EV F f 187 z187 247 [some (rf 11 (0)), some (rf 13 (14)), some (rf 13 (15)), some (rf 13 (17)), some (.inl (x5)), some (.inl (x6)), some (.inl (x7)), some (.inl (n2)), some (.inl (n16)), none, none, none, none, none] [rf 11 (0)] σ (w, σ') := h
      replace h := ei_p h rfl rfl rfl rfl
      obtain ⟨f, g, h⟩ := h
      clear g
      replace h : EV F f 187 z187 249 [some (rf 11 (0)), some (rf 13 (14)), some (rf 13 (15)), some (rf 13 (17)), some (.inl (x5)), some (.inl (x6)), some (.inl (x7)), some (.inl (n2)), some (.inl (n16)), none, none, none, none, none] [.inl (Int32.ofInt 6), rf 11 (0)] σ (w, σ') := h
      replace h := ei_p h rfl rfl rfl rfl
      obtain ⟨f, g, h⟩ := h
      clear g
      replace h : EV F f 187 z187 251 [some (rf 11 (0)), some (rf 13 (14)), some (rf 13 (15)), some (rf 13 (17)), some (.inl (x5)), some (.inl (x6)), some (.inl (x7)), some (.inl (n2)), some (.inl (n16)), none, none, none, none, none] [.inl (n2), .inl (Int32.ofInt 6), rf 11 (0)] σ (w, σ') := h
      replace h := ei_p h rfl rfl rfl rfl
      obtain ⟨f, g, h⟩ := h
      clear g
      replace h : EV F f 187 z187 253 [some (rf 11 (0)), some (rf 13 (14)), some (rf 13 (15)), some (rf 13 (17)), some (.inl (x5)), some (.inl (x6)), some (.inl (x7)), some (.inl (n2)), some (.inl (n16)), none, none, none, none, none] [.inl (n16), .inl (n2), .inl (Int32.ofInt 6), rf 11 (0)] σ (w, σ') := h
      replace h := ei_p h rfl rfl rfl rfl
      obtain ⟨f, g, h⟩ := h
      clear g
      replace h : EV F f 187 z187 254 [some (rf 11 (0)), some (rf 13 (14)), some (rf 13 (15)), some (rf 13 (17)), some (.inl (x5)), some (.inl (x6)), some (.inl (x7)), some (.inl (n2)), some (.inl (n16)), none, none, none, none, none] [.inl (Int32.ofInt 0), .inl (n16), .inl (n2), .inl (Int32.ofInt 6), rf 11 (0)] σ (w, σ') := h
      replace h := ei_p h rfl rfl rfl rfl
      obtain ⟨f, g, h⟩ := h
      clear g
      replace h : EV F f 187 z187 255 [some (rf 11 (0)), some (rf 13 (14)), some (rf 13 (15)), some (rf 13 (17)), some (.inl (x5)), some (.inl (x6)), some (.inl (x7)), some (.inl (n2)), some (.inl (n16)), none, none, none, none, none] [.inl (Int32.ofInt 0), .inl (Int32.ofInt 0), .inl (n16), .inl (n2), .inl (Int32.ofInt 6), rf 11 (0)] σ (w, σ') := h
      replace h := ei_p h rfl rfl rfl rfl
      obtain ⟨f, g, h⟩ := h
      clear g
      replace h : EV F f 187 z187 256 [some (rf 11 (0)), some (rf 13 (14)), some (rf 13 (15)), some (rf 13 (17)), some (.inl (x5)), some (.inl (x6)), some (.inl (x7)), some (.inl (n2)), some (.inl (n16)), none, none, none, none, none] [.inl (Int32.ofInt 0), .inl (Int32.ofInt 0), .inl (Int32.ofInt 0), .inl (n16), .inl (n2), .inl (Int32.ofInt 6), rf 11 (0)] σ (w, σ') := h
      replace h := ei_p h rfl rfl rfl rfl
      obtain ⟨f, g, h⟩ := h
      clear g
      replace h : EV F f 187 z187 257 [some (rf 11 (0)), some (rf 13 (14)), some (rf 13 (15)), some (rf 13 (17)), some (.inl (x5)), some (.inl (x6)), some (.inl (x7)), some (.inl (n2)), some (.inl (n16)), none, none, none, none, none] [.inl (Int32.ofInt 0), .inl (Int32.ofInt 0), .inl (Int32.ofInt 0), .inl (Int32.ofInt 0), .inl (n16), .inl (n2), .inl (Int32.ofInt 6), rf 11 (0)] σ (w, σ') := h
      replace h := ei_p h rfl rfl rfl rfl
      obtain ⟨f, g, h⟩ := h
      clear g
      replace h : EV F f 187 z187 258 [some (rf 11 (0)), some (rf 13 (14)), some (rf 13 (15)), some (rf 13 (17)), some (.inl (x5)), some (.inl (x6)), some (.inl (x7)), some (.inl (n2)), some (.inl (n16)), none, none, none, none, none] [.inl (Int32.ofInt 0), .inl (Int32.ofInt 0), .inl (Int32.ofInt 0), .inl (Int32.ofInt 0), .inl (Int32.ofInt 0), .inl (n16), .inl (n2), .inl (Int32.ofInt 6), rf 11 (0)] σ (w, σ') := h
      replace h := bx_L (ei_s (as := [.inl (Int32.ofInt 0), .inl (Int32.ofInt 0), .inl (Int32.ofInt 0), .inl (Int32.ofInt 0), .inl (Int32.ofInt 0), .inl (n16), .inl (n2), .inl (Int32.ofInt 6), rf 11 (0)]) h rfl (Nat.le_of_ble_eq_true rfl) rfl rfl) z172_at rfl
      rcases h with ⟨v18, σ19, r20, f, g, h⟩ | ⟨b, σ19, r20, e⟩
      rotate_left
      · exact (nt172 (x172 hs r20)).elim
      clear g
      have p21 := x172 hs r20
      have hsσ19 : HL σ19 := hl172 p21
      refine ⟨v18, σ19, gF_r r20 rfl hs, hsσ19, p21, ?_⟩
      replace h : EV F f 187 z187 261 [some (rf 11 (0)), some (rf 13 (14)), some (rf 13 (15)), some (rf 13 (17)), some (.inl (x5)), some (.inl (x6)), some (.inl (x7)), some (.inl (n2)), some (.inl (n16)), none, none, none, none, none] [.inr (.inl (v18))] σ19 (w, σ') := h
      replace h := ei_p h rfl rfl rfl rfl
      obtain ⟨f, g, h⟩ := h
      clear g
      replace h : EV F f 187 z187 263 [some (rf 11 (0)), some (rf 13 (14)), some (rf 13 (15)), some (rf 13 (17)), some (.inl (x5)), some (.inl (x6)), some (.inl (x7)), some (.inl (n2)), some (.inl (n16)), some (.inr (.inl (v18))), none, none, none, none] [] σ19 (w, σ') := h
      replace h := ei_p h rfl rfl rfl rfl
      obtain ⟨f, g, h⟩ := h
      clear g
      replace h : EV F f 187 z187 265 [some (rf 11 (0)), some (rf 13 (14)), some (rf 13 (15)), some (rf 13 (17)), some (.inl (x5)), some (.inl (x6)), some (.inl (x7)), some (.inl (n2)), some (.inl (n16)), some (.inr (.inl (v18))), none, none, none, none] [.inl (n2)] σ19 (w, σ') := h
      replace h := ei_p h rfl rfl rfl rfl
      obtain ⟨f, g, h⟩ := h
      clear g
      replace h : EV F f 187 z187 266 [some (rf 11 (0)), some (rf 13 (14)), some (rf 13 (15)), some (rf 13 (17)), some (.inl (x5)), some (.inl (x6)), some (.inl (x7)), some (.inl (n2)), some (.inl (n16)), some (.inr (.inl (v18))), none, none, none, none] [.inl (Int32.ofInt 3), .inl (n2)] σ19 (w, σ') := h
      replace h := ei_c h rfl rfl rfl
      rcases h with ⟨hp22, f, g, h⟩ | ⟨hp22, f, g, h⟩
      · skip
        replace hp22 : (n2).toInt ≠ (3 : Int) := ic_ne.mp hp22
        refine Or.inl ⟨hp22, ?_⟩
        clear g
        replace h : EV F f 187 z187 286 [some (rf 11 (0)), some (rf 13 (14)), some (rf 13 (15)), some (rf 13 (17)), some (.inl (x5)), some (.inl (x6)), some (.inl (x7)), some (.inl (n2)), some (.inl (n16)), some (.inr (.inl (v18))), none, none, none, none] [] σ19 (w, σ') := h
        replace h := ei_p h rfl rfl rfl rfl
        obtain ⟨f, g, h⟩ := h
        clear g
        replace h : EV F f 187 z187 288 [some (rf 11 (0)), some (rf 13 (14)), some (rf 13 (15)), some (rf 13 (17)), some (.inl (x5)), some (.inl (x6)), some (.inl (x7)), some (.inl (n2)), some (.inl (n16)), some (.inr (.inl (v18))), none, none, none, none] [.inl (n16)] σ19 (w, σ') := h
        replace h := ei_p h rfl rfl rfl rfl
        obtain ⟨f, g, h⟩ := h
        clear g
        replace h : EV F f 187 z187 290 [some (rf 11 (0)), some (rf 13 (14)), some (rf 13 (15)), some (rf 13 (17)), some (.inl (x5)), some (.inl (x6)), some (.inl (x7)), some (.inl (n2)), some (.inl (n16)), some (.inr (.inl (v18))), none, none, none, none] [.inl (Int32.ofInt 50), .inl (n16)] σ19 (w, σ') := h
        replace h := ei_c h rfl rfl rfl
        rcases h with ⟨hp23, f, g, h⟩ | ⟨hp23, f, g, h⟩
        · skip
          replace hp23 : (n16).toInt ≤ (50 : Int) := ic_le.mp hp23
          refine Or.inl ⟨hp23, ?_⟩
          clear g
          replace h : EV F f 187 z187 310 [some (rf 11 (0)), some (rf 13 (14)), some (rf 13 (15)), some (rf 13 (17)), some (.inl (x5)), some (.inl (x6)), some (.inl (x7)), some (.inl (n2)), some (.inl (n16)), some (.inr (.inl (v18))), none, none, none, none] [] σ19 (w, σ') := h
          replace h := ei_p h rfl rfl rfl rfl
          obtain ⟨f, g, h⟩ := h
          clear g
          replace h : EV F f 187 z187 312 [some (rf 11 (0)), some (rf 13 (14)), some (rf 13 (15)), some (rf 13 (17)), some (.inl (x5)), some (.inl (x6)), some (.inl (x7)), some (.inl (n2)), some (.inl (n16)), some (.inr (.inl (v18))), none, none, none, none] [.inr (.inl (v18))] σ19 (w, σ') := h
          replace h := ei_p h rfl rfl rfl rfl
          obtain ⟨f, g, h⟩ := h
          clear g
          replace h : EV F f 187 z187 313 [some (rf 11 (0)), some (rf 13 (14)), some (rf 13 (15)), some (rf 13 (17)), some (.inl (x5)), some (.inl (x6)), some (.inl (x7)), some (.inl (n2)), some (.inl (n16)), some (.inr (.inl (v18))), none, none, none, none] [.inr (.inl (Int64.ofNat 0)), .inr (.inl (v18))] σ19 (w, σ') := h
          replace h := ei_p h rfl rfl rfl rfl
          obtain ⟨f, g, h⟩ := h
          clear g
          replace h : EV F f 187 z187 314 [some (rf 11 (0)), some (rf 13 (14)), some (rf 13 (15)), some (rf 13 (17)), some (.inl (x5)), some (.inl (x6)), some (.inl (x7)), some (.inl (n2)), some (.inl (n16)), some (.inr (.inl (v18))), none, none, none, none] [.inl (lg_cmp (v18) (Int64.ofNat 0))] σ19 (w, σ') := h
          replace h := ei_c h rfl rfl rfl
          rcases h with ⟨hp24, f, g, h⟩ | ⟨hp24, f, g, h⟩
          · skip
            replace hp24 : (v18).toInt < (Int64.ofNat 0).toInt := (ab_lc .lt _ _).mp hp24
            refine Or.inl ⟨hp24, ?_⟩
            clear g
            replace h : EV F f 187 z187 330 [some (rf 11 (0)), some (rf 13 (14)), some (rf 13 (15)), some (rf 13 (17)), some (.inl (x5)), some (.inl (x6)), some (.inl (x7)), some (.inl (n2)), some (.inl (n16)), some (.inr (.inl (v18))), none, none, none, none] [] σ19 (w, σ') := h
            exact j187_330 hsσ19 h
          · skip
            replace hp24 : ¬ ((v18).toInt < (Int64.ofNat 0).toInt) := (not_congr (ab_lc .lt _ _)).mp hp24
            refine Or.inr ⟨hp24, ?_⟩
            clear g
            replace h : EV F f 187 z187 317 [some (rf 11 (0)), some (rf 13 (14)), some (rf 13 (15)), some (rf 13 (17)), some (.inl (x5)), some (.inl (x6)), some (.inl (x7)), some (.inl (n2)), some (.inl (n16)), some (.inr (.inl (v18))), none, none, none, none] [] σ19 (w, σ') := h
            replace h := ei_p h rfl rfl rfl rfl
            obtain ⟨f, g, h⟩ := h
            clear g
            replace h : EV F f 187 z187 319 [some (rf 11 (0)), some (rf 13 (14)), some (rf 13 (15)), some (rf 13 (17)), some (.inl (x5)), some (.inl (x6)), some (.inl (x7)), some (.inl (n2)), some (.inl (n16)), some (.inr (.inl (v18))), none, none, none, none] [.inr (.inl (v18))] σ19 (w, σ') := h
            replace h := ei_p h rfl rfl rfl rfl
            obtain ⟨f, g, h⟩ := h
            clear g
            replace h : EV F f 187 z187 322 [some (rf 11 (0)), some (rf 13 (14)), some (rf 13 (15)), some (rf 13 (17)), some (.inl (x5)), some (.inl (x6)), some (.inl (x7)), some (.inl (n2)), some (.inl (n16)), some (.inr (.inl (v18))), none, none, none, none] [.inr (.inl (Int64.ofInt 51)), .inr (.inl (v18))] σ19 (w, σ') := h
            replace h := ei_p h rfl rfl rfl rfl
            obtain ⟨f, g, h⟩ := h
            clear g
            replace h : EV F f 187 z187 323 [some (rf 11 (0)), some (rf 13 (14)), some (rf 13 (15)), some (rf 13 (17)), some (.inl (x5)), some (.inl (x6)), some (.inl (x7)), some (.inl (n2)), some (.inl (n16)), some (.inr (.inl (v18))), none, none, none, none] [.inl (lg_cmp (v18) (Int64.ofInt 51))] σ19 (w, σ') := h
            replace h := ei_c h rfl rfl rfl
            rcases h with ⟨hp25, f, g, h⟩ | ⟨hp25, f, g, h⟩
            · skip
              replace hp25 : (Int64.ofInt 51).toInt ≤ (v18).toInt := (ab_lc .ge _ _).mp hp25
              refine Or.inl ⟨hp25, ?_⟩
              clear g
              replace h : EV F f 187 z187 330 [some (rf 11 (0)), some (rf 13 (14)), some (rf 13 (15)), some (rf 13 (17)), some (.inl (x5)), some (.inl (x6)), some (.inl (x7)), some (.inl (n2)), some (.inl (n16)), some (.inr (.inl (v18))), none, none, none, none] [] σ19 (w, σ') := h
              exact j187_330 hsσ19 h
            · skip
              replace hp25 : ¬ ((Int64.ofInt 51).toInt ≤ (v18).toInt) := (not_congr (ab_lc .ge _ _)).mp hp25
              refine Or.inr ⟨hp25, ?_⟩
              clear g
              replace h : EV F f 187 z187 326 [some (rf 11 (0)), some (rf 13 (14)), some (rf 13 (15)), some (rf 13 (17)), some (.inl (x5)), some (.inl (x6)), some (.inl (x7)), some (.inl (n2)), some (.inl (n16)), some (.inr (.inl (v18))), none, none, none, none] [] σ19 (w, σ') := h
              replace h := ei_p h rfl rfl rfl rfl
              obtain ⟨f, g, h⟩ := h
              clear g
              replace h : EV F f 187 z187 327 [some (rf 11 (0)), some (rf 13 (14)), some (rf 13 (15)), some (rf 13 (17)), some (.inl (x5)), some (.inl (x6)), some (.inl (x7)), some (.inl (n2)), some (.inl (n16)), some (.inr (.inl (v18))), none, none, none, none] [.inl (Int32.ofInt 1)] σ19 (w, σ') := h
              replace h := ei_p h rfl rfl rfl rfl
              obtain ⟨f, g, h⟩ := h
              clear g
              replace h : EV F f 187 z187 331 [some (rf 11 (0)), some (rf 13 (14)), some (rf 13 (15)), some (rf 13 (17)), some (.inl (x5)), some (.inl (x6)), some (.inl (x7)), some (.inl (n2)), some (.inl (n16)), some (.inr (.inl (v18))), none, none, none, none] [.inl (Int32.ofInt 1)] σ19 (w, σ') := h
              have e := ei_iret h rfl
              cases e
              exact ⟨rfl, rfl⟩
        · skip
          replace hp23 : ¬ ((n16).toInt ≤ (50 : Int)) := (not_congr ic_le).mp hp23
          refine Or.inr ⟨hp23, ?_⟩
          clear g
          replace h : EV F f 187 z187 293 [some (rf 11 (0)), some (rf 13 (14)), some (rf 13 (15)), some (rf 13 (17)), some (.inl (x5)), some (.inl (x6)), some (.inl (x7)), some (.inl (n2)), some (.inl (n16)), some (.inr (.inl (v18))), none, none, none, none] [] σ19 (w, σ') := h
          replace h := ei_p h rfl rfl rfl rfl
          obtain ⟨f, g, h⟩ := h
          clear g
          replace h : EV F f 187 z187 295 [some (rf 11 (0)), some (rf 13 (14)), some (rf 13 (15)), some (rf 13 (17)), some (.inl (x5)), some (.inl (x6)), some (.inl (x7)), some (.inl (n2)), some (.inl (n16)), some (.inr (.inl (v18))), none, none, none, none] [.inr (.inl (v18))] σ19 (w, σ') := h
          replace h := ei_p h rfl rfl rfl rfl
          obtain ⟨f, g, h⟩ := h
          clear g
          replace h : EV F f 187 z187 298 [some (rf 11 (0)), some (rf 13 (14)), some (rf 13 (15)), some (rf 13 (17)), some (.inl (x5)), some (.inl (x6)), some (.inl (x7)), some (.inl (n2)), some (.inl (n16)), some (.inr (.inl (v18))), none, none, none, none] [.inr (.inl (Int64.ofInt (-2000000000))), .inr (.inl (v18))] σ19 (w, σ') := h
          replace h := ei_p h rfl rfl rfl rfl
          obtain ⟨f, g, h⟩ := h
          clear g
          replace h : EV F f 187 z187 299 [some (rf 11 (0)), some (rf 13 (14)), some (rf 13 (15)), some (rf 13 (17)), some (.inl (x5)), some (.inl (x6)), some (.inl (x7)), some (.inl (n2)), some (.inl (n16)), some (.inr (.inl (v18))), none, none, none, none] [.inl (lg_cmp (v18) (Int64.ofInt (-2000000000)))] σ19 (w, σ') := h
          replace h := ei_c h rfl rfl rfl
          rcases h with ⟨hp26, f, g, h⟩ | ⟨hp26, f, g, h⟩
          · skip
            replace hp26 : (v18).toInt ≠ (Int64.ofInt (-2000000000)).toInt := (ab_lc .ne _ _).mp hp26
            refine Or.inl ⟨hp26, ?_⟩
            clear g
            replace h : EV F f 187 z187 306 [some (rf 11 (0)), some (rf 13 (14)), some (rf 13 (15)), some (rf 13 (17)), some (.inl (x5)), some (.inl (x6)), some (.inl (x7)), some (.inl (n2)), some (.inl (n16)), some (.inr (.inl (v18))), none, none, none, none] [] σ19 (w, σ') := h
            replace h := ei_p h rfl rfl rfl rfl
            obtain ⟨f, g, h⟩ := h
            clear g
            replace h : EV F f 187 z187 307 [some (rf 11 (0)), some (rf 13 (14)), some (rf 13 (15)), some (rf 13 (17)), some (.inl (x5)), some (.inl (x6)), some (.inl (x7)), some (.inl (n2)), some (.inl (n16)), some (.inr (.inl (v18))), none, none, none, none] [.inl (Int32.ofInt 0)] σ19 (w, σ') := h
            replace h := ei_p h rfl rfl rfl rfl
            obtain ⟨f, g, h⟩ := h
            clear g
            replace h : EV F f 187 z187 331 [some (rf 11 (0)), some (rf 13 (14)), some (rf 13 (15)), some (rf 13 (17)), some (.inl (x5)), some (.inl (x6)), some (.inl (x7)), some (.inl (n2)), some (.inl (n16)), some (.inr (.inl (v18))), none, none, none, none] [.inl (Int32.ofInt 0)] σ19 (w, σ') := h
            have e := ei_iret h rfl
            cases e
            exact ⟨rfl, rfl⟩
          · skip
            replace hp26 : ¬ ((v18).toInt ≠ (Int64.ofInt (-2000000000)).toInt) := (not_congr (ab_lc .ne _ _)).mp hp26
            refine Or.inr ⟨hp26, ?_⟩
            clear g
            replace h : EV F f 187 z187 302 [some (rf 11 (0)), some (rf 13 (14)), some (rf 13 (15)), some (rf 13 (17)), some (.inl (x5)), some (.inl (x6)), some (.inl (x7)), some (.inl (n2)), some (.inl (n16)), some (.inr (.inl (v18))), none, none, none, none] [] σ19 (w, σ') := h
            replace h := ei_p h rfl rfl rfl rfl
            obtain ⟨f, g, h⟩ := h
            clear g
            replace h : EV F f 187 z187 303 [some (rf 11 (0)), some (rf 13 (14)), some (rf 13 (15)), some (rf 13 (17)), some (.inl (x5)), some (.inl (x6)), some (.inl (x7)), some (.inl (n2)), some (.inl (n16)), some (.inr (.inl (v18))), none, none, none, none] [.inl (Int32.ofInt 1)] σ19 (w, σ') := h
            replace h := ei_p h rfl rfl rfl rfl
            obtain ⟨f, g, h⟩ := h
            clear g
            replace h : EV F f 187 z187 331 [some (rf 11 (0)), some (rf 13 (14)), some (rf 13 (15)), some (rf 13 (17)), some (.inl (x5)), some (.inl (x6)), some (.inl (x7)), some (.inl (n2)), some (.inl (n16)), some (.inr (.inl (v18))), none, none, none, none] [.inl (Int32.ofInt 1)] σ19 (w, σ') := h
            have e := ei_iret h rfl
            cases e
            exact ⟨rfl, rfl⟩
      · skip
        replace hp22 : ¬ ((n2).toInt ≠ (3 : Int)) := (not_congr ic_ne).mp hp22
        refine Or.inr ⟨hp22, ?_⟩
        clear g
        replace h : EV F f 187 z187 269 [some (rf 11 (0)), some (rf 13 (14)), some (rf 13 (15)), some (rf 13 (17)), some (.inl (x5)), some (.inl (x6)), some (.inl (x7)), some (.inl (n2)), some (.inl (n16)), some (.inr (.inl (v18))), none, none, none, none] [] σ19 (w, σ') := h
        replace h := ei_p h rfl rfl rfl rfl
        obtain ⟨f, g, h⟩ := h
        clear g
        replace h : EV F f 187 z187 271 [some (rf 11 (0)), some (rf 13 (14)), some (rf 13 (15)), some (rf 13 (17)), some (.inl (x5)), some (.inl (x6)), some (.inl (x7)), some (.inl (n2)), some (.inl (n16)), some (.inr (.inl (v18))), none, none, none, none] [.inr (.inl (v18))] σ19 (w, σ') := h
        replace h := ei_p h rfl rfl rfl rfl
        obtain ⟨f, g, h⟩ := h
        clear g
        replace h : EV F f 187 z187 274 [some (rf 11 (0)), some (rf 13 (14)), some (rf 13 (15)), some (rf 13 (17)), some (.inl (x5)), some (.inl (x6)), some (.inl (x7)), some (.inl (n2)), some (.inl (n16)), some (.inr (.inl (v18))), none, none, none, none] [.inr (.inl (Int64.ofInt (-3000000000))), .inr (.inl (v18))] σ19 (w, σ') := h
        replace h := ei_p h rfl rfl rfl rfl
        obtain ⟨f, g, h⟩ := h
        clear g
        replace h : EV F f 187 z187 275 [some (rf 11 (0)), some (rf 13 (14)), some (rf 13 (15)), some (rf 13 (17)), some (.inl (x5)), some (.inl (x6)), some (.inl (x7)), some (.inl (n2)), some (.inl (n16)), some (.inr (.inl (v18))), none, none, none, none] [.inl (lg_cmp (v18) (Int64.ofInt (-3000000000)))] σ19 (w, σ') := h
        replace h := ei_c h rfl rfl rfl
        rcases h with ⟨hp27, f, g, h⟩ | ⟨hp27, f, g, h⟩
        · skip
          replace hp27 : (v18).toInt ≠ (Int64.ofInt (-3000000000)).toInt := (ab_lc .ne _ _).mp hp27
          refine Or.inl ⟨hp27, ?_⟩
          clear g
          replace h : EV F f 187 z187 282 [some (rf 11 (0)), some (rf 13 (14)), some (rf 13 (15)), some (rf 13 (17)), some (.inl (x5)), some (.inl (x6)), some (.inl (x7)), some (.inl (n2)), some (.inl (n16)), some (.inr (.inl (v18))), none, none, none, none] [] σ19 (w, σ') := h
          replace h := ei_p h rfl rfl rfl rfl
          obtain ⟨f, g, h⟩ := h
          clear g
          replace h : EV F f 187 z187 283 [some (rf 11 (0)), some (rf 13 (14)), some (rf 13 (15)), some (rf 13 (17)), some (.inl (x5)), some (.inl (x6)), some (.inl (x7)), some (.inl (n2)), some (.inl (n16)), some (.inr (.inl (v18))), none, none, none, none] [.inl (Int32.ofInt 0)] σ19 (w, σ') := h
          replace h := ei_p h rfl rfl rfl rfl
          obtain ⟨f, g, h⟩ := h
          clear g
          replace h : EV F f 187 z187 331 [some (rf 11 (0)), some (rf 13 (14)), some (rf 13 (15)), some (rf 13 (17)), some (.inl (x5)), some (.inl (x6)), some (.inl (x7)), some (.inl (n2)), some (.inl (n16)), some (.inr (.inl (v18))), none, none, none, none] [.inl (Int32.ofInt 0)] σ19 (w, σ') := h
          have e := ei_iret h rfl
          cases e
          exact ⟨rfl, rfl⟩
        · skip
          replace hp27 : ¬ ((v18).toInt ≠ (Int64.ofInt (-3000000000)).toInt) := (not_congr (ab_lc .ne _ _)).mp hp27
          refine Or.inr ⟨hp27, ?_⟩
          clear g
          replace h : EV F f 187 z187 278 [some (rf 11 (0)), some (rf 13 (14)), some (rf 13 (15)), some (rf 13 (17)), some (.inl (x5)), some (.inl (x6)), some (.inl (x7)), some (.inl (n2)), some (.inl (n16)), some (.inr (.inl (v18))), none, none, none, none] [] σ19 (w, σ') := h
          replace h := ei_p h rfl rfl rfl rfl
          obtain ⟨f, g, h⟩ := h
          clear g
          replace h : EV F f 187 z187 279 [some (rf 11 (0)), some (rf 13 (14)), some (rf 13 (15)), some (rf 13 (17)), some (.inl (x5)), some (.inl (x6)), some (.inl (x7)), some (.inl (n2)), some (.inl (n16)), some (.inr (.inl (v18))), none, none, none, none] [.inl (Int32.ofInt 1)] σ19 (w, σ') := h
          replace h := ei_p h rfl rfl rfl rfl
          obtain ⟨f, g, h⟩ := h
          clear g
          replace h : EV F f 187 z187 331 [some (rf 11 (0)), some (rf 13 (14)), some (rf 13 (15)), some (rf 13 (17)), some (.inl (x5)), some (.inl (x6)), some (.inl (x7)), some (.inl (n2)), some (.inl (n16)), some (.inr (.inl (v18))), none, none, none, none] [.inl (Int32.ofInt 1)] σ19 (w, σ') := h
          have e := ei_iret h rfl
          cases e
          exact ⟨rfl, rfl⟩
  · skip
    replace hp4 : ¬ ((2 : Int) ≤ (x5).toInt) := (not_congr ic_ge).mp hp4
    refine Or.inr ⟨hp4, ?_⟩
    clear g
    replace h : EV F f 187 z187 12 [some (rf 11 (0)), some (rf 13 (14)), some (rf 13 (15)), some (rf 13 (17)), some (.inl (x5)), some (.inl (x6)), some (.inl (x7)), some (.inl (n2)), none, none, none, none, none, none] [] σ (w, σ') := h
    replace h := ei_p h rfl rfl rfl rfl
    obtain ⟨f, g, h⟩ := h
    clear g
    replace h : EV F f 187 z187 14 [some (rf 11 (0)), some (rf 13 (14)), some (rf 13 (15)), some (rf 13 (17)), some (.inl (x5)), some (.inl (x6)), some (.inl (x7)), some (.inl (n2)), none, none, none, none, none, none] [.inl (n2)] σ (w, σ') := h
    replace h := ei_p h rfl rfl rfl rfl
    obtain ⟨f, g, h⟩ := h
    clear g
    replace h : EV F f 187 z187 15 [some (rf 11 (0)), some (rf 13 (14)), some (rf 13 (15)), some (rf 13 (17)), some (.inl (x5)), some (.inl (x6)), some (.inl (x7)), some (.inl (n2)), none, none, none, none, none, none] [.inl (Int32.ofInt 3), .inl (n2)] σ (w, σ') := h
    replace h := ei_c h rfl rfl rfl
    rcases h with ⟨hp28, f, g, h⟩ | ⟨hp28, f, g, h⟩
    · skip
      replace hp28 : (3 : Int) ≤ (n2).toInt := ic_ge.mp hp28
      refine Or.inl ⟨hp28, ?_⟩
      clear g
      replace h : EV F f 187 z187 35 [some (rf 11 (0)), some (rf 13 (14)), some (rf 13 (15)), some (rf 13 (17)), some (.inl (x5)), some (.inl (x6)), some (.inl (x7)), some (.inl (n2)), none, none, none, none, none, none] [] σ (w, σ') := h
      exact j187_35 hs h
    · skip
      replace hp28 : ¬ ((3 : Int) ≤ (n2).toInt) := (not_congr ic_ge).mp hp28
      refine Or.inr ⟨hp28, ?_⟩
      clear g
      replace h : EV F f 187 z187 18 [some (rf 11 (0)), some (rf 13 (14)), some (rf 13 (15)), some (rf 13 (17)), some (.inl (x5)), some (.inl (x6)), some (.inl (x7)), some (.inl (n2)), none, none, none, none, none, none] [] σ (w, σ') := h
      replace h := ei_p h rfl rfl rfl rfl
      obtain ⟨f, g, h⟩ := h
      clear g
      replace h : EV F f 187 z187 19 [some (rf 11 (0)), some (rf 13 (14)), some (rf 13 (15)), some (rf 13 (17)), some (.inl (x5)), some (.inl (x6)), some (.inl (x7)), some (.inl (n2)), none, none, none, none, none, none] [rf 11 (0)] σ (w, σ') := h
      replace h := ei_p h rfl rfl rfl rfl
      obtain ⟨f, g, h⟩ := h
      clear g
      replace h : EV F f 187 z187 21 [some (rf 11 (0)), some (rf 13 (14)), some (rf 13 (15)), some (rf 13 (17)), some (.inl (x5)), some (.inl (x6)), some (.inl (x7)), some (.inl (n2)), none, none, none, none, none, none] [.inl (n2), rf 11 (0)] σ (w, σ') := h
      replace h := bx_I (ei_v (as := [.inl (n2)]) h rfl rfl rfl) z140_at (Or.inl rfl)
      rcases h with ⟨v29, σ30, r31, f, g, h⟩ | ⟨b, σ30, r31, e⟩
      · skip
        have er31 := ro2_run rfl r31
        rw [er31] at h r31
        clear g
        have p32 := x140 hs.1 r31
        refine Or.inl ⟨v29, p32, ?_⟩
        replace h : EV F f 187 z187 24 [some (rf 11 (0)), some (rf 13 (14)), some (rf 13 (15)), some (rf 13 (17)), some (.inl (x5)), some (.inl (x6)), some (.inl (x7)), some (.inl (n2)), none, none, none, none, none, none] [.inl (v29)] σ (w, σ') := h
        replace h := ei_p h rfl rfl rfl rfl
        obtain ⟨f, g, h⟩ := h
        clear g
        replace h : EV F f 187 z187 26 [some (rf 11 (0)), some (rf 13 (14)), some (rf 13 (15)), some (rf 13 (17)), some (.inl (x5)), some (.inl (x6)), some (.inl (x7)), some (.inl (n2)), none, none, none, none, none, none] [.inl (Int32.ofInt 10), .inl (v29)] σ (w, σ') := h
        replace h := ei_irem h rfl
        obtain ⟨hd33, f, g, h⟩ := h
        clear g
        replace h : EV F f 187 z187 27 [some (rf 11 (0)), some (rf 13 (14)), some (rf 13 (15)), some (rf 13 (17)), some (.inl (x5)), some (.inl (x6)), some (.inl (x7)), some (.inl (n2)), none, none, none, none, none, none] [.inl ((v29) - (v29) / (Int32.ofInt 10) * (Int32.ofInt 10))] σ (w, σ') := h
        replace h := ei_p h rfl rfl rfl rfl
        obtain ⟨f, g, h⟩ := h
        clear g
        replace h : EV F f 187 z187 28 [some (rf 11 (0)), some (rf 13 (14)), some (rf 13 (15)), some (rf 13 (17)), some (.inl (x5)), some (.inl (x6)), some (.inl (x7)), some (.inl (n2)), none, none, none, none, none, none] [.inl (Int32.ofInt 1), .inl ((v29) - (v29) / (Int32.ofInt 10) * (Int32.ofInt 10))] σ (w, σ') := h
        replace h := ei_c h rfl rfl rfl
        rcases h with ⟨hp34, f, g, h⟩ | ⟨hp34, f, g, h⟩
        · skip
          replace hp34 : ((v29) - (v29) / (Int32.ofInt 10) * (Int32.ofInt 10)).toInt ≠ (1 : Int) := ic_ne.mp hp34
          refine Or.inl ⟨hp34, ?_⟩
          clear g
          replace h : EV F f 187 z187 35 [some (rf 11 (0)), some (rf 13 (14)), some (rf 13 (15)), some (rf 13 (17)), some (.inl (x5)), some (.inl (x6)), some (.inl (x7)), some (.inl (n2)), none, none, none, none, none, none] [] σ (w, σ') := h
          exact j187_35 hs h
        · skip
          replace hp34 : ¬ (((v29) - (v29) / (Int32.ofInt 10) * (Int32.ofInt 10)).toInt ≠ (1 : Int)) := (not_congr ic_ne).mp hp34
          refine Or.inr ⟨hp34, ?_⟩
          clear g
          replace h : EV F f 187 z187 31 [some (rf 11 (0)), some (rf 13 (14)), some (rf 13 (15)), some (rf 13 (17)), some (.inl (x5)), some (.inl (x6)), some (.inl (x7)), some (.inl (n2)), none, none, none, none, none, none] [] σ (w, σ') := h
          replace h := ei_p h rfl rfl rfl rfl
          obtain ⟨f, g, h⟩ := h
          clear g
          replace h : EV F f 187 z187 32 [some (rf 11 (0)), some (rf 13 (14)), some (rf 13 (15)), some (rf 13 (17)), some (.inl (x5)), some (.inl (x6)), some (.inl (x7)), some (.inl (n2)), none, none, none, none, none, none] [.inl (Int32.ofInt 1)] σ (w, σ') := h
          replace h := ei_p h rfl rfl rfl rfl
          obtain ⟨f, g, h⟩ := h
          clear g
          replace h : EV F f 187 z187 36 [some (rf 11 (0)), some (rf 13 (14)), some (rf 13 (15)), some (rf 13 (17)), some (.inl (x5)), some (.inl (x6)), some (.inl (x7)), some (.inl (n2)), none, none, none, none, none, none] [.inl (Int32.ofInt 1)] σ (w, σ') := h
          exact j187_36 hs h
      · skip
        have er31 := ro2_run rfl r31
        rw [er31] at e r31
        have p32 := x140 hs.1 r31
        cases e
        exact Or.inr ⟨b, p32, rfl, rfl⟩
