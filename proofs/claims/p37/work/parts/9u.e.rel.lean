/-! the class's methods as relations: 42 reviewCalls, 43 nextToFail, 92 holdsNothing, 47 takeShare, 48 takeFromOthers -/
def z42 : mAl := ((yX2_reviewCalls, cX2_reviewCalls, 6, none, { frames := 3, cells := 0, slots := 0, locals := 70 }, []), rw_X2_reviewCalls, false)
theorem z42_at : m_alF[42]? = some z42 := rfl
abbrev L42 : List (Nat × Nat) := [(6, 7), (6, 8)]
abbrev w42 : Nat → Nat → Bool := wl L42
def S42 : List Nat := [39, 40, 41, 42, 90]
theorem W42 : fw_S w42 S42 = true := by decide +kernel
abbrev B42_10 (c1 : Int32) (ih : Int32 → mS → mS → Prop) (u3 : Int32) (τ : mS) (σ' : mS) : Prop := (((c1).toInt ≤ (u3).toInt ∧ σ' = τ) ∨ (¬ ((c1).toInt ≤ (u3).toInt) ∧ (0 ≤ (u3).toInt ∧ (u3).toInt < 5) ∧ ∃ v3, P39 τ (some (6, (u3).toNatClampNeg + 1)) v3 ∧ ∃ v7, P40 τ (some (6, (u3).toNatClampNeg + 1)) v7 ∧ (((v7).toInt ≤ (v3).toInt ∧ (((m_i τ 6 ((u3).toNatClampNeg + 1) 9).toInt ≠ (0 : Int) ∧ (((m_i τ 6 ((u3).toNatClampNeg + 1) 9).toInt ≠ (0 : Int) ∧ ∃ σ15, σ15 = m_set τ 6 ((u3).toNatClampNeg + 1) (7) (.inl (Int32.ofInt 0)) ∧ ih ((u3) + Int32.ofInt 1) σ15 σ') ∨ (¬ ((m_i τ 6 ((u3).toNatClampNeg + 1) 9).toInt ≠ (0 : Int)) ∧ (∃ σ19, σ19 = m_set τ 6 ((u3).toNatClampNeg + 1) (7) (.inl (Int32.ofInt 0)) ∧ ih ((u3) + Int32.ofInt 1) σ19 σ')))) ∨ (¬ ((m_i τ 6 ((u3).toNatClampNeg + 1) 9).toInt ≠ (0 : Int)) ∧ ((((m_i τ 6 ((u3).toNatClampNeg + 1) 9).toInt ≠ (0 : Int) ∧ ∃ σ24, σ24 = m_set τ 6 ((u3).toNatClampNeg + 1) (7) (.inl (Int32.ofInt 0)) ∧ ih ((u3) + Int32.ofInt 1) σ24 σ') ∨ (¬ ((m_i τ 6 ((u3).toNatClampNeg + 1) 9).toInt ≠ (0 : Int)) ∧ (∃ σ28, σ28 = m_set τ 6 ((u3).toNatClampNeg + 1) (7) (.inl (Int32.ofInt 0)) ∧ ih ((u3) + Int32.ofInt 1) σ28 σ'))))))) ∨ (¬ ((v7).toInt ≤ (v3).toInt) ∧ (((m_i τ 6 ((u3).toNatClampNeg + 1) 9).toInt ≠ (0 : Int) ∧ (((m_i τ 6 ((u3).toNatClampNeg + 1) 9).toInt ≠ (0 : Int) ∧ ∃ σ33, σ33 = m_set τ 6 ((u3).toNatClampNeg + 1) (7) (.inl (Int32.ofInt 0)) ∧ ih ((u3) + Int32.ofInt 1) σ33 σ') ∨ (¬ ((m_i τ 6 ((u3).toNatClampNeg + 1) 9).toInt ≠ (0 : Int)) ∧ (∃ σ37, σ37 = m_set τ 6 ((u3).toNatClampNeg + 1) (7) (.inl (Int32.ofInt 1)) ∧ ih ((u3) + Int32.ofInt 1) σ37 σ')))) ∨ (¬ ((m_i τ 6 ((u3).toNatClampNeg + 1) 9).toInt ≠ (0 : Int)) ∧ ((((m_i τ 6 ((u3).toNatClampNeg + 1) 7).toInt ≠ (0 : Int) ∧ (((m_i τ 6 ((u3).toNatClampNeg + 1) 9).toInt ≠ (0 : Int) ∧ ∃ σ43, σ43 = m_set τ 6 ((u3).toNatClampNeg + 1) (7) (.inl (Int32.ofInt 0)) ∧ ih ((u3) + Int32.ofInt 1) σ43 σ') ∨ (¬ ((m_i τ 6 ((u3).toNatClampNeg + 1) 9).toInt ≠ (0 : Int)) ∧ (∃ σ47, σ47 = m_set τ 6 ((u3).toNatClampNeg + 1) (7) (.inl (Int32.ofInt 1)) ∧ ih ((u3) + Int32.ofInt 1) σ47 σ')))) ∨ (¬ ((m_i τ 6 ((u3).toNatClampNeg + 1) 7).toInt ≠ (0 : Int)) ∧ ∃ σ50, σ50 = m_set τ 6 ((u3).toNatClampNeg + 1) (8) (.inl (m_i τ 2 (0) 7)) ∧ (((m_i σ50 6 ((u3).toNatClampNeg + 1) 9).toInt ≠ (0 : Int) ∧ ∃ σ54, σ54 = m_set σ50 6 ((u3).toNatClampNeg + 1) (7) (.inl (Int32.ofInt 0)) ∧ ih ((u3) + Int32.ofInt 1) σ54 σ') ∨ (¬ ((m_i σ50 6 ((u3).toNatClampNeg + 1) 9).toInt ≠ (0 : Int)) ∧ (∃ σ58, σ58 = m_set σ50 6 ((u3).toNatClampNeg + 1) (7) (.inl (Int32.ofInt 1)) ∧ ih ((u3) + Int32.ofInt 1) σ58 σ'))))))))))))
def Q42_10 (c1 : Int32) : Nat → Int32 → mS → mS → Prop
  | 0 => fun _ _ _ => False
  | n + 1 => B42_10 c1 (Q42_10 c1 n)
theorem q42_10 {F : Nat} {σ' : mS} {c1 : Int32} : ∀ N f, f < N → ∀ (u3 : Int32) (y4 : Option mV) (y5 : Option mV) (τ : mS), HS τ → EV F f 42 z42 10 [some (rf 2 (0)), some (rf 16 (0)), some (.inl (c1)), some (.inl (u3)), y4, y5] [] τ (.inl none, σ') → Q42_10 c1 N u3 τ σ' := by
  intro N
  induction N with
  | zero => intro f hf; omega
  | succ N IH =>
    intro f hf0 u3 y4 y5 τ hsτ h
    have hf : f < N + 1 := hf0
    clear hf0
    show B42_10 c1 (Q42_10 c1 N) u3 τ σ'
    replace h := ei_p h rfl rfl rfl rfl
    obtain ⟨f, g, h⟩ := h
    replace hf := Nat.lt_of_lt_of_le g (Nat.le_of_lt_succ hf)
    clear g
    replace h : EV F f 42 z42 11 [some (rf 2 (0)), some (rf 16 (0)), some (.inl (c1)), some (.inl (u3)), y4, y5] [.inl (u3)] τ (.inl none, σ') := h
    replace h := ei_p h rfl rfl rfl rfl
    obtain ⟨f, g, h⟩ := h
    replace hf := Nat.lt_trans g hf
    clear g
    replace h : EV F f 42 z42 12 [some (rf 2 (0)), some (rf 16 (0)), some (.inl (c1)), some (.inl (u3)), y4, y5] [.inl (c1), .inl (u3)] τ (.inl none, σ') := h
    replace h := ei_c h rfl rfl rfl
    rcases h with ⟨hp1, f, g, h⟩ | ⟨hp1, f, g, h⟩
    · skip
      replace hp1 : (c1).toInt ≤ (u3).toInt := ic_ge.mp hp1
      refine Or.inl ⟨hp1, ?_⟩
      replace hf := Nat.lt_trans g hf
      clear g
      replace h : EV F f 42 z42 102 [some (rf 2 (0)), some (rf 16 (0)), some (.inl (c1)), some (.inl (u3)), y4, y5] [] τ (.inl none, σ') := h
      have e := ei_ret h rfl
      cases e
      exact rfl
    · skip
      replace hp1 : ¬ ((c1).toInt ≤ (u3).toInt) := (not_congr ic_ge).mp hp1
      refine Or.inr ⟨hp1, ?_⟩
      replace hf := Nat.lt_trans g hf
      clear g
      replace h : EV F f 42 z42 15 [some (rf 2 (0)), some (rf 16 (0)), some (.inl (c1)), some (.inl (u3)), y4, y5] [] τ (.inl none, σ') := h
      replace h := ei_p h rfl rfl rfl rfl
      obtain ⟨f, g, h⟩ := h
      replace hf := Nat.lt_trans g hf
      clear g
      replace h : EV F f 42 z42 16 [some (rf 2 (0)), some (rf 16 (0)), some (.inl (c1)), some (.inl (u3)), y4, y5] [rf 16 (0)] τ (.inl none, σ') := h
      replace h := ei_p h rfl rfl rfl rfl
      obtain ⟨f, g, h⟩ := h
      replace hf := Nat.lt_trans g hf
      clear g
      replace h : EV F f 42 z42 17 [some (rf 2 (0)), some (rf 16 (0)), some (.inl (c1)), some (.inl (u3)), y4, y5] [.inl (u3), rf 16 (0)] τ (.inl none, σ') := h
      replace h := ei_ald h rfl (HS_a16 hsτ)
      obtain ⟨vp2, f, g, h⟩ := h
      replace hf := Nat.lt_trans g hf
      clear g
      replace h : EV F f 42 z42 18 [some (rf 2 (0)), some (rf 16 (0)), some (.inl (c1)), some (.inl (u3)), y4, y5] [rf 6 ((u3).toNatClampNeg + 1)] τ (.inl none, σ') := h
      refine ⟨HS_v16 hsτ vp2, ?_⟩
      replace h := ei_p h rfl rfl rfl rfl
      obtain ⟨f, g, h⟩ := h
      replace hf := Nat.lt_trans g hf
      clear g
      replace h : EV F f 42 z42 20 [some (rf 2 (0)), some (rf 16 (0)), some (.inl (c1)), some (.inl (u3)), some (rf 6 ((u3).toNatClampNeg + 1)), y5] [] τ (.inl none, σ') := h
      replace h := ei_p h rfl rfl rfl rfl
      obtain ⟨f, g, h⟩ := h
      replace hf := Nat.lt_trans g hf
      clear g
      replace h : EV F f 42 z42 21 [some (rf 2 (0)), some (rf 16 (0)), some (.inl (c1)), some (.inl (u3)), some (rf 6 ((u3).toNatClampNeg + 1)), y5] [rf 2 (0)] τ (.inl none, σ') := h
      replace h := ei_p h rfl rfl rfl rfl
      obtain ⟨f, g, h⟩ := h
      replace hf := Nat.lt_trans g hf
      clear g
      replace h : EV F f 42 z42 23 [some (rf 2 (0)), some (rf 16 (0)), some (.inl (c1)), some (.inl (u3)), some (rf 6 ((u3).toNatClampNeg + 1)), y5] [rf 6 ((u3).toNatClampNeg + 1), rf 2 (0)] τ (.inl none, σ') := h
      replace h := bk_L (ei_v (as := [rf 6 ((u3).toNatClampNeg + 1)]) h rfl rfl rfl) rfl z39_at rfl
      obtain ⟨v3, σ4, r5, f, g, h⟩ := h
      replace hf := Nat.lt_trans g hf
      clear g
      have er5 := ro_run rfl r5
      rw [er5] at h r5
      have p6 := x39 hsτ r5
      refine ⟨v3, p6, ?_⟩
      replace h : EV F f 42 z42 26 [some (rf 2 (0)), some (rf 16 (0)), some (.inl (c1)), some (.inl (u3)), some (rf 6 ((u3).toNatClampNeg + 1)), y5] [.inr (.inl (v3))] τ (.inl none, σ') := h
      replace h := ei_p h rfl rfl rfl rfl
      obtain ⟨f, g, h⟩ := h
      replace hf := Nat.lt_trans g hf
      clear g
      replace h : EV F f 42 z42 27 [some (rf 2 (0)), some (rf 16 (0)), some (.inl (c1)), some (.inl (u3)), some (rf 6 ((u3).toNatClampNeg + 1)), y5] [rf 2 (0), .inr (.inl (v3))] τ (.inl none, σ') := h
      replace h := ei_p h rfl rfl rfl rfl
      obtain ⟨f, g, h⟩ := h
      replace hf := Nat.lt_trans g hf
      clear g
      replace h : EV F f 42 z42 29 [some (rf 2 (0)), some (rf 16 (0)), some (.inl (c1)), some (.inl (u3)), some (rf 6 ((u3).toNatClampNeg + 1)), y5] [rf 6 ((u3).toNatClampNeg + 1), rf 2 (0), .inr (.inl (v3))] τ (.inl none, σ') := h
      replace h := bk_L (ei_v (as := [rf 6 ((u3).toNatClampNeg + 1)]) h rfl rfl rfl) rfl z40_at rfl
      obtain ⟨v7, σ8, r9, f, g, h⟩ := h
      replace hf := Nat.lt_trans g hf
      clear g
      have er9 := ro_run rfl r9
      rw [er9] at h r9
      have p10 := x40 hsτ r9
      refine ⟨v7, p10, ?_⟩
      replace h : EV F f 42 z42 32 [some (rf 2 (0)), some (rf 16 (0)), some (.inl (c1)), some (.inl (u3)), some (rf 6 ((u3).toNatClampNeg + 1)), y5] [.inr (.inl (v7)), .inr (.inl (v3))] τ (.inl none, σ') := h
      replace h := ei_p h rfl rfl rfl rfl
      obtain ⟨f, g, h⟩ := h
      replace hf := Nat.lt_trans g hf
      clear g
      replace h : EV F f 42 z42 33 [some (rf 2 (0)), some (rf 16 (0)), some (.inl (c1)), some (.inl (u3)), some (rf 6 ((u3).toNatClampNeg + 1)), y5] [.inl (lg_cmp (v3) (v7))] τ (.inl none, σ') := h
      replace h := ei_c h rfl rfl rfl
      rcases h with ⟨hp11, f, g, h⟩ | ⟨hp11, f, g, h⟩
      · skip
        replace hp11 : (v7).toInt ≤ (v3).toInt := (ab_lc .ge _ _).mp hp11
        refine Or.inl ⟨hp11, ?_⟩
        replace hf := Nat.lt_trans g hf
        clear g
        replace h : EV F f 42 z42 40 [some (rf 2 (0)), some (rf 16 (0)), some (.inl (c1)), some (.inl (u3)), some (rf 6 ((u3).toNatClampNeg + 1)), y5] [] τ (.inl none, σ') := h
        replace h := ei_p h rfl rfl rfl rfl
        obtain ⟨f, g, h⟩ := h
        replace hf := Nat.lt_trans g hf
        clear g
        replace h : EV F f 42 z42 41 [some (rf 2 (0)), some (rf 16 (0)), some (.inl (c1)), some (.inl (u3)), some (rf 6 ((u3).toNatClampNeg + 1)), y5] [.inl (Int32.ofInt 0)] τ (.inl none, σ') := h
        replace h := ei_p h rfl rfl rfl rfl
        obtain ⟨f, g, h⟩ := h
        replace hf := Nat.lt_trans g hf
        clear g
        replace h : EV F f 42 z42 43 [some (rf 2 (0)), some (rf 16 (0)), some (.inl (c1)), some (.inl (u3)), some (rf 6 ((u3).toNatClampNeg + 1)), some (.inl (Int32.ofInt 0))] [] τ (.inl none, σ') := h
        replace h := ei_p h rfl rfl rfl rfl
        obtain ⟨f, g, h⟩ := h
        replace hf := Nat.lt_trans g hf
        clear g
        replace h : EV F f 42 z42 45 [some (rf 2 (0)), some (rf 16 (0)), some (.inl (c1)), some (.inl (u3)), some (rf 6 ((u3).toNatClampNeg + 1)), some (.inl (Int32.ofInt 0))] [rf 6 ((u3).toNatClampNeg + 1)] τ (.inl none, σ') := h
        replace h := ei_get h rfl rfl
        obtain ⟨f, g, h⟩ := h
        replace hf := Nat.lt_trans g hf
        clear g
        replace h : EV F f 42 z42 48 [some (rf 2 (0)), some (rf 16 (0)), some (.inl (c1)), some (.inl (u3)), some (rf 6 ((u3).toNatClampNeg + 1)), some (.inl (Int32.ofInt 0))] [.inl (m_i τ 6 ((u3).toNatClampNeg + 1) 9)] τ (.inl none, σ') := h
        replace h := ei_c h rfl rfl rfl
        rcases h with ⟨hp12, f, g, h⟩ | ⟨hp12, f, g, h⟩
        · skip
          replace hp12 : (m_i τ 6 ((u3).toNatClampNeg + 1) 9).toInt ≠ (0 : Int) := ic_ne.mp hp12
          refine Or.inl ⟨hp12, ?_⟩
          replace hf := Nat.lt_trans g hf
          clear g
          replace h : EV F f 42 z42 73 [some (rf 2 (0)), some (rf 16 (0)), some (.inl (c1)), some (.inl (u3)), some (rf 6 ((u3).toNatClampNeg + 1)), some (.inl (Int32.ofInt 0))] [] τ (.inl none, σ') := h
          replace h := ei_p h rfl rfl rfl rfl
          obtain ⟨f, g, h⟩ := h
          replace hf := Nat.lt_trans g hf
          clear g
          replace h : EV F f 42 z42 75 [some (rf 2 (0)), some (rf 16 (0)), some (.inl (c1)), some (.inl (u3)), some (rf 6 ((u3).toNatClampNeg + 1)), some (.inl (Int32.ofInt 0))] [rf 6 ((u3).toNatClampNeg + 1)] τ (.inl none, σ') := h
          replace h := ei_p h rfl rfl rfl rfl
          obtain ⟨f, g, h⟩ := h
          replace hf := Nat.lt_trans g hf
          clear g
          replace h : EV F f 42 z42 77 [some (rf 2 (0)), some (rf 16 (0)), some (.inl (c1)), some (.inl (u3)), some (rf 6 ((u3).toNatClampNeg + 1)), some (.inl (Int32.ofInt 0))] [rf 6 ((u3).toNatClampNeg + 1), rf 6 ((u3).toNatClampNeg + 1)] τ (.inl none, σ') := h
          replace h := ei_get h rfl rfl
          obtain ⟨f, g, h⟩ := h
          replace hf := Nat.lt_trans g hf
          clear g
          replace h : EV F f 42 z42 80 [some (rf 2 (0)), some (rf 16 (0)), some (.inl (c1)), some (.inl (u3)), some (rf 6 ((u3).toNatClampNeg + 1)), some (.inl (Int32.ofInt 0))] [.inl (m_i τ 6 ((u3).toNatClampNeg + 1) 9), rf 6 ((u3).toNatClampNeg + 1)] τ (.inl none, σ') := h
          replace h := ei_c h rfl rfl rfl
          rcases h with ⟨hp13, f, g, h⟩ | ⟨hp13, f, g, h⟩
          · skip
            replace hp13 : (m_i τ 6 ((u3).toNatClampNeg + 1) 9).toInt ≠ (0 : Int) := ic_ne.mp hp13
            refine Or.inl ⟨hp13, ?_⟩
            replace hf := Nat.lt_trans g hf
            clear g
            replace h : EV F f 42 z42 92 [some (rf 2 (0)), some (rf 16 (0)), some (.inl (c1)), some (.inl (u3)), some (rf 6 ((u3).toNatClampNeg + 1)), some (.inl (Int32.ofInt 0))] [rf 6 ((u3).toNatClampNeg + 1)] τ (.inl none, σ') := h
            replace h := ei_p h rfl rfl rfl rfl
            obtain ⟨f, g, h⟩ := h
            replace hf := Nat.lt_trans g hf
            clear g
            replace h : EV F f 42 z42 93 [some (rf 2 (0)), some (rf 16 (0)), some (.inl (c1)), some (.inl (u3)), some (rf 6 ((u3).toNatClampNeg + 1)), some (.inl (Int32.ofInt 0))] [.inl (Int32.ofInt 0), rf 6 ((u3).toNatClampNeg + 1)] τ (.inl none, σ') := h
            replace h := ei_put h rfl
            obtain ⟨ht14, f, g, h⟩ := h
            replace hf := Nat.lt_trans g hf
            clear g
            obtain ⟨σ15, e16⟩ : ∃ s, s = m_set τ 6 ((u3).toNatClampNeg + 1) (7) (.inl (Int32.ofInt 0)) := ⟨_, rfl⟩
            rw [← e16] at h
            have hsσ15 : HS σ15 := by rw [e16]; exact HS_set hsτ rfl
            refine ⟨σ15, e16, ?_⟩
            replace h : EV F f 42 z42 96 [some (rf 2 (0)), some (rf 16 (0)), some (.inl (c1)), some (.inl (u3)), some (rf 6 ((u3).toNatClampNeg + 1)), some (.inl (Int32.ofInt 0))] [] σ15 (.inl none, σ') := h
            replace h := ei_p h rfl rfl rfl rfl
            obtain ⟨f, g, h⟩ := h
            replace hf := Nat.lt_trans g hf
            clear g
            replace h : EV F f 42 z42 99 [some (rf 2 (0)), some (rf 16 (0)), some (.inl (c1)), some (.inl ((u3) + Int32.ofInt 1)), some (rf 6 ((u3).toNatClampNeg + 1)), some (.inl (Int32.ofInt 0))] [] σ15 (.inl none, σ') := h
            replace h := ei_p h rfl rfl rfl rfl
            obtain ⟨f, g, h⟩ := h
            replace hf := Nat.lt_trans g hf
            clear g
            replace h : EV F f 42 z42 10 [some (rf 2 (0)), some (rf 16 (0)), some (.inl (c1)), some (.inl ((u3) + Int32.ofInt 1)), some (rf 6 ((u3).toNatClampNeg + 1)), some (.inl (Int32.ofInt 0))] [] σ15 (.inl none, σ') := h
            exact IH f hf ((u3) + Int32.ofInt 1) (some (rf 6 ((u3).toNatClampNeg + 1))) (some (.inl (Int32.ofInt 0))) σ15 hsσ15 h
          · skip
            replace hp13 : ¬ ((m_i τ 6 ((u3).toNatClampNeg + 1) 9).toInt ≠ (0 : Int)) := (not_congr ic_ne).mp hp13
            refine Or.inr ⟨hp13, ?_⟩
            replace hf := Nat.lt_trans g hf
            clear g
            replace h : EV F f 42 z42 83 [some (rf 2 (0)), some (rf 16 (0)), some (.inl (c1)), some (.inl (u3)), some (rf 6 ((u3).toNatClampNeg + 1)), some (.inl (Int32.ofInt 0))] [rf 6 ((u3).toNatClampNeg + 1)] τ (.inl none, σ') := h
            replace h := ei_p h rfl rfl rfl rfl
            obtain ⟨f, g, h⟩ := h
            replace hf := Nat.lt_trans g hf
            clear g
            replace h : EV F f 42 z42 85 [some (rf 2 (0)), some (rf 16 (0)), some (.inl (c1)), some (.inl (u3)), some (rf 6 ((u3).toNatClampNeg + 1)), some (.inl (Int32.ofInt 0))] [.inl (Int32.ofInt 0), rf 6 ((u3).toNatClampNeg + 1)] τ (.inl none, σ') := h
            replace h := ei_c h rfl rfl rfl
            rcases h with ⟨hp17, f, g, h⟩ | ⟨hp17, f, g, h⟩
            · skip
              replace hf := Nat.lt_trans g hf
              clear g
              replace h : EV F f 42 z42 92 [some (rf 2 (0)), some (rf 16 (0)), some (.inl (c1)), some (.inl (u3)), some (rf 6 ((u3).toNatClampNeg + 1)), some (.inl (Int32.ofInt 0))] [rf 6 ((u3).toNatClampNeg + 1)] τ (.inl none, σ') := h
              replace h := ei_p h rfl rfl rfl rfl
              obtain ⟨f, g, h⟩ := h
              replace hf := Nat.lt_trans g hf
              clear g
              replace h : EV F f 42 z42 93 [some (rf 2 (0)), some (rf 16 (0)), some (.inl (c1)), some (.inl (u3)), some (rf 6 ((u3).toNatClampNeg + 1)), some (.inl (Int32.ofInt 0))] [.inl (Int32.ofInt 0), rf 6 ((u3).toNatClampNeg + 1)] τ (.inl none, σ') := h
              replace h := ei_put h rfl
              obtain ⟨ht18, f, g, h⟩ := h
              replace hf := Nat.lt_trans g hf
              clear g
              obtain ⟨σ19, e20⟩ : ∃ s, s = m_set τ 6 ((u3).toNatClampNeg + 1) (7) (.inl (Int32.ofInt 0)) := ⟨_, rfl⟩
              rw [← e20] at h
              have hsσ19 : HS σ19 := by rw [e20]; exact HS_set hsτ rfl
              refine ⟨σ19, e20, ?_⟩
              replace h : EV F f 42 z42 96 [some (rf 2 (0)), some (rf 16 (0)), some (.inl (c1)), some (.inl (u3)), some (rf 6 ((u3).toNatClampNeg + 1)), some (.inl (Int32.ofInt 0))] [] σ19 (.inl none, σ') := h
              replace h := ei_p h rfl rfl rfl rfl
              obtain ⟨f, g, h⟩ := h
              replace hf := Nat.lt_trans g hf
              clear g
              replace h : EV F f 42 z42 99 [some (rf 2 (0)), some (rf 16 (0)), some (.inl (c1)), some (.inl ((u3) + Int32.ofInt 1)), some (rf 6 ((u3).toNatClampNeg + 1)), some (.inl (Int32.ofInt 0))] [] σ19 (.inl none, σ') := h
              replace h := ei_p h rfl rfl rfl rfl
              obtain ⟨f, g, h⟩ := h
              replace hf := Nat.lt_trans g hf
              clear g
              replace h : EV F f 42 z42 10 [some (rf 2 (0)), some (rf 16 (0)), some (.inl (c1)), some (.inl ((u3) + Int32.ofInt 1)), some (rf 6 ((u3).toNatClampNeg + 1)), some (.inl (Int32.ofInt 0))] [] σ19 (.inl none, σ') := h
              exact IH f hf ((u3) + Int32.ofInt 1) (some (rf 6 ((u3).toNatClampNeg + 1))) (some (.inl (Int32.ofInt 0))) σ19 hsσ19 h
            · exact absurd (ic_eq.mpr (by decide)) hp17
        · skip
          replace hp12 : ¬ ((m_i τ 6 ((u3).toNatClampNeg + 1) 9).toInt ≠ (0 : Int)) := (not_congr ic_ne).mp hp12
          refine Or.inr ⟨hp12, ?_⟩
          replace hf := Nat.lt_trans g hf
          clear g
          replace h : EV F f 42 z42 51 [some (rf 2 (0)), some (rf 16 (0)), some (.inl (c1)), some (.inl (u3)), some (rf 6 ((u3).toNatClampNeg + 1)), some (.inl (Int32.ofInt 0))] [] τ (.inl none, σ') := h
          replace h := ei_p h rfl rfl rfl rfl
          obtain ⟨f, g, h⟩ := h
          replace hf := Nat.lt_trans g hf
          clear g
          replace h : EV F f 42 z42 53 [some (rf 2 (0)), some (rf 16 (0)), some (.inl (c1)), some (.inl (u3)), some (rf 6 ((u3).toNatClampNeg + 1)), some (.inl (Int32.ofInt 0))] [.inl (Int32.ofInt 0)] τ (.inl none, σ') := h
          replace h := ei_c h rfl rfl rfl
          rcases h with ⟨hp21, f, g, h⟩ | ⟨hp21, f, g, h⟩
          · skip
            replace hf := Nat.lt_trans g hf
            clear g
            replace h : EV F f 42 z42 73 [some (rf 2 (0)), some (rf 16 (0)), some (.inl (c1)), some (.inl (u3)), some (rf 6 ((u3).toNatClampNeg + 1)), some (.inl (Int32.ofInt 0))] [] τ (.inl none, σ') := h
            replace h := ei_p h rfl rfl rfl rfl
            obtain ⟨f, g, h⟩ := h
            replace hf := Nat.lt_trans g hf
            clear g
            replace h : EV F f 42 z42 75 [some (rf 2 (0)), some (rf 16 (0)), some (.inl (c1)), some (.inl (u3)), some (rf 6 ((u3).toNatClampNeg + 1)), some (.inl (Int32.ofInt 0))] [rf 6 ((u3).toNatClampNeg + 1)] τ (.inl none, σ') := h
            replace h := ei_p h rfl rfl rfl rfl
            obtain ⟨f, g, h⟩ := h
            replace hf := Nat.lt_trans g hf
            clear g
            replace h : EV F f 42 z42 77 [some (rf 2 (0)), some (rf 16 (0)), some (.inl (c1)), some (.inl (u3)), some (rf 6 ((u3).toNatClampNeg + 1)), some (.inl (Int32.ofInt 0))] [rf 6 ((u3).toNatClampNeg + 1), rf 6 ((u3).toNatClampNeg + 1)] τ (.inl none, σ') := h
            replace h := ei_get h rfl rfl
            obtain ⟨f, g, h⟩ := h
            replace hf := Nat.lt_trans g hf
            clear g
            replace h : EV F f 42 z42 80 [some (rf 2 (0)), some (rf 16 (0)), some (.inl (c1)), some (.inl (u3)), some (rf 6 ((u3).toNatClampNeg + 1)), some (.inl (Int32.ofInt 0))] [.inl (m_i τ 6 ((u3).toNatClampNeg + 1) 9), rf 6 ((u3).toNatClampNeg + 1)] τ (.inl none, σ') := h
            replace h := ei_c h rfl rfl rfl
            rcases h with ⟨hp22, f, g, h⟩ | ⟨hp22, f, g, h⟩
            · skip
              replace hp22 : (m_i τ 6 ((u3).toNatClampNeg + 1) 9).toInt ≠ (0 : Int) := ic_ne.mp hp22
              refine Or.inl ⟨hp22, ?_⟩
              replace hf := Nat.lt_trans g hf
              clear g
              replace h : EV F f 42 z42 92 [some (rf 2 (0)), some (rf 16 (0)), some (.inl (c1)), some (.inl (u3)), some (rf 6 ((u3).toNatClampNeg + 1)), some (.inl (Int32.ofInt 0))] [rf 6 ((u3).toNatClampNeg + 1)] τ (.inl none, σ') := h
              replace h := ei_p h rfl rfl rfl rfl
              obtain ⟨f, g, h⟩ := h
              replace hf := Nat.lt_trans g hf
              clear g
              replace h : EV F f 42 z42 93 [some (rf 2 (0)), some (rf 16 (0)), some (.inl (c1)), some (.inl (u3)), some (rf 6 ((u3).toNatClampNeg + 1)), some (.inl (Int32.ofInt 0))] [.inl (Int32.ofInt 0), rf 6 ((u3).toNatClampNeg + 1)] τ (.inl none, σ') := h
              replace h := ei_put h rfl
              obtain ⟨ht23, f, g, h⟩ := h
              replace hf := Nat.lt_trans g hf
              clear g
              obtain ⟨σ24, e25⟩ : ∃ s, s = m_set τ 6 ((u3).toNatClampNeg + 1) (7) (.inl (Int32.ofInt 0)) := ⟨_, rfl⟩
              rw [← e25] at h
              have hsσ24 : HS σ24 := by rw [e25]; exact HS_set hsτ rfl
              refine ⟨σ24, e25, ?_⟩
              replace h : EV F f 42 z42 96 [some (rf 2 (0)), some (rf 16 (0)), some (.inl (c1)), some (.inl (u3)), some (rf 6 ((u3).toNatClampNeg + 1)), some (.inl (Int32.ofInt 0))] [] σ24 (.inl none, σ') := h
              replace h := ei_p h rfl rfl rfl rfl
              obtain ⟨f, g, h⟩ := h
              replace hf := Nat.lt_trans g hf
              clear g
              replace h : EV F f 42 z42 99 [some (rf 2 (0)), some (rf 16 (0)), some (.inl (c1)), some (.inl ((u3) + Int32.ofInt 1)), some (rf 6 ((u3).toNatClampNeg + 1)), some (.inl (Int32.ofInt 0))] [] σ24 (.inl none, σ') := h
              replace h := ei_p h rfl rfl rfl rfl
              obtain ⟨f, g, h⟩ := h
              replace hf := Nat.lt_trans g hf
              clear g
              replace h : EV F f 42 z42 10 [some (rf 2 (0)), some (rf 16 (0)), some (.inl (c1)), some (.inl ((u3) + Int32.ofInt 1)), some (rf 6 ((u3).toNatClampNeg + 1)), some (.inl (Int32.ofInt 0))] [] σ24 (.inl none, σ') := h
              exact IH f hf ((u3) + Int32.ofInt 1) (some (rf 6 ((u3).toNatClampNeg + 1))) (some (.inl (Int32.ofInt 0))) σ24 hsσ24 h
            · skip
              replace hp22 : ¬ ((m_i τ 6 ((u3).toNatClampNeg + 1) 9).toInt ≠ (0 : Int)) := (not_congr ic_ne).mp hp22
              refine Or.inr ⟨hp22, ?_⟩
              replace hf := Nat.lt_trans g hf
              clear g
              replace h : EV F f 42 z42 83 [some (rf 2 (0)), some (rf 16 (0)), some (.inl (c1)), some (.inl (u3)), some (rf 6 ((u3).toNatClampNeg + 1)), some (.inl (Int32.ofInt 0))] [rf 6 ((u3).toNatClampNeg + 1)] τ (.inl none, σ') := h
              replace h := ei_p h rfl rfl rfl rfl
              obtain ⟨f, g, h⟩ := h
              replace hf := Nat.lt_trans g hf
              clear g
              replace h : EV F f 42 z42 85 [some (rf 2 (0)), some (rf 16 (0)), some (.inl (c1)), some (.inl (u3)), some (rf 6 ((u3).toNatClampNeg + 1)), some (.inl (Int32.ofInt 0))] [.inl (Int32.ofInt 0), rf 6 ((u3).toNatClampNeg + 1)] τ (.inl none, σ') := h
              replace h := ei_c h rfl rfl rfl
              rcases h with ⟨hp26, f, g, h⟩ | ⟨hp26, f, g, h⟩
              · skip
                replace hf := Nat.lt_trans g hf
                clear g
                replace h : EV F f 42 z42 92 [some (rf 2 (0)), some (rf 16 (0)), some (.inl (c1)), some (.inl (u3)), some (rf 6 ((u3).toNatClampNeg + 1)), some (.inl (Int32.ofInt 0))] [rf 6 ((u3).toNatClampNeg + 1)] τ (.inl none, σ') := h
                replace h := ei_p h rfl rfl rfl rfl
                obtain ⟨f, g, h⟩ := h
                replace hf := Nat.lt_trans g hf
                clear g
                replace h : EV F f 42 z42 93 [some (rf 2 (0)), some (rf 16 (0)), some (.inl (c1)), some (.inl (u3)), some (rf 6 ((u3).toNatClampNeg + 1)), some (.inl (Int32.ofInt 0))] [.inl (Int32.ofInt 0), rf 6 ((u3).toNatClampNeg + 1)] τ (.inl none, σ') := h
                replace h := ei_put h rfl
                obtain ⟨ht27, f, g, h⟩ := h
                replace hf := Nat.lt_trans g hf
                clear g
                obtain ⟨σ28, e29⟩ : ∃ s, s = m_set τ 6 ((u3).toNatClampNeg + 1) (7) (.inl (Int32.ofInt 0)) := ⟨_, rfl⟩
                rw [← e29] at h
                have hsσ28 : HS σ28 := by rw [e29]; exact HS_set hsτ rfl
                refine ⟨σ28, e29, ?_⟩
                replace h : EV F f 42 z42 96 [some (rf 2 (0)), some (rf 16 (0)), some (.inl (c1)), some (.inl (u3)), some (rf 6 ((u3).toNatClampNeg + 1)), some (.inl (Int32.ofInt 0))] [] σ28 (.inl none, σ') := h
                replace h := ei_p h rfl rfl rfl rfl
                obtain ⟨f, g, h⟩ := h
                replace hf := Nat.lt_trans g hf
                clear g
                replace h : EV F f 42 z42 99 [some (rf 2 (0)), some (rf 16 (0)), some (.inl (c1)), some (.inl ((u3) + Int32.ofInt 1)), some (rf 6 ((u3).toNatClampNeg + 1)), some (.inl (Int32.ofInt 0))] [] σ28 (.inl none, σ') := h
                replace h := ei_p h rfl rfl rfl rfl
                obtain ⟨f, g, h⟩ := h
                replace hf := Nat.lt_trans g hf
                clear g
                replace h : EV F f 42 z42 10 [some (rf 2 (0)), some (rf 16 (0)), some (.inl (c1)), some (.inl ((u3) + Int32.ofInt 1)), some (rf 6 ((u3).toNatClampNeg + 1)), some (.inl (Int32.ofInt 0))] [] σ28 (.inl none, σ') := h
                exact IH f hf ((u3) + Int32.ofInt 1) (some (rf 6 ((u3).toNatClampNeg + 1))) (some (.inl (Int32.ofInt 0))) σ28 hsσ28 h
              · exact absurd (ic_eq.mpr (by decide)) hp26
          · exact absurd (ic_eq.mpr (by decide)) hp21
      · skip
        replace hp11 : ¬ ((v7).toInt ≤ (v3).toInt) := (not_congr (ab_lc .ge _ _)).mp hp11
        refine Or.inr ⟨hp11, ?_⟩
        replace hf := Nat.lt_trans g hf
        clear g
        replace h : EV F f 42 z42 36 [some (rf 2 (0)), some (rf 16 (0)), some (.inl (c1)), some (.inl (u3)), some (rf 6 ((u3).toNatClampNeg + 1)), y5] [] τ (.inl none, σ') := h
        replace h := ei_p h rfl rfl rfl rfl
        obtain ⟨f, g, h⟩ := h
        replace hf := Nat.lt_trans g hf
        clear g
        replace h : EV F f 42 z42 37 [some (rf 2 (0)), some (rf 16 (0)), some (.inl (c1)), some (.inl (u3)), some (rf 6 ((u3).toNatClampNeg + 1)), y5] [.inl (Int32.ofInt 1)] τ (.inl none, σ') := h
        replace h := ei_p h rfl rfl rfl rfl
        obtain ⟨f, g, h⟩ := h
        replace hf := Nat.lt_trans g hf
        clear g
        replace h : EV F f 42 z42 41 [some (rf 2 (0)), some (rf 16 (0)), some (.inl (c1)), some (.inl (u3)), some (rf 6 ((u3).toNatClampNeg + 1)), y5] [.inl (Int32.ofInt 1)] τ (.inl none, σ') := h
        replace h := ei_p h rfl rfl rfl rfl
        obtain ⟨f, g, h⟩ := h
        replace hf := Nat.lt_trans g hf
        clear g
        replace h : EV F f 42 z42 43 [some (rf 2 (0)), some (rf 16 (0)), some (.inl (c1)), some (.inl (u3)), some (rf 6 ((u3).toNatClampNeg + 1)), some (.inl (Int32.ofInt 1))] [] τ (.inl none, σ') := h
        replace h := ei_p h rfl rfl rfl rfl
        obtain ⟨f, g, h⟩ := h
        replace hf := Nat.lt_trans g hf
        clear g
        replace h : EV F f 42 z42 45 [some (rf 2 (0)), some (rf 16 (0)), some (.inl (c1)), some (.inl (u3)), some (rf 6 ((u3).toNatClampNeg + 1)), some (.inl (Int32.ofInt 1))] [rf 6 ((u3).toNatClampNeg + 1)] τ (.inl none, σ') := h
        replace h := ei_get h rfl rfl
        obtain ⟨f, g, h⟩ := h
        replace hf := Nat.lt_trans g hf
        clear g
        replace h : EV F f 42 z42 48 [some (rf 2 (0)), some (rf 16 (0)), some (.inl (c1)), some (.inl (u3)), some (rf 6 ((u3).toNatClampNeg + 1)), some (.inl (Int32.ofInt 1))] [.inl (m_i τ 6 ((u3).toNatClampNeg + 1) 9)] τ (.inl none, σ') := h
        replace h := ei_c h rfl rfl rfl
        rcases h with ⟨hp30, f, g, h⟩ | ⟨hp30, f, g, h⟩
        · skip
          replace hp30 : (m_i τ 6 ((u3).toNatClampNeg + 1) 9).toInt ≠ (0 : Int) := ic_ne.mp hp30
          refine Or.inl ⟨hp30, ?_⟩
          replace hf := Nat.lt_trans g hf
          clear g
          replace h : EV F f 42 z42 73 [some (rf 2 (0)), some (rf 16 (0)), some (.inl (c1)), some (.inl (u3)), some (rf 6 ((u3).toNatClampNeg + 1)), some (.inl (Int32.ofInt 1))] [] τ (.inl none, σ') := h
          replace h := ei_p h rfl rfl rfl rfl
          obtain ⟨f, g, h⟩ := h
          replace hf := Nat.lt_trans g hf
          clear g
          replace h : EV F f 42 z42 75 [some (rf 2 (0)), some (rf 16 (0)), some (.inl (c1)), some (.inl (u3)), some (rf 6 ((u3).toNatClampNeg + 1)), some (.inl (Int32.ofInt 1))] [rf 6 ((u3).toNatClampNeg + 1)] τ (.inl none, σ') := h
          replace h := ei_p h rfl rfl rfl rfl
          obtain ⟨f, g, h⟩ := h
          replace hf := Nat.lt_trans g hf
          clear g
          replace h : EV F f 42 z42 77 [some (rf 2 (0)), some (rf 16 (0)), some (.inl (c1)), some (.inl (u3)), some (rf 6 ((u3).toNatClampNeg + 1)), some (.inl (Int32.ofInt 1))] [rf 6 ((u3).toNatClampNeg + 1), rf 6 ((u3).toNatClampNeg + 1)] τ (.inl none, σ') := h
          replace h := ei_get h rfl rfl
          obtain ⟨f, g, h⟩ := h
          replace hf := Nat.lt_trans g hf
          clear g
          replace h : EV F f 42 z42 80 [some (rf 2 (0)), some (rf 16 (0)), some (.inl (c1)), some (.inl (u3)), some (rf 6 ((u3).toNatClampNeg + 1)), some (.inl (Int32.ofInt 1))] [.inl (m_i τ 6 ((u3).toNatClampNeg + 1) 9), rf 6 ((u3).toNatClampNeg + 1)] τ (.inl none, σ') := h
          replace h := ei_c h rfl rfl rfl
          rcases h with ⟨hp31, f, g, h⟩ | ⟨hp31, f, g, h⟩
          · skip
            replace hp31 : (m_i τ 6 ((u3).toNatClampNeg + 1) 9).toInt ≠ (0 : Int) := ic_ne.mp hp31
            refine Or.inl ⟨hp31, ?_⟩
            replace hf := Nat.lt_trans g hf
            clear g
            replace h : EV F f 42 z42 92 [some (rf 2 (0)), some (rf 16 (0)), some (.inl (c1)), some (.inl (u3)), some (rf 6 ((u3).toNatClampNeg + 1)), some (.inl (Int32.ofInt 1))] [rf 6 ((u3).toNatClampNeg + 1)] τ (.inl none, σ') := h
            replace h := ei_p h rfl rfl rfl rfl
            obtain ⟨f, g, h⟩ := h
            replace hf := Nat.lt_trans g hf
            clear g
            replace h : EV F f 42 z42 93 [some (rf 2 (0)), some (rf 16 (0)), some (.inl (c1)), some (.inl (u3)), some (rf 6 ((u3).toNatClampNeg + 1)), some (.inl (Int32.ofInt 1))] [.inl (Int32.ofInt 0), rf 6 ((u3).toNatClampNeg + 1)] τ (.inl none, σ') := h
            replace h := ei_put h rfl
            obtain ⟨ht32, f, g, h⟩ := h
            replace hf := Nat.lt_trans g hf
            clear g
            obtain ⟨σ33, e34⟩ : ∃ s, s = m_set τ 6 ((u3).toNatClampNeg + 1) (7) (.inl (Int32.ofInt 0)) := ⟨_, rfl⟩
            rw [← e34] at h
            have hsσ33 : HS σ33 := by rw [e34]; exact HS_set hsτ rfl
            refine ⟨σ33, e34, ?_⟩
            replace h : EV F f 42 z42 96 [some (rf 2 (0)), some (rf 16 (0)), some (.inl (c1)), some (.inl (u3)), some (rf 6 ((u3).toNatClampNeg + 1)), some (.inl (Int32.ofInt 1))] [] σ33 (.inl none, σ') := h
            replace h := ei_p h rfl rfl rfl rfl
            obtain ⟨f, g, h⟩ := h
            replace hf := Nat.lt_trans g hf
            clear g
            replace h : EV F f 42 z42 99 [some (rf 2 (0)), some (rf 16 (0)), some (.inl (c1)), some (.inl ((u3) + Int32.ofInt 1)), some (rf 6 ((u3).toNatClampNeg + 1)), some (.inl (Int32.ofInt 1))] [] σ33 (.inl none, σ') := h
            replace h := ei_p h rfl rfl rfl rfl
            obtain ⟨f, g, h⟩ := h
            replace hf := Nat.lt_trans g hf
            clear g
            replace h : EV F f 42 z42 10 [some (rf 2 (0)), some (rf 16 (0)), some (.inl (c1)), some (.inl ((u3) + Int32.ofInt 1)), some (rf 6 ((u3).toNatClampNeg + 1)), some (.inl (Int32.ofInt 1))] [] σ33 (.inl none, σ') := h
            exact IH f hf ((u3) + Int32.ofInt 1) (some (rf 6 ((u3).toNatClampNeg + 1))) (some (.inl (Int32.ofInt 1))) σ33 hsσ33 h
          · skip
            replace hp31 : ¬ ((m_i τ 6 ((u3).toNatClampNeg + 1) 9).toInt ≠ (0 : Int)) := (not_congr ic_ne).mp hp31
            refine Or.inr ⟨hp31, ?_⟩
            replace hf := Nat.lt_trans g hf
            clear g
            replace h : EV F f 42 z42 83 [some (rf 2 (0)), some (rf 16 (0)), some (.inl (c1)), some (.inl (u3)), some (rf 6 ((u3).toNatClampNeg + 1)), some (.inl (Int32.ofInt 1))] [rf 6 ((u3).toNatClampNeg + 1)] τ (.inl none, σ') := h
            replace h := ei_p h rfl rfl rfl rfl
            obtain ⟨f, g, h⟩ := h
            replace hf := Nat.lt_trans g hf
            clear g
            replace h : EV F f 42 z42 85 [some (rf 2 (0)), some (rf 16 (0)), some (.inl (c1)), some (.inl (u3)), some (rf 6 ((u3).toNatClampNeg + 1)), some (.inl (Int32.ofInt 1))] [.inl (Int32.ofInt 1), rf 6 ((u3).toNatClampNeg + 1)] τ (.inl none, σ') := h
            replace h := ei_c h rfl rfl rfl
            rcases h with ⟨hp35, f, g, h⟩ | ⟨hp35, f, g, h⟩
            · exact absurd (ic_eq.mp hp35) (by decide)
            · skip
              replace hf := Nat.lt_trans g hf
              clear g
              replace h : EV F f 42 z42 88 [some (rf 2 (0)), some (rf 16 (0)), some (.inl (c1)), some (.inl (u3)), some (rf 6 ((u3).toNatClampNeg + 1)), some (.inl (Int32.ofInt 1))] [rf 6 ((u3).toNatClampNeg + 1)] τ (.inl none, σ') := h
              replace h := ei_p h rfl rfl rfl rfl
              obtain ⟨f, g, h⟩ := h
              replace hf := Nat.lt_trans g hf
              clear g
              replace h : EV F f 42 z42 89 [some (rf 2 (0)), some (rf 16 (0)), some (.inl (c1)), some (.inl (u3)), some (rf 6 ((u3).toNatClampNeg + 1)), some (.inl (Int32.ofInt 1))] [.inl (Int32.ofInt 1), rf 6 ((u3).toNatClampNeg + 1)] τ (.inl none, σ') := h
              replace h := ei_p h rfl rfl rfl rfl
              obtain ⟨f, g, h⟩ := h
              replace hf := Nat.lt_trans g hf
              clear g
              replace h : EV F f 42 z42 93 [some (rf 2 (0)), some (rf 16 (0)), some (.inl (c1)), some (.inl (u3)), some (rf 6 ((u3).toNatClampNeg + 1)), some (.inl (Int32.ofInt 1))] [.inl (Int32.ofInt 1), rf 6 ((u3).toNatClampNeg + 1)] τ (.inl none, σ') := h
              replace h := ei_put h rfl
              obtain ⟨ht36, f, g, h⟩ := h
              replace hf := Nat.lt_trans g hf
              clear g
              obtain ⟨σ37, e38⟩ : ∃ s, s = m_set τ 6 ((u3).toNatClampNeg + 1) (7) (.inl (Int32.ofInt 1)) := ⟨_, rfl⟩
              rw [← e38] at h
              have hsσ37 : HS σ37 := by rw [e38]; exact HS_set hsτ rfl
              refine ⟨σ37, e38, ?_⟩
              replace h : EV F f 42 z42 96 [some (rf 2 (0)), some (rf 16 (0)), some (.inl (c1)), some (.inl (u3)), some (rf 6 ((u3).toNatClampNeg + 1)), some (.inl (Int32.ofInt 1))] [] σ37 (.inl none, σ') := h
              replace h := ei_p h rfl rfl rfl rfl
              obtain ⟨f, g, h⟩ := h
              replace hf := Nat.lt_trans g hf
              clear g
              replace h : EV F f 42 z42 99 [some (rf 2 (0)), some (rf 16 (0)), some (.inl (c1)), some (.inl ((u3) + Int32.ofInt 1)), some (rf 6 ((u3).toNatClampNeg + 1)), some (.inl (Int32.ofInt 1))] [] σ37 (.inl none, σ') := h
              replace h := ei_p h rfl rfl rfl rfl
              obtain ⟨f, g, h⟩ := h
              replace hf := Nat.lt_trans g hf
              clear g
              replace h : EV F f 42 z42 10 [some (rf 2 (0)), some (rf 16 (0)), some (.inl (c1)), some (.inl ((u3) + Int32.ofInt 1)), some (rf 6 ((u3).toNatClampNeg + 1)), some (.inl (Int32.ofInt 1))] [] σ37 (.inl none, σ') := h
              exact IH f hf ((u3) + Int32.ofInt 1) (some (rf 6 ((u3).toNatClampNeg + 1))) (some (.inl (Int32.ofInt 1))) σ37 hsσ37 h
        · skip
          replace hp30 : ¬ ((m_i τ 6 ((u3).toNatClampNeg + 1) 9).toInt ≠ (0 : Int)) := (not_congr ic_ne).mp hp30
          refine Or.inr ⟨hp30, ?_⟩
          replace hf := Nat.lt_trans g hf
          clear g
          replace h : EV F f 42 z42 51 [some (rf 2 (0)), some (rf 16 (0)), some (.inl (c1)), some (.inl (u3)), some (rf 6 ((u3).toNatClampNeg + 1)), some (.inl (Int32.ofInt 1))] [] τ (.inl none, σ') := h
          replace h := ei_p h rfl rfl rfl rfl
          obtain ⟨f, g, h⟩ := h
          replace hf := Nat.lt_trans g hf
          clear g
          replace h : EV F f 42 z42 53 [some (rf 2 (0)), some (rf 16 (0)), some (.inl (c1)), some (.inl (u3)), some (rf 6 ((u3).toNatClampNeg + 1)), some (.inl (Int32.ofInt 1))] [.inl (Int32.ofInt 1)] τ (.inl none, σ') := h
          replace h := ei_c h rfl rfl rfl
          rcases h with ⟨hp39, f, g, h⟩ | ⟨hp39, f, g, h⟩
          · exact absurd (ic_eq.mp hp39) (by decide)
          · skip
            replace hf := Nat.lt_trans g hf
            clear g
            replace h : EV F f 42 z42 56 [some (rf 2 (0)), some (rf 16 (0)), some (.inl (c1)), some (.inl (u3)), some (rf 6 ((u3).toNatClampNeg + 1)), some (.inl (Int32.ofInt 1))] [] τ (.inl none, σ') := h
            replace h := ei_p h rfl rfl rfl rfl
            obtain ⟨f, g, h⟩ := h
            replace hf := Nat.lt_trans g hf
            clear g
            replace h : EV F f 42 z42 58 [some (rf 2 (0)), some (rf 16 (0)), some (.inl (c1)), some (.inl (u3)), some (rf 6 ((u3).toNatClampNeg + 1)), some (.inl (Int32.ofInt 1))] [rf 6 ((u3).toNatClampNeg + 1)] τ (.inl none, σ') := h
            replace h := ei_get h rfl rfl
            obtain ⟨f, g, h⟩ := h
            replace hf := Nat.lt_trans g hf
            clear g
            replace h : EV F f 42 z42 61 [some (rf 2 (0)), some (rf 16 (0)), some (.inl (c1)), some (.inl (u3)), some (rf 6 ((u3).toNatClampNeg + 1)), some (.inl (Int32.ofInt 1))] [.inl (m_i τ 6 ((u3).toNatClampNeg + 1) 7)] τ (.inl none, σ') := h
            replace h := ei_c h rfl rfl rfl
            rcases h with ⟨hp40, f, g, h⟩ | ⟨hp40, f, g, h⟩
            · skip
              replace hp40 : (m_i τ 6 ((u3).toNatClampNeg + 1) 7).toInt ≠ (0 : Int) := ic_ne.mp hp40
              refine Or.inl ⟨hp40, ?_⟩
              replace hf := Nat.lt_trans g hf
              clear g
              replace h : EV F f 42 z42 73 [some (rf 2 (0)), some (rf 16 (0)), some (.inl (c1)), some (.inl (u3)), some (rf 6 ((u3).toNatClampNeg + 1)), some (.inl (Int32.ofInt 1))] [] τ (.inl none, σ') := h
              replace h := ei_p h rfl rfl rfl rfl
              obtain ⟨f, g, h⟩ := h
              replace hf := Nat.lt_trans g hf
              clear g
              replace h : EV F f 42 z42 75 [some (rf 2 (0)), some (rf 16 (0)), some (.inl (c1)), some (.inl (u3)), some (rf 6 ((u3).toNatClampNeg + 1)), some (.inl (Int32.ofInt 1))] [rf 6 ((u3).toNatClampNeg + 1)] τ (.inl none, σ') := h
              replace h := ei_p h rfl rfl rfl rfl
              obtain ⟨f, g, h⟩ := h
              replace hf := Nat.lt_trans g hf
              clear g
              replace h : EV F f 42 z42 77 [some (rf 2 (0)), some (rf 16 (0)), some (.inl (c1)), some (.inl (u3)), some (rf 6 ((u3).toNatClampNeg + 1)), some (.inl (Int32.ofInt 1))] [rf 6 ((u3).toNatClampNeg + 1), rf 6 ((u3).toNatClampNeg + 1)] τ (.inl none, σ') := h
              replace h := ei_get h rfl rfl
              obtain ⟨f, g, h⟩ := h
              replace hf := Nat.lt_trans g hf
              clear g
              replace h : EV F f 42 z42 80 [some (rf 2 (0)), some (rf 16 (0)), some (.inl (c1)), some (.inl (u3)), some (rf 6 ((u3).toNatClampNeg + 1)), some (.inl (Int32.ofInt 1))] [.inl (m_i τ 6 ((u3).toNatClampNeg + 1) 9), rf 6 ((u3).toNatClampNeg + 1)] τ (.inl none, σ') := h
              replace h := ei_c h rfl rfl rfl
              rcases h with ⟨hp41, f, g, h⟩ | ⟨hp41, f, g, h⟩
              · skip
                replace hp41 : (m_i τ 6 ((u3).toNatClampNeg + 1) 9).toInt ≠ (0 : Int) := ic_ne.mp hp41
                refine Or.inl ⟨hp41, ?_⟩
                replace hf := Nat.lt_trans g hf
                clear g
                replace h : EV F f 42 z42 92 [some (rf 2 (0)), some (rf 16 (0)), some (.inl (c1)), some (.inl (u3)), some (rf 6 ((u3).toNatClampNeg + 1)), some (.inl (Int32.ofInt 1))] [rf 6 ((u3).toNatClampNeg + 1)] τ (.inl none, σ') := h
                replace h := ei_p h rfl rfl rfl rfl
                obtain ⟨f, g, h⟩ := h
                replace hf := Nat.lt_trans g hf
                clear g
                replace h : EV F f 42 z42 93 [some (rf 2 (0)), some (rf 16 (0)), some (.inl (c1)), some (.inl (u3)), some (rf 6 ((u3).toNatClampNeg + 1)), some (.inl (Int32.ofInt 1))] [.inl (Int32.ofInt 0), rf 6 ((u3).toNatClampNeg + 1)] τ (.inl none, σ') := h
                replace h := ei_put h rfl
                obtain ⟨ht42, f, g, h⟩ := h
                replace hf := Nat.lt_trans g hf
                clear g
                obtain ⟨σ43, e44⟩ : ∃ s, s = m_set τ 6 ((u3).toNatClampNeg + 1) (7) (.inl (Int32.ofInt 0)) := ⟨_, rfl⟩
                rw [← e44] at h
                have hsσ43 : HS σ43 := by rw [e44]; exact HS_set hsτ rfl
                refine ⟨σ43, e44, ?_⟩
                replace h : EV F f 42 z42 96 [some (rf 2 (0)), some (rf 16 (0)), some (.inl (c1)), some (.inl (u3)), some (rf 6 ((u3).toNatClampNeg + 1)), some (.inl (Int32.ofInt 1))] [] σ43 (.inl none, σ') := h
                replace h := ei_p h rfl rfl rfl rfl
                obtain ⟨f, g, h⟩ := h
                replace hf := Nat.lt_trans g hf
                clear g
                replace h : EV F f 42 z42 99 [some (rf 2 (0)), some (rf 16 (0)), some (.inl (c1)), some (.inl ((u3) + Int32.ofInt 1)), some (rf 6 ((u3).toNatClampNeg + 1)), some (.inl (Int32.ofInt 1))] [] σ43 (.inl none, σ') := h
                replace h := ei_p h rfl rfl rfl rfl
                obtain ⟨f, g, h⟩ := h
                replace hf := Nat.lt_trans g hf
                clear g
                replace h : EV F f 42 z42 10 [some (rf 2 (0)), some (rf 16 (0)), some (.inl (c1)), some (.inl ((u3) + Int32.ofInt 1)), some (rf 6 ((u3).toNatClampNeg + 1)), some (.inl (Int32.ofInt 1))] [] σ43 (.inl none, σ') := h
                exact IH f hf ((u3) + Int32.ofInt 1) (some (rf 6 ((u3).toNatClampNeg + 1))) (some (.inl (Int32.ofInt 1))) σ43 hsσ43 h
              · skip
                replace hp41 : ¬ ((m_i τ 6 ((u3).toNatClampNeg + 1) 9).toInt ≠ (0 : Int)) := (not_congr ic_ne).mp hp41
                refine Or.inr ⟨hp41, ?_⟩
                replace hf := Nat.lt_trans g hf
                clear g
                replace h : EV F f 42 z42 83 [some (rf 2 (0)), some (rf 16 (0)), some (.inl (c1)), some (.inl (u3)), some (rf 6 ((u3).toNatClampNeg + 1)), some (.inl (Int32.ofInt 1))] [rf 6 ((u3).toNatClampNeg + 1)] τ (.inl none, σ') := h
                replace h := ei_p h rfl rfl rfl rfl
                obtain ⟨f, g, h⟩ := h
                replace hf := Nat.lt_trans g hf
                clear g
                replace h : EV F f 42 z42 85 [some (rf 2 (0)), some (rf 16 (0)), some (.inl (c1)), some (.inl (u3)), some (rf 6 ((u3).toNatClampNeg + 1)), some (.inl (Int32.ofInt 1))] [.inl (Int32.ofInt 1), rf 6 ((u3).toNatClampNeg + 1)] τ (.inl none, σ') := h
                replace h := ei_c h rfl rfl rfl
                rcases h with ⟨hp45, f, g, h⟩ | ⟨hp45, f, g, h⟩
                · exact absurd (ic_eq.mp hp45) (by decide)
                · skip
                  replace hf := Nat.lt_trans g hf
                  clear g
                  replace h : EV F f 42 z42 88 [some (rf 2 (0)), some (rf 16 (0)), some (.inl (c1)), some (.inl (u3)), some (rf 6 ((u3).toNatClampNeg + 1)), some (.inl (Int32.ofInt 1))] [rf 6 ((u3).toNatClampNeg + 1)] τ (.inl none, σ') := h
                  replace h := ei_p h rfl rfl rfl rfl
                  obtain ⟨f, g, h⟩ := h
                  replace hf := Nat.lt_trans g hf
                  clear g
                  replace h : EV F f 42 z42 89 [some (rf 2 (0)), some (rf 16 (0)), some (.inl (c1)), some (.inl (u3)), some (rf 6 ((u3).toNatClampNeg + 1)), some (.inl (Int32.ofInt 1))] [.inl (Int32.ofInt 1), rf 6 ((u3).toNatClampNeg + 1)] τ (.inl none, σ') := h
                  replace h := ei_p h rfl rfl rfl rfl
                  obtain ⟨f, g, h⟩ := h
                  replace hf := Nat.lt_trans g hf
                  clear g
                  replace h : EV F f 42 z42 93 [some (rf 2 (0)), some (rf 16 (0)), some (.inl (c1)), some (.inl (u3)), some (rf 6 ((u3).toNatClampNeg + 1)), some (.inl (Int32.ofInt 1))] [.inl (Int32.ofInt 1), rf 6 ((u3).toNatClampNeg + 1)] τ (.inl none, σ') := h
                  replace h := ei_put h rfl
                  obtain ⟨ht46, f, g, h⟩ := h
                  replace hf := Nat.lt_trans g hf
                  clear g
                  obtain ⟨σ47, e48⟩ : ∃ s, s = m_set τ 6 ((u3).toNatClampNeg + 1) (7) (.inl (Int32.ofInt 1)) := ⟨_, rfl⟩
                  rw [← e48] at h
                  have hsσ47 : HS σ47 := by rw [e48]; exact HS_set hsτ rfl
                  refine ⟨σ47, e48, ?_⟩
                  replace h : EV F f 42 z42 96 [some (rf 2 (0)), some (rf 16 (0)), some (.inl (c1)), some (.inl (u3)), some (rf 6 ((u3).toNatClampNeg + 1)), some (.inl (Int32.ofInt 1))] [] σ47 (.inl none, σ') := h
                  replace h := ei_p h rfl rfl rfl rfl
                  obtain ⟨f, g, h⟩ := h
                  replace hf := Nat.lt_trans g hf
                  clear g
                  replace h : EV F f 42 z42 99 [some (rf 2 (0)), some (rf 16 (0)), some (.inl (c1)), some (.inl ((u3) + Int32.ofInt 1)), some (rf 6 ((u3).toNatClampNeg + 1)), some (.inl (Int32.ofInt 1))] [] σ47 (.inl none, σ') := h
                  replace h := ei_p h rfl rfl rfl rfl
                  obtain ⟨f, g, h⟩ := h
                  replace hf := Nat.lt_trans g hf
                  clear g
                  replace h : EV F f 42 z42 10 [some (rf 2 (0)), some (rf 16 (0)), some (.inl (c1)), some (.inl ((u3) + Int32.ofInt 1)), some (rf 6 ((u3).toNatClampNeg + 1)), some (.inl (Int32.ofInt 1))] [] σ47 (.inl none, σ') := h
                  exact IH f hf ((u3) + Int32.ofInt 1) (some (rf 6 ((u3).toNatClampNeg + 1))) (some (.inl (Int32.ofInt 1))) σ47 hsσ47 h
            · skip
              replace hp40 : ¬ ((m_i τ 6 ((u3).toNatClampNeg + 1) 7).toInt ≠ (0 : Int)) := (not_congr ic_ne).mp hp40
              refine Or.inr ⟨hp40, ?_⟩
              replace hf := Nat.lt_trans g hf
              clear g
              replace h : EV F f 42 z42 64 [some (rf 2 (0)), some (rf 16 (0)), some (.inl (c1)), some (.inl (u3)), some (rf 6 ((u3).toNatClampNeg + 1)), some (.inl (Int32.ofInt 1))] [] τ (.inl none, σ') := h
              replace h := ei_p h rfl rfl rfl rfl
              obtain ⟨f, g, h⟩ := h
              replace hf := Nat.lt_trans g hf
              clear g
              replace h : EV F f 42 z42 66 [some (rf 2 (0)), some (rf 16 (0)), some (.inl (c1)), some (.inl (u3)), some (rf 6 ((u3).toNatClampNeg + 1)), some (.inl (Int32.ofInt 1))] [rf 6 ((u3).toNatClampNeg + 1)] τ (.inl none, σ') := h
              replace h := ei_p h rfl rfl rfl rfl
              obtain ⟨f, g, h⟩ := h
              replace hf := Nat.lt_trans g hf
              clear g
              replace h : EV F f 42 z42 67 [some (rf 2 (0)), some (rf 16 (0)), some (.inl (c1)), some (.inl (u3)), some (rf 6 ((u3).toNatClampNeg + 1)), some (.inl (Int32.ofInt 1))] [rf 2 (0), rf 6 ((u3).toNatClampNeg + 1)] τ (.inl none, σ') := h
              replace h := ei_get h rfl rfl
              obtain ⟨f, g, h⟩ := h
              replace hf := Nat.lt_trans g hf
              clear g
              replace h : EV F f 42 z42 70 [some (rf 2 (0)), some (rf 16 (0)), some (.inl (c1)), some (.inl (u3)), some (rf 6 ((u3).toNatClampNeg + 1)), some (.inl (Int32.ofInt 1))] [.inl (m_i τ 2 (0) 7), rf 6 ((u3).toNatClampNeg + 1)] τ (.inl none, σ') := h
              replace h := ei_put h rfl
              obtain ⟨ht49, f, g, h⟩ := h
              replace hf := Nat.lt_trans g hf
              clear g
              obtain ⟨σ50, e51⟩ : ∃ s, s = m_set τ 6 ((u3).toNatClampNeg + 1) (8) (.inl (m_i τ 2 (0) 7)) := ⟨_, rfl⟩
              rw [← e51] at h
              have hsσ50 : HS σ50 := by rw [e51]; exact HS_set hsτ rfl
              refine ⟨σ50, e51, ?_⟩
              replace h : EV F f 42 z42 73 [some (rf 2 (0)), some (rf 16 (0)), some (.inl (c1)), some (.inl (u3)), some (rf 6 ((u3).toNatClampNeg + 1)), some (.inl (Int32.ofInt 1))] [] σ50 (.inl none, σ') := h
              replace h := ei_p h rfl rfl rfl rfl
              obtain ⟨f, g, h⟩ := h
              replace hf := Nat.lt_trans g hf
              clear g
              replace h : EV F f 42 z42 75 [some (rf 2 (0)), some (rf 16 (0)), some (.inl (c1)), some (.inl (u3)), some (rf 6 ((u3).toNatClampNeg + 1)), some (.inl (Int32.ofInt 1))] [rf 6 ((u3).toNatClampNeg + 1)] σ50 (.inl none, σ') := h
              replace h := ei_p h rfl rfl rfl rfl
              obtain ⟨f, g, h⟩ := h
              replace hf := Nat.lt_trans g hf
              clear g
              replace h : EV F f 42 z42 77 [some (rf 2 (0)), some (rf 16 (0)), some (.inl (c1)), some (.inl (u3)), some (rf 6 ((u3).toNatClampNeg + 1)), some (.inl (Int32.ofInt 1))] [rf 6 ((u3).toNatClampNeg + 1), rf 6 ((u3).toNatClampNeg + 1)] σ50 (.inl none, σ') := h
              replace h := ei_get h rfl rfl
              obtain ⟨f, g, h⟩ := h
              replace hf := Nat.lt_trans g hf
              clear g
              replace h : EV F f 42 z42 80 [some (rf 2 (0)), some (rf 16 (0)), some (.inl (c1)), some (.inl (u3)), some (rf 6 ((u3).toNatClampNeg + 1)), some (.inl (Int32.ofInt 1))] [.inl (m_i σ50 6 ((u3).toNatClampNeg + 1) 9), rf 6 ((u3).toNatClampNeg + 1)] σ50 (.inl none, σ') := h
              replace h := ei_c h rfl rfl rfl
              rcases h with ⟨hp52, f, g, h⟩ | ⟨hp52, f, g, h⟩
              · skip
                replace hp52 : (m_i σ50 6 ((u3).toNatClampNeg + 1) 9).toInt ≠ (0 : Int) := ic_ne.mp hp52
                refine Or.inl ⟨hp52, ?_⟩
                replace hf := Nat.lt_trans g hf
                clear g
                replace h : EV F f 42 z42 92 [some (rf 2 (0)), some (rf 16 (0)), some (.inl (c1)), some (.inl (u3)), some (rf 6 ((u3).toNatClampNeg + 1)), some (.inl (Int32.ofInt 1))] [rf 6 ((u3).toNatClampNeg + 1)] σ50 (.inl none, σ') := h
                replace h := ei_p h rfl rfl rfl rfl
                obtain ⟨f, g, h⟩ := h
                replace hf := Nat.lt_trans g hf
                clear g
                replace h : EV F f 42 z42 93 [some (rf 2 (0)), some (rf 16 (0)), some (.inl (c1)), some (.inl (u3)), some (rf 6 ((u3).toNatClampNeg + 1)), some (.inl (Int32.ofInt 1))] [.inl (Int32.ofInt 0), rf 6 ((u3).toNatClampNeg + 1)] σ50 (.inl none, σ') := h
                replace h := ei_put h rfl
                obtain ⟨ht53, f, g, h⟩ := h
                replace hf := Nat.lt_trans g hf
                clear g
                obtain ⟨σ54, e55⟩ : ∃ s, s = m_set σ50 6 ((u3).toNatClampNeg + 1) (7) (.inl (Int32.ofInt 0)) := ⟨_, rfl⟩
                rw [← e55] at h
                have hsσ54 : HS σ54 := by rw [e55]; exact HS_set hsσ50 rfl
                refine ⟨σ54, e55, ?_⟩
                replace h : EV F f 42 z42 96 [some (rf 2 (0)), some (rf 16 (0)), some (.inl (c1)), some (.inl (u3)), some (rf 6 ((u3).toNatClampNeg + 1)), some (.inl (Int32.ofInt 1))] [] σ54 (.inl none, σ') := h
                replace h := ei_p h rfl rfl rfl rfl
                obtain ⟨f, g, h⟩ := h
                replace hf := Nat.lt_trans g hf
                clear g
                replace h : EV F f 42 z42 99 [some (rf 2 (0)), some (rf 16 (0)), some (.inl (c1)), some (.inl ((u3) + Int32.ofInt 1)), some (rf 6 ((u3).toNatClampNeg + 1)), some (.inl (Int32.ofInt 1))] [] σ54 (.inl none, σ') := h
                replace h := ei_p h rfl rfl rfl rfl
                obtain ⟨f, g, h⟩ := h
                replace hf := Nat.lt_trans g hf
                clear g
                replace h : EV F f 42 z42 10 [some (rf 2 (0)), some (rf 16 (0)), some (.inl (c1)), some (.inl ((u3) + Int32.ofInt 1)), some (rf 6 ((u3).toNatClampNeg + 1)), some (.inl (Int32.ofInt 1))] [] σ54 (.inl none, σ') := h
                exact IH f hf ((u3) + Int32.ofInt 1) (some (rf 6 ((u3).toNatClampNeg + 1))) (some (.inl (Int32.ofInt 1))) σ54 hsσ54 h
              · skip
                replace hp52 : ¬ ((m_i σ50 6 ((u3).toNatClampNeg + 1) 9).toInt ≠ (0 : Int)) := (not_congr ic_ne).mp hp52
                refine Or.inr ⟨hp52, ?_⟩
                replace hf := Nat.lt_trans g hf
                clear g
                replace h : EV F f 42 z42 83 [some (rf 2 (0)), some (rf 16 (0)), some (.inl (c1)), some (.inl (u3)), some (rf 6 ((u3).toNatClampNeg + 1)), some (.inl (Int32.ofInt 1))] [rf 6 ((u3).toNatClampNeg + 1)] σ50 (.inl none, σ') := h
                replace h := ei_p h rfl rfl rfl rfl
                obtain ⟨f, g, h⟩ := h
                replace hf := Nat.lt_trans g hf
                clear g
                replace h : EV F f 42 z42 85 [some (rf 2 (0)), some (rf 16 (0)), some (.inl (c1)), some (.inl (u3)), some (rf 6 ((u3).toNatClampNeg + 1)), some (.inl (Int32.ofInt 1))] [.inl (Int32.ofInt 1), rf 6 ((u3).toNatClampNeg + 1)] σ50 (.inl none, σ') := h
                replace h := ei_c h rfl rfl rfl
                rcases h with ⟨hp56, f, g, h⟩ | ⟨hp56, f, g, h⟩
                · exact absurd (ic_eq.mp hp56) (by decide)
                · skip
                  replace hf := Nat.lt_trans g hf
                  clear g
                  replace h : EV F f 42 z42 88 [some (rf 2 (0)), some (rf 16 (0)), some (.inl (c1)), some (.inl (u3)), some (rf 6 ((u3).toNatClampNeg + 1)), some (.inl (Int32.ofInt 1))] [rf 6 ((u3).toNatClampNeg + 1)] σ50 (.inl none, σ') := h
                  replace h := ei_p h rfl rfl rfl rfl
                  obtain ⟨f, g, h⟩ := h
                  replace hf := Nat.lt_trans g hf
                  clear g
                  replace h : EV F f 42 z42 89 [some (rf 2 (0)), some (rf 16 (0)), some (.inl (c1)), some (.inl (u3)), some (rf 6 ((u3).toNatClampNeg + 1)), some (.inl (Int32.ofInt 1))] [.inl (Int32.ofInt 1), rf 6 ((u3).toNatClampNeg + 1)] σ50 (.inl none, σ') := h
                  replace h := ei_p h rfl rfl rfl rfl
                  obtain ⟨f, g, h⟩ := h
                  replace hf := Nat.lt_trans g hf
                  clear g
                  replace h : EV F f 42 z42 93 [some (rf 2 (0)), some (rf 16 (0)), some (.inl (c1)), some (.inl (u3)), some (rf 6 ((u3).toNatClampNeg + 1)), some (.inl (Int32.ofInt 1))] [.inl (Int32.ofInt 1), rf 6 ((u3).toNatClampNeg + 1)] σ50 (.inl none, σ') := h
                  replace h := ei_put h rfl
                  obtain ⟨ht57, f, g, h⟩ := h
                  replace hf := Nat.lt_trans g hf
                  clear g
                  obtain ⟨σ58, e59⟩ : ∃ s, s = m_set σ50 6 ((u3).toNatClampNeg + 1) (7) (.inl (Int32.ofInt 1)) := ⟨_, rfl⟩
                  rw [← e59] at h
                  have hsσ58 : HS σ58 := by rw [e59]; exact HS_set hsσ50 rfl
                  refine ⟨σ58, e59, ?_⟩
                  replace h : EV F f 42 z42 96 [some (rf 2 (0)), some (rf 16 (0)), some (.inl (c1)), some (.inl (u3)), some (rf 6 ((u3).toNatClampNeg + 1)), some (.inl (Int32.ofInt 1))] [] σ58 (.inl none, σ') := h
                  replace h := ei_p h rfl rfl rfl rfl
                  obtain ⟨f, g, h⟩ := h
                  replace hf := Nat.lt_trans g hf
                  clear g
                  replace h : EV F f 42 z42 99 [some (rf 2 (0)), some (rf 16 (0)), some (.inl (c1)), some (.inl ((u3) + Int32.ofInt 1)), some (rf 6 ((u3).toNatClampNeg + 1)), some (.inl (Int32.ofInt 1))] [] σ58 (.inl none, σ') := h
                  replace h := ei_p h rfl rfl rfl rfl
                  obtain ⟨f, g, h⟩ := h
                  replace hf := Nat.lt_trans g hf
                  clear g
                  replace h : EV F f 42 z42 10 [some (rf 2 (0)), some (rf 16 (0)), some (.inl (c1)), some (.inl ((u3) + Int32.ofInt 1)), some (rf 6 ((u3).toNatClampNeg + 1)), some (.inl (Int32.ofInt 1))] [] σ58 (.inl none, σ') := h
                  exact IH f hf ((u3) + Int32.ofInt 1) (some (rf 6 ((u3).toNatClampNeg + 1))) (some (.inl (Int32.ofInt 1))) σ58 hsσ58 h
def P42 (σ : mS) (σ' : mS) : Prop := ∃ n, Q42_10 (Int32.ofInt 5) n (Int32.ofInt 0) σ σ'
theorem x42 {σ σ' : mS} (hs : HS σ) (h : ev_run sm_all 42 [rf 2 (0)] σ (.inl none) σ') : P42 σ σ' := by
  unfold P42
  obtain ⟨F, f, h⟩ := ei_go h z42_at
  replace h : EV F f 42 z42 0 [some (rf 2 (0)), none, none, none, none, none] [] σ (.inl none, σ') := h
  replace h := ei_p h rfl rfl rfl rfl
  obtain ⟨f, g, h⟩ := h
  clear g
  replace h : EV F f 42 z42 1 [some (rf 2 (0)), none, none, none, none, none] [rf 2 (0)] σ (.inl none, σ') := h
  replace h := ei_get h rfl (HS_g2_0 hs)
  obtain ⟨f, g, h⟩ := h
  clear g
  replace h : EV F f 42 z42 4 [some (rf 2 (0)), none, none, none, none, none] [rf 16 (0)] σ (.inl none, σ') := h
  replace h := ei_p h rfl rfl rfl rfl
  obtain ⟨f, g, h⟩ := h
  clear g
  replace h : EV F f 42 z42 5 [some (rf 2 (0)), some (rf 16 (0)), none, none, none, none] [] σ (.inl none, σ') := h
  replace h := ei_p h rfl rfl rfl rfl
  obtain ⟨f, g, h⟩ := h
  clear g
  replace h : EV F f 42 z42 6 [some (rf 2 (0)), some (rf 16 (0)), none, none, none, none] [rf 16 (0)] σ (.inl none, σ') := h
  replace h := ei_len h rfl (HS_l16_0 hs) ⟨Nat.le_of_ble_eq_true rfl, Nat.le_of_ble_eq_true rfl⟩
  obtain ⟨f, g, h⟩ := h
  clear g
  replace h : EV F f 42 z42 7 [some (rf 2 (0)), some (rf 16 (0)), none, none, none, none] [.inl (Int32.ofInt 5)] σ (.inl none, σ') := h
  replace h := ei_p h rfl rfl rfl rfl
  obtain ⟨f, g, h⟩ := h
  clear g
  replace h : EV F f 42 z42 8 [some (rf 2 (0)), some (rf 16 (0)), some (.inl (Int32.ofInt 5)), none, none, none] [] σ (.inl none, σ') := h
  replace h := ei_p h rfl rfl rfl rfl
  obtain ⟨f, g, h⟩ := h
  clear g
  replace h : EV F f 42 z42 9 [some (rf 2 (0)), some (rf 16 (0)), some (.inl (Int32.ofInt 5)), none, none, none] [.inl (Int32.ofInt 0)] σ (.inl none, σ') := h
  replace h := ei_p h rfl rfl rfl rfl
  obtain ⟨f, g, h⟩ := h
  clear g
  replace h : EV F f 42 z42 10 [some (rf 2 (0)), some (rf 16 (0)), some (.inl (Int32.ofInt 5)), some (.inl (Int32.ofInt 0)), none, none] [] σ (.inl none, σ') := h
  exact ⟨f + 1, q42_10 (f + 1) f (Nat.lt_succ_self f) (Int32.ofInt 0) _ _ σ hs h⟩
def z43 : mAl := ((yX2_nextToFail, cX2_nextToFail, 5, (some (.object "NettingHall$Member")), { frames := 0, cells := 0, slots := 0, locals := 0 }, []), rw_X2_nextToFail, false)
theorem z43_at : m_alF[43]? = some z43 := rfl
abbrev B43_19 (σ : mS) (c1 : Int32) (ih : Int32 → mR → Prop) (u3 : Int32) (w : mR) : Prop := (((c1).toInt ≤ (u3).toInt ∧ w = none) ∨ (¬ ((c1).toInt ≤ (u3).toInt) ∧ (0 ≤ (u3).toInt ∧ (u3).toInt < 5) ∧ (((m_i σ 6 ((u3).toNatClampNeg + 1) 7).toInt = (0 : Int) ∧ ih ((u3) + Int32.ofInt 1) w) ∨ (¬ ((m_i σ 6 ((u3).toNatClampNeg + 1) 7).toInt = (0 : Int)) ∧ ((((m_i σ 2 (0) 7) - (m_i σ 6 ((u3).toNatClampNeg + 1) 8)).toInt < (3 : Int) ∧ ih ((u3) + Int32.ofInt 1) w) ∨ (¬ (((m_i σ 2 (0) 7) - (m_i σ 6 ((u3).toNatClampNeg + 1) 8)).toInt < (3 : Int)) ∧ w = (some (6, (u3).toNatClampNeg + 1))))))))
def Q43_19 (σ : mS) (c1 : Int32) : Nat → Int32 → mR → Prop
  | 0 => fun _ _ => False
  | n + 1 => B43_19 σ c1 (Q43_19 σ c1 n)
theorem q43_19 {F : Nat} {σ σ' : mS} {c1 : Int32} {w : mR} (hs : HS σ) : ∀ N f, f < N → ∀ (u3 : Int32) (y4 : Option mV), EV F f 43 z43 19 [some (rf 2 (0)), some (rf 16 (0)), some (.inl (c1)), some (.inl (u3)), y4] [] σ (.inl (some (.inr (.inr w))), σ') → Q43_19 σ c1 N u3 w := by
  intro N
  induction N with
  | zero => intro f hf; omega
  | succ N IH =>
    intro f hf0 u3 y4 h
    have hf : f < N + 1 := hf0
    clear hf0
    show B43_19 σ c1 (Q43_19 σ c1 N) u3 w
    replace h := ei_p h rfl rfl rfl rfl
    obtain ⟨f, g, h⟩ := h
    replace hf := Nat.lt_of_lt_of_le g (Nat.le_of_lt_succ hf)
    clear g
    replace h : EV F f 43 z43 20 [some (rf 2 (0)), some (rf 16 (0)), some (.inl (c1)), some (.inl (u3)), y4] [.inl (u3)] σ (.inl (some (.inr (.inr w))), σ') := h
    replace h := ei_p h rfl rfl rfl rfl
    obtain ⟨f, g, h⟩ := h
    replace hf := Nat.lt_trans g hf
    clear g
    replace h : EV F f 43 z43 21 [some (rf 2 (0)), some (rf 16 (0)), some (.inl (c1)), some (.inl (u3)), y4] [.inl (c1), .inl (u3)] σ (.inl (some (.inr (.inr w))), σ') := h
    replace h := ei_c h rfl rfl rfl
    rcases h with ⟨hp1, f, g, h⟩ | ⟨hp1, f, g, h⟩
    · skip
      replace hp1 : (c1).toInt ≤ (u3).toInt := ic_ge.mp hp1
      refine Or.inl ⟨hp1, ?_⟩
      replace hf := Nat.lt_trans g hf
      clear g
      replace h : EV F f 43 z43 60 [some (rf 2 (0)), some (rf 16 (0)), some (.inl (c1)), some (.inl (u3)), y4] [] σ (.inl (some (.inr (.inr w))), σ') := h
      replace h := ei_p h rfl rfl rfl rfl
      obtain ⟨f, g, h⟩ := h
      replace hf := Nat.lt_trans g hf
      clear g
      replace h : EV F f 43 z43 61 [some (rf 2 (0)), some (rf 16 (0)), some (.inl (c1)), some (.inl (u3)), y4] [.inr (.inr none)] σ (.inl (some (.inr (.inr w))), σ') := h
      have e := ei_aret h rfl
      cases e
      exact rfl
    · skip
      replace hp1 : ¬ ((c1).toInt ≤ (u3).toInt) := (not_congr ic_ge).mp hp1
      refine Or.inr ⟨hp1, ?_⟩
      replace hf := Nat.lt_trans g hf
      clear g
      replace h : EV F f 43 z43 24 [some (rf 2 (0)), some (rf 16 (0)), some (.inl (c1)), some (.inl (u3)), y4] [] σ (.inl (some (.inr (.inr w))), σ') := h
      replace h := ei_p h rfl rfl rfl rfl
      obtain ⟨f, g, h⟩ := h
      replace hf := Nat.lt_trans g hf
      clear g
      replace h : EV F f 43 z43 25 [some (rf 2 (0)), some (rf 16 (0)), some (.inl (c1)), some (.inl (u3)), y4] [rf 16 (0)] σ (.inl (some (.inr (.inr w))), σ') := h
      replace h := ei_p h rfl rfl rfl rfl
      obtain ⟨f, g, h⟩ := h
      replace hf := Nat.lt_trans g hf
      clear g
      replace h : EV F f 43 z43 26 [some (rf 2 (0)), some (rf 16 (0)), some (.inl (c1)), some (.inl (u3)), y4] [.inl (u3), rf 16 (0)] σ (.inl (some (.inr (.inr w))), σ') := h
      replace h := ei_ald h rfl (HS_a16 hs)
      obtain ⟨vp2, f, g, h⟩ := h
      replace hf := Nat.lt_trans g hf
      clear g
      replace h : EV F f 43 z43 27 [some (rf 2 (0)), some (rf 16 (0)), some (.inl (c1)), some (.inl (u3)), y4] [rf 6 ((u3).toNatClampNeg + 1)] σ (.inl (some (.inr (.inr w))), σ') := h
      refine ⟨HS_v16 hs vp2, ?_⟩
      replace h := ei_p h rfl rfl rfl rfl
      obtain ⟨f, g, h⟩ := h
      replace hf := Nat.lt_trans g hf
      clear g
      replace h : EV F f 43 z43 29 [some (rf 2 (0)), some (rf 16 (0)), some (.inl (c1)), some (.inl (u3)), some (rf 6 ((u3).toNatClampNeg + 1))] [] σ (.inl (some (.inr (.inr w))), σ') := h
      replace h := ei_p h rfl rfl rfl rfl
      obtain ⟨f, g, h⟩ := h
      replace hf := Nat.lt_trans g hf
      clear g
      replace h : EV F f 43 z43 31 [some (rf 2 (0)), some (rf 16 (0)), some (.inl (c1)), some (.inl (u3)), some (rf 6 ((u3).toNatClampNeg + 1))] [rf 6 ((u3).toNatClampNeg + 1)] σ (.inl (some (.inr (.inr w))), σ') := h
      replace h := ei_get h rfl rfl
      obtain ⟨f, g, h⟩ := h
      replace hf := Nat.lt_trans g hf
      clear g
      replace h : EV F f 43 z43 34 [some (rf 2 (0)), some (rf 16 (0)), some (.inl (c1)), some (.inl (u3)), some (rf 6 ((u3).toNatClampNeg + 1))] [.inl (m_i σ 6 ((u3).toNatClampNeg + 1) 7)] σ (.inl (some (.inr (.inr w))), σ') := h
      replace h := ei_c h rfl rfl rfl
      rcases h with ⟨hp3, f, g, h⟩ | ⟨hp3, f, g, h⟩
      · skip
        replace hp3 : (m_i σ 6 ((u3).toNatClampNeg + 1) 7).toInt = (0 : Int) := ic_eq.mp hp3
        refine Or.inl ⟨hp3, ?_⟩
        replace hf := Nat.lt_trans g hf
        clear g
        replace h : EV F f 43 z43 54 [some (rf 2 (0)), some (rf 16 (0)), some (.inl (c1)), some (.inl (u3)), some (rf 6 ((u3).toNatClampNeg + 1))] [] σ (.inl (some (.inr (.inr w))), σ') := h
        replace h := ei_p h rfl rfl rfl rfl
        obtain ⟨f, g, h⟩ := h
        replace hf := Nat.lt_trans g hf
        clear g
        replace h : EV F f 43 z43 57 [some (rf 2 (0)), some (rf 16 (0)), some (.inl (c1)), some (.inl ((u3) + Int32.ofInt 1)), some (rf 6 ((u3).toNatClampNeg + 1))] [] σ (.inl (some (.inr (.inr w))), σ') := h
        replace h := ei_p h rfl rfl rfl rfl
        obtain ⟨f, g, h⟩ := h
        replace hf := Nat.lt_trans g hf
        clear g
        replace h : EV F f 43 z43 19 [some (rf 2 (0)), some (rf 16 (0)), some (.inl (c1)), some (.inl ((u3) + Int32.ofInt 1)), some (rf 6 ((u3).toNatClampNeg + 1))] [] σ (.inl (some (.inr (.inr w))), σ') := h
        exact IH f hf ((u3) + Int32.ofInt 1) (some (rf 6 ((u3).toNatClampNeg + 1))) h
      · skip
        replace hp3 : ¬ ((m_i σ 6 ((u3).toNatClampNeg + 1) 7).toInt = (0 : Int)) := (not_congr ic_eq).mp hp3
        refine Or.inr ⟨hp3, ?_⟩
        replace hf := Nat.lt_trans g hf
        clear g
        replace h : EV F f 43 z43 37 [some (rf 2 (0)), some (rf 16 (0)), some (.inl (c1)), some (.inl (u3)), some (rf 6 ((u3).toNatClampNeg + 1))] [] σ (.inl (some (.inr (.inr w))), σ') := h
        replace h := ei_p h rfl rfl rfl rfl
        obtain ⟨f, g, h⟩ := h
        replace hf := Nat.lt_trans g hf
        clear g
        replace h : EV F f 43 z43 38 [some (rf 2 (0)), some (rf 16 (0)), some (.inl (c1)), some (.inl (u3)), some (rf 6 ((u3).toNatClampNeg + 1))] [rf 2 (0)] σ (.inl (some (.inr (.inr w))), σ') := h
        replace h := ei_get h rfl rfl
        obtain ⟨f, g, h⟩ := h
        replace hf := Nat.lt_trans g hf
        clear g
        replace h : EV F f 43 z43 41 [some (rf 2 (0)), some (rf 16 (0)), some (.inl (c1)), some (.inl (u3)), some (rf 6 ((u3).toNatClampNeg + 1))] [.inl (m_i σ 2 (0) 7)] σ (.inl (some (.inr (.inr w))), σ') := h
        replace h := ei_p h rfl rfl rfl rfl
        obtain ⟨f, g, h⟩ := h
        replace hf := Nat.lt_trans g hf
        clear g
        replace h : EV F f 43 z43 43 [some (rf 2 (0)), some (rf 16 (0)), some (.inl (c1)), some (.inl (u3)), some (rf 6 ((u3).toNatClampNeg + 1))] [rf 6 ((u3).toNatClampNeg + 1), .inl (m_i σ 2 (0) 7)] σ (.inl (some (.inr (.inr w))), σ') := h
        replace h := ei_get h rfl rfl
        obtain ⟨f, g, h⟩ := h
        replace hf := Nat.lt_trans g hf
        clear g
        replace h : EV F f 43 z43 46 [some (rf 2 (0)), some (rf 16 (0)), some (.inl (c1)), some (.inl (u3)), some (rf 6 ((u3).toNatClampNeg + 1))] [.inl (m_i σ 6 ((u3).toNatClampNeg + 1) 8), .inl (m_i σ 2 (0) 7)] σ (.inl (some (.inr (.inr w))), σ') := h
        replace h := ei_p h rfl rfl rfl rfl
        obtain ⟨f, g, h⟩ := h
        replace hf := Nat.lt_trans g hf
        clear g
        replace h : EV F f 43 z43 47 [some (rf 2 (0)), some (rf 16 (0)), some (.inl (c1)), some (.inl (u3)), some (rf 6 ((u3).toNatClampNeg + 1))] [.inl ((m_i σ 2 (0) 7) - (m_i σ 6 ((u3).toNatClampNeg + 1) 8))] σ (.inl (some (.inr (.inr w))), σ') := h
        replace h := ei_p h rfl rfl rfl rfl
        obtain ⟨f, g, h⟩ := h
        replace hf := Nat.lt_trans g hf
        clear g
        replace h : EV F f 43 z43 48 [some (rf 2 (0)), some (rf 16 (0)), some (.inl (c1)), some (.inl (u3)), some (rf 6 ((u3).toNatClampNeg + 1))] [.inl (Int32.ofInt 3), .inl ((m_i σ 2 (0) 7) - (m_i σ 6 ((u3).toNatClampNeg + 1) 8))] σ (.inl (some (.inr (.inr w))), σ') := h
        replace h := ei_c h rfl rfl rfl
        rcases h with ⟨hp4, f, g, h⟩ | ⟨hp4, f, g, h⟩
        · skip
          replace hp4 : ((m_i σ 2 (0) 7) - (m_i σ 6 ((u3).toNatClampNeg + 1) 8)).toInt < (3 : Int) := ic_lt.mp hp4
          refine Or.inl ⟨hp4, ?_⟩
          replace hf := Nat.lt_trans g hf
          clear g
          replace h : EV F f 43 z43 54 [some (rf 2 (0)), some (rf 16 (0)), some (.inl (c1)), some (.inl (u3)), some (rf 6 ((u3).toNatClampNeg + 1))] [] σ (.inl (some (.inr (.inr w))), σ') := h
          replace h := ei_p h rfl rfl rfl rfl
          obtain ⟨f, g, h⟩ := h
          replace hf := Nat.lt_trans g hf
          clear g
          replace h : EV F f 43 z43 57 [some (rf 2 (0)), some (rf 16 (0)), some (.inl (c1)), some (.inl ((u3) + Int32.ofInt 1)), some (rf 6 ((u3).toNatClampNeg + 1))] [] σ (.inl (some (.inr (.inr w))), σ') := h
          replace h := ei_p h rfl rfl rfl rfl
          obtain ⟨f, g, h⟩ := h
          replace hf := Nat.lt_trans g hf
          clear g
          replace h : EV F f 43 z43 19 [some (rf 2 (0)), some (rf 16 (0)), some (.inl (c1)), some (.inl ((u3) + Int32.ofInt 1)), some (rf 6 ((u3).toNatClampNeg + 1))] [] σ (.inl (some (.inr (.inr w))), σ') := h
          exact IH f hf ((u3) + Int32.ofInt 1) (some (rf 6 ((u3).toNatClampNeg + 1))) h
        · skip
          replace hp4 : ¬ (((m_i σ 2 (0) 7) - (m_i σ 6 ((u3).toNatClampNeg + 1) 8)).toInt < (3 : Int)) := (not_congr ic_lt).mp hp4
          refine Or.inr ⟨hp4, ?_⟩
          replace hf := Nat.lt_trans g hf
          clear g
          replace h : EV F f 43 z43 51 [some (rf 2 (0)), some (rf 16 (0)), some (.inl (c1)), some (.inl (u3)), some (rf 6 ((u3).toNatClampNeg + 1))] [] σ (.inl (some (.inr (.inr w))), σ') := h
          replace h := ei_p h rfl rfl rfl rfl
          obtain ⟨f, g, h⟩ := h
          replace hf := Nat.lt_trans g hf
          clear g
          replace h : EV F f 43 z43 53 [some (rf 2 (0)), some (rf 16 (0)), some (.inl (c1)), some (.inl (u3)), some (rf 6 ((u3).toNatClampNeg + 1))] [rf 6 ((u3).toNatClampNeg + 1)] σ (.inl (some (.inr (.inr w))), σ') := h
          have e := ei_aret h rfl
          cases e
          exact rfl
def P43 (σ : mS) (w : mR) : Prop := ((m_r σ 2 (0) 9 = none ∧ ∃ n, Q43_19 σ (Int32.ofInt 5) n (Int32.ofInt 0) w) ∨ (∃ q2, m_r σ 2 (0) 9 = some q2 ∧ w = none))
theorem x43 {σ σ' : mS} {w : mR} (hs : HS σ) (h : ev_run sm_all 43 [rf 2 (0)] σ (.inl (some (.inr (.inr w)))) σ') : P43 σ w := by
  unfold P43
  obtain ⟨F, f, h⟩ := ei_go h z43_at
  replace h : EV F f 43 z43 0 [some (rf 2 (0)), none, none, none, none] [] σ (.inl (some (.inr (.inr w))), σ') := h
  replace h := ei_p h rfl rfl rfl rfl
  obtain ⟨f, g, h⟩ := h
  clear g
  replace h : EV F f 43 z43 1 [some (rf 2 (0)), none, none, none, none] [rf 2 (0)] σ (.inl (some (.inr (.inr w))), σ') := h
  replace h := ei_get h rfl rfl
  obtain ⟨f, g, h⟩ := h
  clear g
  replace h : EV F f 43 z43 4 [some (rf 2 (0)), none, none, none, none] [.inr (.inr (m_r σ 2 (0) 9))] σ (.inl (some (.inr (.inr w))), σ') := h
  rcases r_cs (m_r σ 2 (0) 9) with e1 | ⟨q2, e1⟩
  · skip
    rw [e1] at h
    refine Or.inl ⟨e1, ?_⟩
    replace h : EV F f 43 z43 4 [some (rf 2 (0)), none, none, none, none] [.inr (.inr none)] σ (.inl (some (.inr (.inr w))), σ') := h
    replace h := ei_c h rfl rfl rfl
    rcases h with ⟨hp3, f, g, h⟩ | ⟨hp3, f, g, h⟩
    · skip
      clear g
      replace h : EV F f 43 z43 9 [some (rf 2 (0)), none, none, none, none] [] σ (.inl (some (.inr (.inr w))), σ') := h
      replace h := ei_p h rfl rfl rfl rfl
      obtain ⟨f, g, h⟩ := h
      clear g
      replace h : EV F f 43 z43 10 [some (rf 2 (0)), none, none, none, none] [rf 2 (0)] σ (.inl (some (.inr (.inr w))), σ') := h
      replace h := ei_get h rfl (HS_g2_0 hs)
      obtain ⟨f, g, h⟩ := h
      clear g
      replace h : EV F f 43 z43 13 [some (rf 2 (0)), none, none, none, none] [rf 16 (0)] σ (.inl (some (.inr (.inr w))), σ') := h
      replace h := ei_p h rfl rfl rfl rfl
      obtain ⟨f, g, h⟩ := h
      clear g
      replace h : EV F f 43 z43 14 [some (rf 2 (0)), some (rf 16 (0)), none, none, none] [] σ (.inl (some (.inr (.inr w))), σ') := h
      replace h := ei_p h rfl rfl rfl rfl
      obtain ⟨f, g, h⟩ := h
      clear g
      replace h : EV F f 43 z43 15 [some (rf 2 (0)), some (rf 16 (0)), none, none, none] [rf 16 (0)] σ (.inl (some (.inr (.inr w))), σ') := h
      replace h := ei_len h rfl (HS_l16_0 hs) ⟨Nat.le_of_ble_eq_true rfl, Nat.le_of_ble_eq_true rfl⟩
      obtain ⟨f, g, h⟩ := h
      clear g
      replace h : EV F f 43 z43 16 [some (rf 2 (0)), some (rf 16 (0)), none, none, none] [.inl (Int32.ofInt 5)] σ (.inl (some (.inr (.inr w))), σ') := h
      replace h := ei_p h rfl rfl rfl rfl
      obtain ⟨f, g, h⟩ := h
      clear g
      replace h : EV F f 43 z43 17 [some (rf 2 (0)), some (rf 16 (0)), some (.inl (Int32.ofInt 5)), none, none] [] σ (.inl (some (.inr (.inr w))), σ') := h
      replace h := ei_p h rfl rfl rfl rfl
      obtain ⟨f, g, h⟩ := h
      clear g
      replace h : EV F f 43 z43 18 [some (rf 2 (0)), some (rf 16 (0)), some (.inl (Int32.ofInt 5)), none, none] [.inl (Int32.ofInt 0)] σ (.inl (some (.inr (.inr w))), σ') := h
      replace h := ei_p h rfl rfl rfl rfl
      obtain ⟨f, g, h⟩ := h
      clear g
      replace h : EV F f 43 z43 19 [some (rf 2 (0)), some (rf 16 (0)), some (.inl (Int32.ofInt 5)), some (.inl (Int32.ofInt 0)), none] [] σ (.inl (some (.inr (.inr w))), σ') := h
      exact ⟨f + 1, q43_19 hs (f + 1) f (Nat.lt_succ_self f) (Int32.ofInt 0) _ h⟩
    · exact absurd rfl hp3
  · skip
    rw [e1] at h
    refine Or.inr ⟨q2, e1, ?_⟩
    replace h : EV F f 43 z43 4 [some (rf 2 (0)), none, none, none, none] [.inr (.inr (some q2))] σ (.inl (some (.inr (.inr w))), σ') := h
    replace h := ei_c h rfl rfl rfl
    rcases h with ⟨hp4, f, g, h⟩ | ⟨hp4, f, g, h⟩
    · exact absurd hp4 (fun z => by cases z)
    · skip
      clear g
      replace h : EV F f 43 z43 7 [some (rf 2 (0)), none, none, none, none] [] σ (.inl (some (.inr (.inr w))), σ') := h
      replace h := ei_p h rfl rfl rfl rfl
      obtain ⟨f, g, h⟩ := h
      clear g
      replace h : EV F f 43 z43 8 [some (rf 2 (0)), none, none, none, none] [.inr (.inr none)] σ (.inl (some (.inr (.inr w))), σ') := h
      have e := ei_aret h rfl
      cases e
      exact rfl
def z92 : mAl := ((yX6_holdsNothing, cX6_holdsNothing, 6, (some .boolean), { frames := 0, cells := 0, slots := 0, locals := 0 }, []), rw_X6_holdsNothing, false)
theorem z92_at : m_alF[92]? = some z92 := rfl
abbrev B92_10 (σ : mS) (c1 : Nat) (c2 : Nat) (c3 : Int32) (ih : Int32 → Int32 → Prop) (u3 : Int32) (w : Int32) : Prop := (((c3).toInt ≤ (u3).toInt ∧ w = (Int32.ofInt 1)) ∨ (¬ ((c3).toInt ≤ (u3).toInt) ∧ c2 = 14 ∧ (0 ≤ (u3).toInt ∧ (u3).toInt < (σ.2.1 14 (c1) : Int)) ∧ ∃ n3, n3 = m_l σ 14 (c1) (u3).toNatClampNeg ∧ (((n3).toInt = (Int64.ofNat 0).toInt ∧ ih ((u3) + Int32.ofInt 1) w) ∨ (¬ ((n3).toInt = (Int64.ofNat 0).toInt) ∧ w = (Int32.ofInt 0)))))
def Q92_10 (σ : mS) (c1 : Nat) (c2 : Nat) (c3 : Int32) : Nat → Int32 → Int32 → Prop
  | 0 => fun _ _ => False
  | n + 1 => B92_10 σ c1 c2 c3 (Q92_10 σ c1 c2 c3 n)
theorem q92_10 {F : Nat} {σ σ' : mS} {c1 : Nat} {c2 : Nat} {c3 : Int32} {w : Int32} (hs : HS σ) : ∀ N f, f < N → ∀ (u3 : Int32) (y0 : Option mV) (y4 : Option mV) (y5 : Option mV), EV F f 92 z92 10 [y0, some (rf c2 (c1)), some (.inl (c3)), some (.inl (u3)), y4, y5] [] σ (.inl (some (.inl w)), σ') → Q92_10 σ c1 c2 c3 N u3 w := by
  intro N
  induction N with
  | zero => intro f hf; omega
  | succ N IH =>
    intro f hf0 u3 y0 y4 y5 h
    have hf : f < N + 1 := hf0
    clear hf0
    show B92_10 σ c1 c2 c3 (Q92_10 σ c1 c2 c3 N) u3 w
    replace h := ei_p h rfl rfl rfl rfl
    obtain ⟨f, g, h⟩ := h
    replace hf := Nat.lt_of_lt_of_le g (Nat.le_of_lt_succ hf)
    clear g
    replace h : EV F f 92 z92 11 [y0, some (rf c2 (c1)), some (.inl (c3)), some (.inl (u3)), y4, y5] [.inl (u3)] σ (.inl (some (.inl w)), σ') := h
    replace h := ei_p h rfl rfl rfl rfl
    obtain ⟨f, g, h⟩ := h
    replace hf := Nat.lt_trans g hf
    clear g
    replace h : EV F f 92 z92 12 [y0, some (rf c2 (c1)), some (.inl (c3)), some (.inl (u3)), y4, y5] [.inl (c3), .inl (u3)] σ (.inl (some (.inl w)), σ') := h
    replace h := ei_c h rfl rfl rfl
    rcases h with ⟨hp1, f, g, h⟩ | ⟨hp1, f, g, h⟩
    · skip
      replace hp1 : (c3).toInt ≤ (u3).toInt := ic_ge.mp hp1
      refine Or.inl ⟨hp1, ?_⟩
      replace hf := Nat.lt_trans g hf
      clear g
      replace h : EV F f 92 z92 35 [y0, some (rf c2 (c1)), some (.inl (c3)), some (.inl (u3)), y4, y5] [] σ (.inl (some (.inl w)), σ') := h
      replace h := ei_p h rfl rfl rfl rfl
      obtain ⟨f, g, h⟩ := h
      replace hf := Nat.lt_trans g hf
      clear g
      replace h : EV F f 92 z92 36 [y0, some (rf c2 (c1)), some (.inl (c3)), some (.inl (u3)), y4, y5] [.inl (Int32.ofInt 1)] σ (.inl (some (.inl w)), σ') := h
      have e := ei_iret h rfl
      cases e
      exact rfl
    · skip
      replace hp1 : ¬ ((c3).toInt ≤ (u3).toInt) := (not_congr ic_ge).mp hp1
      refine Or.inr ⟨hp1, ?_⟩
      replace hf := Nat.lt_trans g hf
      clear g
      replace h : EV F f 92 z92 15 [y0, some (rf c2 (c1)), some (.inl (c3)), some (.inl (u3)), y4, y5] [] σ (.inl (some (.inl w)), σ') := h
      replace h := ei_p h rfl rfl rfl rfl
      obtain ⟨f, g, h⟩ := h
      replace hf := Nat.lt_trans g hf
      clear g
      replace h : EV F f 92 z92 16 [y0, some (rf c2 (c1)), some (.inl (c3)), some (.inl (u3)), y4, y5] [rf c2 (c1)] σ (.inl (some (.inl w)), σ') := h
      replace h := ei_p h rfl rfl rfl rfl
      obtain ⟨f, g, h⟩ := h
      replace hf := Nat.lt_trans g hf
      clear g
      replace h : EV F f 92 z92 17 [y0, some (rf c2 (c1)), some (.inl (c3)), some (.inl (u3)), y4, y5] [.inl (u3), rf c2 (c1)] σ (.inl (some (.inl w)), σ') := h
      obtain rfl := ei_alc14 h rfl
      refine ⟨rfl, ?_⟩
      replace h : EV F f 92 z92 17 [y0, some (rf 14 (c1)), some (.inl (c3)), some (.inl (u3)), y4, y5] [.inl (u3), rf 14 (c1)] σ (.inl (some (.inl w)), σ') := h
      replace h := ei_lald h rfl (fun _ => rfl)
      obtain ⟨vp2, f, g, h⟩ := h
      replace hf := Nat.lt_trans g hf
      clear g
      replace h : EV F f 92 z92 18 [y0, some (rf 14 (c1)), some (.inl (c3)), some (.inl (u3)), y4, y5] [.inr (.inl (m_l σ 14 (c1) (u3).toNatClampNeg))] σ (.inl (some (.inl w)), σ') := h
      refine ⟨vp_2 vp2, ?_⟩
      replace h := ei_p h rfl rfl rfl rfl
      obtain ⟨f, g, h⟩ := h
      replace hf := Nat.lt_trans g hf
      clear g
      replace h : EV F f 92 z92 20 [y0, some (rf 14 (c1)), some (.inl (c3)), some (.inl (u3)), some (.inr (.inl (m_l σ 14 (c1) (u3).toNatClampNeg))), none] [] σ (.inl (some (.inl w)), σ') := h
      obtain ⟨n3, e4⟩ : ∃ s, s = m_l σ 14 (c1) (u3).toNatClampNeg := ⟨_, rfl⟩
      rw [← e4] at h
      refine ⟨n3, e4, ?_⟩
      replace h : EV F f 92 z92 20 [y0, some (rf 14 (c1)), some (.inl (c3)), some (.inl (u3)), some (.inr (.inl (n3))), none] [] σ (.inl (some (.inl w)), σ') := h
      replace h := ei_p h rfl rfl rfl rfl
      obtain ⟨f, g, h⟩ := h
      replace hf := Nat.lt_trans g hf
      clear g
      replace h : EV F f 92 z92 22 [y0, some (rf 14 (c1)), some (.inl (c3)), some (.inl (u3)), some (.inr (.inl (n3))), none] [.inr (.inl (n3))] σ (.inl (some (.inl w)), σ') := h
      replace h := ei_p h rfl rfl rfl rfl
      obtain ⟨f, g, h⟩ := h
      replace hf := Nat.lt_trans g hf
      clear g
      replace h : EV F f 92 z92 23 [y0, some (rf 14 (c1)), some (.inl (c3)), some (.inl (u3)), some (.inr (.inl (n3))), none] [.inr (.inl (Int64.ofNat 0)), .inr (.inl (n3))] σ (.inl (some (.inl w)), σ') := h
      replace h := ei_p h rfl rfl rfl rfl
      obtain ⟨f, g, h⟩ := h
      replace hf := Nat.lt_trans g hf
      clear g
      replace h : EV F f 92 z92 24 [y0, some (rf 14 (c1)), some (.inl (c3)), some (.inl (u3)), some (.inr (.inl (n3))), none] [.inl (lg_cmp (n3) (Int64.ofNat 0))] σ (.inl (some (.inl w)), σ') := h
      replace h := ei_c h rfl rfl rfl
      rcases h with ⟨hp5, f, g, h⟩ | ⟨hp5, f, g, h⟩
      · skip
        replace hp5 : (n3).toInt = (Int64.ofNat 0).toInt := (ab_lc .eq _ _).mp hp5
        refine Or.inl ⟨hp5, ?_⟩
        replace hf := Nat.lt_trans g hf
        clear g
        replace h : EV F f 92 z92 29 [y0, some (rf 14 (c1)), some (.inl (c3)), some (.inl (u3)), some (.inr (.inl (n3))), none] [] σ (.inl (some (.inl w)), σ') := h
        replace h := ei_p h rfl rfl rfl rfl
        obtain ⟨f, g, h⟩ := h
        replace hf := Nat.lt_trans g hf
        clear g
        replace h : EV F f 92 z92 32 [y0, some (rf 14 (c1)), some (.inl (c3)), some (.inl ((u3) + Int32.ofInt 1)), some (.inr (.inl (n3))), none] [] σ (.inl (some (.inl w)), σ') := h
        replace h := ei_p h rfl rfl rfl rfl
        obtain ⟨f, g, h⟩ := h
        replace hf := Nat.lt_trans g hf
        clear g
        replace h : EV F f 92 z92 10 [y0, some (rf 14 (c1)), some (.inl (c3)), some (.inl ((u3) + Int32.ofInt 1)), some (.inr (.inl (n3))), none] [] σ (.inl (some (.inl w)), σ') := h
        exact IH f hf ((u3) + Int32.ofInt 1) y0 (some (.inr (.inl (n3)))) (none) h
      · skip
        replace hp5 : ¬ ((n3).toInt = (Int64.ofNat 0).toInt) := (not_congr (ab_lc .eq _ _)).mp hp5
        refine Or.inr ⟨hp5, ?_⟩
        replace hf := Nat.lt_trans g hf
        clear g
        replace h : EV F f 92 z92 27 [y0, some (rf 14 (c1)), some (.inl (c3)), some (.inl (u3)), some (.inr (.inl (n3))), none] [] σ (.inl (some (.inl w)), σ') := h
        replace h := ei_p h rfl rfl rfl rfl
        obtain ⟨f, g, h⟩ := h
        replace hf := Nat.lt_trans g hf
        clear g
        replace h : EV F f 92 z92 28 [y0, some (rf 14 (c1)), some (.inl (c3)), some (.inl (u3)), some (.inr (.inl (n3))), none] [.inl (Int32.ofInt 0)] σ (.inl (some (.inl w)), σ') := h
        have e := ei_iret h rfl
        cases e
        exact rfl
def P92 (σ : mS) (a : Nat) (w : Int32) : Prop := ∃ ci1 i1, m_r σ 6 (a) 1 = some (ci1, i1) ∧ ∃ n, Q92_10 σ (i1) (ci1) (Int32.ofNat (σ.2.1 ci1 (i1))) n (Int32.ofInt 0) w
theorem x92 {σ σ' : mS} {a : Nat} {w : Int32} (hs : HS σ) (h : ev_run sm_all 92 [rf 6 (a)] σ (.inl (some (.inl w))) σ') : P92 σ a w := by
  unfold P92
  obtain ⟨F, f, h⟩ := ei_go h z92_at
  replace h : EV F f 92 z92 0 [some (rf 6 (a)), none, none, none, none, none] [] σ (.inl (some (.inl w)), σ') := h
  replace h := ei_p h rfl rfl rfl rfl
  obtain ⟨f, g, h⟩ := h
  clear g
  replace h : EV F f 92 z92 1 [some (rf 6 (a)), none, none, none, none, none] [rf 6 (a)] σ (.inl (some (.inl w)), σ') := h
  replace h := ei_get h rfl rfl
  obtain ⟨f, g, h⟩ := h
  clear g
  replace h : EV F f 92 z92 4 [some (rf 6 (a)), none, none, none, none, none] [.inr (.inr (m_r σ 6 (a) 1))] σ (.inl (some (.inl w)), σ') := h
  replace h := ei_p h rfl rfl rfl rfl
  obtain ⟨f, g, h⟩ := h
  clear g
  replace h : EV F f 92 z92 5 [some (rf 6 (a)), some (.inr (.inr (m_r σ 6 (a) 1))), none, none, none, none] [] σ (.inl (some (.inl w)), σ') := h
  replace h := ei_p h rfl rfl rfl rfl
  obtain ⟨f, g, h⟩ := h
  clear g
  replace h : EV F f 92 z92 6 [some (rf 6 (a)), some (.inr (.inr (m_r σ 6 (a) 1))), none, none, none, none] [.inr (.inr (m_r σ 6 (a) 1))] σ (.inl (some (.inl w)), σ') := h
  obtain ⟨ci1, i1, e2⟩ := ei_lp h rfl
  rw [e2.1] at h
  refine ⟨ci1, i1, e2.1, ?_⟩
  replace h : EV F f 92 z92 6 [some (rf 6 (a)), some (rf ci1 (i1)), none, none, none, none] [rf ci1 (i1)] σ (.inl (some (.inl w)), σ') := h
  replace h := ei_len h rfl rfl e2.2
  obtain ⟨f, g, h⟩ := h
  clear g
  replace h : EV F f 92 z92 7 [some (rf 6 (a)), some (rf ci1 (i1)), none, none, none, none] [.inl (Int32.ofNat (σ.2.1 ci1 (i1)))] σ (.inl (some (.inl w)), σ') := h
  replace h := ei_p h rfl rfl rfl rfl
  obtain ⟨f, g, h⟩ := h
  clear g
  replace h : EV F f 92 z92 8 [some (rf 6 (a)), some (rf ci1 (i1)), some (.inl (Int32.ofNat (σ.2.1 ci1 (i1)))), none, none, none] [] σ (.inl (some (.inl w)), σ') := h
  replace h := ei_p h rfl rfl rfl rfl
  obtain ⟨f, g, h⟩ := h
  clear g
  replace h : EV F f 92 z92 9 [some (rf 6 (a)), some (rf ci1 (i1)), some (.inl (Int32.ofNat (σ.2.1 ci1 (i1)))), none, none, none] [.inl (Int32.ofInt 0)] σ (.inl (some (.inl w)), σ') := h
  replace h := ei_p h rfl rfl rfl rfl
  obtain ⟨f, g, h⟩ := h
  clear g
  replace h : EV F f 92 z92 10 [some (rf 6 (a)), some (rf ci1 (i1)), some (.inl (Int32.ofNat (σ.2.1 ci1 (i1)))), some (.inl (Int32.ofInt 0)), none, none] [] σ (.inl (some (.inl w)), σ') := h
  exact ⟨f + 1, q92_10 hs (f + 1) f (Nat.lt_succ_self f) (Int32.ofInt 0) _ _ _ h⟩
def z47 : mAl := ((yX2_takeShare, cX2_takeShare, 6, (some .long), { frames := 1, cells := 0, slots := 0, locals := 23 }, []), rw_X2_takeShare, false)
theorem z47_at : m_alF[47]? = some z47 := rfl
abbrev L47 : List (Nat × Nat) := [(6, 4)]
abbrev w47 : Nat → Nat → Bool := wl L47
def S47 : List Nat := [47]
theorem W47 : fw_S w47 S47 = true := by decide +kernel
def P47 (σ : mS) (x1 : mR) (x2 : Int64) (w : Int64) (σ' : mS) : Prop := ∃ i1, x1 = some (6, i1) ∧ ∃ σ4, σ4 = m_set σ 6 (i1) (4) (.inr (.inl ((m_l σ 6 (i1) 4) - (lmin (m_l σ 6 (i1) 4) (x2))))) ∧ w = (lmin (m_l σ 6 (i1) 4) (x2)) ∧ σ' = σ4
theorem x47 {σ σ' : mS} {x1 : mR} {x2 : Int64} {w : Int64} (hs : HS σ) (h : ev_run sm_all 47 [rf 2 (0), .inr (.inr (x1)), .inr (.inl (x2))] σ (.inl (some (.inr (.inl w)))) σ') : P47 σ x1 x2 w σ' := by
  unfold P47
  obtain ⟨F, f, h⟩ := ei_go h z47_at
  replace h : EV F f 47 z47 0 [some (rf 2 (0)), some (.inr (.inr (x1))), some (.inr (.inl (x2))), none, none, none] [] σ (.inl (some (.inr (.inl w))), σ') := h
  replace h := ei_p h rfl rfl rfl rfl
  obtain ⟨f, g, h⟩ := h
  clear g
  replace h : EV F f 47 z47 1 [some (rf 2 (0)), some (.inr (.inr (x1))), some (.inr (.inl (x2))), none, none, none] [.inr (.inr (x1))] σ (.inl (some (.inr (.inl w))), σ') := h
  obtain ⟨i1, e2⟩ := ei_gp h rfl
  rw [e2] at h
  refine ⟨i1, e2, ?_⟩
  replace h : EV F f 47 z47 1 [some (rf 2 (0)), some (rf 6 (i1)), some (.inr (.inl (x2))), none, none, none] [rf 6 (i1)] σ (.inl (some (.inr (.inl w))), σ') := h
  replace h := ei_get h rfl rfl
  obtain ⟨f, g, h⟩ := h
  clear g
  replace h : EV F f 47 z47 4 [some (rf 2 (0)), some (rf 6 (i1)), some (.inr (.inl (x2))), none, none, none] [.inr (.inl (m_l σ 6 (i1) 4))] σ (.inl (some (.inr (.inl w))), σ') := h
  replace h := ei_p h rfl rfl rfl rfl
  obtain ⟨f, g, h⟩ := h
  clear g
  replace h : EV F f 47 z47 5 [some (rf 2 (0)), some (rf 6 (i1)), some (.inr (.inl (x2))), none, none, none] [.inr (.inl (x2)), .inr (.inl (m_l σ 6 (i1) 4))] σ (.inl (some (.inr (.inl w))), σ') := h
  replace h := ei_m (st' := [.inr (.inl (lmin (m_l σ 6 (i1) 4) (x2)))]) h rfl (Nat.le_of_ble_eq_true rfl) (fun w hw => (Option.some.inj (ev_if_some.mp hw).2).symm)
  obtain ⟨f, g, h⟩ := h
  clear g
  replace h : EV F f 47 z47 8 [some (rf 2 (0)), some (rf 6 (i1)), some (.inr (.inl (x2))), none, none, none] [.inr (.inl (lmin (m_l σ 6 (i1) 4) (x2)))] σ (.inl (some (.inr (.inl w))), σ') := h
  replace h := ei_p h rfl rfl rfl rfl
  obtain ⟨f, g, h⟩ := h
  clear g
  replace h : EV F f 47 z47 10 [some (rf 2 (0)), some (rf 6 (i1)), some (.inr (.inl (x2))), none, some (.inr (.inl (lmin (m_l σ 6 (i1) 4) (x2)))), none] [] σ (.inl (some (.inr (.inl w))), σ') := h
  replace h := ei_p h rfl rfl rfl rfl
  obtain ⟨f, g, h⟩ := h
  clear g
  replace h : EV F f 47 z47 11 [some (rf 2 (0)), some (rf 6 (i1)), some (.inr (.inl (x2))), none, some (.inr (.inl (lmin (m_l σ 6 (i1) 4) (x2)))), none] [rf 6 (i1)] σ (.inl (some (.inr (.inl w))), σ') := h
  replace h := ei_p h rfl rfl rfl rfl
  obtain ⟨f, g, h⟩ := h
  clear g
  replace h : EV F f 47 z47 12 [some (rf 2 (0)), some (rf 6 (i1)), some (.inr (.inl (x2))), none, some (.inr (.inl (lmin (m_l σ 6 (i1) 4) (x2)))), none] [rf 6 (i1), rf 6 (i1)] σ (.inl (some (.inr (.inl w))), σ') := h
  replace h := ei_get h rfl rfl
  obtain ⟨f, g, h⟩ := h
  clear g
  replace h : EV F f 47 z47 15 [some (rf 2 (0)), some (rf 6 (i1)), some (.inr (.inl (x2))), none, some (.inr (.inl (lmin (m_l σ 6 (i1) 4) (x2)))), none] [.inr (.inl (m_l σ 6 (i1) 4)), rf 6 (i1)] σ (.inl (some (.inr (.inl w))), σ') := h
  replace h := ei_p h rfl rfl rfl rfl
  obtain ⟨f, g, h⟩ := h
  clear g
  replace h : EV F f 47 z47 17 [some (rf 2 (0)), some (rf 6 (i1)), some (.inr (.inl (x2))), none, some (.inr (.inl (lmin (m_l σ 6 (i1) 4) (x2)))), none] [.inr (.inl (lmin (m_l σ 6 (i1) 4) (x2))), .inr (.inl (m_l σ 6 (i1) 4)), rf 6 (i1)] σ (.inl (some (.inr (.inl w))), σ') := h
  replace h := ei_p h rfl rfl rfl rfl
  obtain ⟨f, g, h⟩ := h
  clear g
  replace h : EV F f 47 z47 18 [some (rf 2 (0)), some (rf 6 (i1)), some (.inr (.inl (x2))), none, some (.inr (.inl (lmin (m_l σ 6 (i1) 4) (x2)))), none] [.inr (.inl ((m_l σ 6 (i1) 4) - (lmin (m_l σ 6 (i1) 4) (x2)))), rf 6 (i1)] σ (.inl (some (.inr (.inl w))), σ') := h
  replace h := ei_put h rfl
  obtain ⟨ht3, f, g, h⟩ := h
  clear g
  obtain ⟨σ4, e5⟩ : ∃ s, s = m_set σ 6 (i1) (4) (.inr (.inl ((m_l σ 6 (i1) 4) - (lmin (m_l σ 6 (i1) 4) (x2))))) := ⟨_, rfl⟩
  rw [← e5] at h
  have hsσ4 : HS σ4 := by rw [e5]; exact HS_set hs rfl
  refine ⟨σ4, e5, ?_⟩
  replace h : EV F f 47 z47 21 [some (rf 2 (0)), some (rf 6 (i1)), some (.inr (.inl (x2))), none, some (.inr (.inl (lmin (m_l σ 6 (i1) 4) (x2)))), none] [] σ4 (.inl (some (.inr (.inl w))), σ') := h
  replace h := ei_p h rfl rfl rfl rfl
  obtain ⟨f, g, h⟩ := h
  clear g
  replace h : EV F f 47 z47 23 [some (rf 2 (0)), some (rf 6 (i1)), some (.inr (.inl (x2))), none, some (.inr (.inl (lmin (m_l σ 6 (i1) 4) (x2)))), none] [.inr (.inl (lmin (m_l σ 6 (i1) 4) (x2)))] σ4 (.inl (some (.inr (.inl w))), σ') := h
  have e := ei_lret h rfl
  cases e
  exact ⟨rfl, rfl⟩
def z48 : mAl := ((yX2_takeFromOthers, cX2_takeFromOthers, 15, (some .long), { frames := 2, cells := 0, slots := 0, locals := 48 }, []), rw_X2_takeFromOthers, false)
theorem z48_at : m_alF[48]? = some z48 := rfl
abbrev L48 : List (Nat × Nat) := [(6, 4)]
abbrev w48 : Nat → Nat → Bool := wl L48
def S48 : List Nat := [47, 48]
theorem W48 : fw_S w48 S48 = true := by decide +kernel
abbrev B48_176 (c1 : mR) (c2 : Int64) (c3 : Int32) (c4 : Int32) (ih : Int64 → Int32 → mS → Int64 → mS → Prop) (u8 : Int64) (u13 : Int32) (τ : mS) (o8 : Int64) (τo : mS) : Prop := (((c4).toInt ≤ (u13).toInt ∧ o8 = (u8) ∧ τo = τ) ∨ (¬ ((c4).toInt ≤ (u13).toInt) ∧ (0 ≤ (u13).toInt ∧ (u13).toInt < 5) ∧ ((((some (6, (u13).toNatClampNeg + 1)) : mR) = (c1) ∧ ih ((u8) + (Int64.ofNat 0)) ((u13) + Int32.ofInt 1) τ o8 τo) ∨ (¬ (((some (6, (u13).toNatClampNeg + 1)) : mR) = (c1)) ∧ (((u8).toInt ≠ (c2).toInt ∧ ∃ v5 σ6, fw_e w47 τ σ6 ∧ P47 τ (some (6, (u13).toNatClampNeg + 1)) (Int64.ofNat 1) v5 σ6 ∧ ih ((u8) + (v5)) ((u13) + Int32.ofInt 1) σ6 o8 τo) ∨ (¬ ((u8).toInt ≠ (c2).toInt) ∧ ih ((u8) + (Int64.ofNat 0)) ((u13) + Int32.ofInt 1) τ o8 τo))))))
def Q48_176 (c1 : mR) (c2 : Int64) (c3 : Int32) (c4 : Int32) : Nat → Int64 → Int32 → mS → Int64 → mS → Prop
  | 0 => fun _ _ _ _ _ => False
  | n + 1 => B48_176 c1 c2 c3 c4 (Q48_176 c1 c2 c3 c4 n)
theorem q48_176 {F : Nat} {σ' : mS} {c1 : mR} {c2 : Int64} {c3 : Int32} {c4 : Int32} {w : Int64} : ∀ N f, f < N → ∀ (u8 : Int64) (u13 : Int32) (y2 : Option mV) (y3 : Option mV) (y4 : Option mV) (y5 : Option mV) (y14 : Option mV) (τ : mS), HS τ → EV F f 48 z48 176 [some (rf 2 (0)), some (.inr (.inr (c1))), y2, y3, y4, y5, some (.inr (.inl (c2))), none, some (.inr (.inl (u8))), none, some (.inl (c3)), some (rf 16 (0)), some (.inl (c4)), some (.inl (u13)), y14] [] τ (.inl (some (.inr (.inl w))), σ') → ∃ (o8 : Int64) (x2 : Option mV) (x3 : Option mV) (x4 : Option mV) (x5 : Option mV) (x11 : Option mV) (x12 : Option mV) (x13 : Option mV) (x14 : Option mV) (τo : mS), Q48_176 c1 c2 c3 c4 N u8 u13 τ o8 τo ∧ HS τo ∧ ∃ f2, f2 < f ∧ EV F f2 48 z48 226 [some (rf 2 (0)), some (.inr (.inr (c1))), x2, x3, x4, x5, some (.inr (.inl (c2))), none, some (.inr (.inl (o8))), none, some (.inl (c3)), x11, x12, x13, x14] [] τo (.inl (some (.inr (.inl w))), σ') := by
  intro N
  induction N with
  | zero => intro f hf; omega
  | succ N IH =>
    intro f hf0 u8 u13 y2 y3 y4 y5 y14 τ hsτ h
    have hf : f < N + 1 := hf0
    clear hf0
    replace h := ei_p h rfl rfl rfl rfl
    obtain ⟨f, g, h⟩ := h
    have hl := g
    replace hf := Nat.lt_of_lt_of_le g (Nat.le_of_lt_succ hf)
    clear g
    replace h : EV F f 48 z48 178 [some (rf 2 (0)), some (.inr (.inr (c1))), y2, y3, y4, y5, some (.inr (.inl (c2))), none, some (.inr (.inl (u8))), none, some (.inl (c3)), some (rf 16 (0)), some (.inl (c4)), some (.inl (u13)), y14] [.inl (u13)] τ (.inl (some (.inr (.inl w))), σ') := h
    replace h := ei_p h rfl rfl rfl rfl
    obtain ⟨f, g, h⟩ := h
    replace hl := Nat.lt_trans g hl
    replace hf := Nat.lt_trans g hf
    clear g
    replace h : EV F f 48 z48 180 [some (rf 2 (0)), some (.inr (.inr (c1))), y2, y3, y4, y5, some (.inr (.inl (c2))), none, some (.inr (.inl (u8))), none, some (.inl (c3)), some (rf 16 (0)), some (.inl (c4)), some (.inl (u13)), y14] [.inl (c4), .inl (u13)] τ (.inl (some (.inr (.inl w))), σ') := h
    replace h := ei_c h rfl rfl rfl
    rcases h with ⟨hp1, f, g, h⟩ | ⟨hp1, f, g, h⟩
    · skip
      replace hp1 : (c4).toInt ≤ (u13).toInt := ic_ge.mp hp1
      replace hl := Nat.lt_trans g hl
      replace hf := Nat.lt_trans g hf
      clear g
      replace h : EV F f 48 z48 226 [some (rf 2 (0)), some (.inr (.inr (c1))), y2, y3, y4, y5, some (.inr (.inl (c2))), none, some (.inr (.inl (u8))), none, some (.inl (c3)), some (rf 16 (0)), some (.inl (c4)), some (.inl (u13)), y14] [] τ (.inl (some (.inr (.inl w))), σ') := h
      exact ⟨(u8), y2, y3, y4, y5, some (rf 16 (0)), some (.inl (c4)), some (.inl (u13)), y14, τ, (show B48_176 c1 c2 c3 c4 (Q48_176 c1 c2 c3 c4 N) u8 u13 τ (u8) τ from (Or.inl ⟨hp1, ⟨rfl, rfl⟩⟩)), hsτ, f, hl, h⟩
    · skip
      replace hp1 : ¬ ((c4).toInt ≤ (u13).toInt) := (not_congr ic_ge).mp hp1
      replace hl := Nat.lt_trans g hl
      replace hf := Nat.lt_trans g hf
      clear g
      replace h : EV F f 48 z48 183 [some (rf 2 (0)), some (.inr (.inr (c1))), y2, y3, y4, y5, some (.inr (.inl (c2))), none, some (.inr (.inl (u8))), none, some (.inl (c3)), some (rf 16 (0)), some (.inl (c4)), some (.inl (u13)), y14] [] τ (.inl (some (.inr (.inl w))), σ') := h
      replace h := ei_p h rfl rfl rfl rfl
      obtain ⟨f, g, h⟩ := h
      replace hl := Nat.lt_trans g hl
      replace hf := Nat.lt_trans g hf
      clear g
      replace h : EV F f 48 z48 185 [some (rf 2 (0)), some (.inr (.inr (c1))), y2, y3, y4, y5, some (.inr (.inl (c2))), none, some (.inr (.inl (u8))), none, some (.inl (c3)), some (rf 16 (0)), some (.inl (c4)), some (.inl (u13)), y14] [rf 16 (0)] τ (.inl (some (.inr (.inl w))), σ') := h
      replace h := ei_p h rfl rfl rfl rfl
      obtain ⟨f, g, h⟩ := h
      replace hl := Nat.lt_trans g hl
      replace hf := Nat.lt_trans g hf
      clear g
      replace h : EV F f 48 z48 187 [some (rf 2 (0)), some (.inr (.inr (c1))), y2, y3, y4, y5, some (.inr (.inl (c2))), none, some (.inr (.inl (u8))), none, some (.inl (c3)), some (rf 16 (0)), some (.inl (c4)), some (.inl (u13)), y14] [.inl (u13), rf 16 (0)] τ (.inl (some (.inr (.inl w))), σ') := h
      replace h := ei_ald h rfl (HS_a16 hsτ)
      obtain ⟨vp2, f, g, h⟩ := h
      replace hl := Nat.lt_trans g hl
      replace hf := Nat.lt_trans g hf
      clear g
      replace h : EV F f 48 z48 188 [some (rf 2 (0)), some (.inr (.inr (c1))), y2, y3, y4, y5, some (.inr (.inl (c2))), none, some (.inr (.inl (u8))), none, some (.inl (c3)), some (rf 16 (0)), some (.inl (c4)), some (.inl (u13)), y14] [rf 6 ((u13).toNatClampNeg + 1)] τ (.inl (some (.inr (.inl w))), σ') := h
      replace h := ei_p h rfl rfl rfl rfl
      obtain ⟨f, g, h⟩ := h
      replace hl := Nat.lt_trans g hl
      replace hf := Nat.lt_trans g hf
      clear g
      replace h : EV F f 48 z48 190 [some (rf 2 (0)), some (.inr (.inr (c1))), y2, y3, y4, y5, some (.inr (.inl (c2))), none, some (.inr (.inl (u8))), none, some (.inl (c3)), some (rf 16 (0)), some (.inl (c4)), some (.inl (u13)), some (rf 6 ((u13).toNatClampNeg + 1))] [] τ (.inl (some (.inr (.inl w))), σ') := h
      replace h := ei_p h rfl rfl rfl rfl
      obtain ⟨f, g, h⟩ := h
      replace hl := Nat.lt_trans g hl
      replace hf := Nat.lt_trans g hf
      clear g
      replace h : EV F f 48 z48 192 [some (rf 2 (0)), some (.inr (.inr (c1))), y2, y3, y4, y5, some (.inr (.inl (c2))), none, some (.inr (.inl (u8))), none, some (.inl (c3)), some (rf 16 (0)), some (.inl (c4)), some (.inl (u13)), some (rf 6 ((u13).toNatClampNeg + 1))] [.inr (.inl (u8))] τ (.inl (some (.inr (.inl w))), σ') := h
      replace h := ei_p h rfl rfl rfl rfl
      obtain ⟨f, g, h⟩ := h
      replace hl := Nat.lt_trans g hl
      replace hf := Nat.lt_trans g hf
      clear g
      replace h : EV F f 48 z48 194 [some (rf 2 (0)), some (.inr (.inr (c1))), y2, y3, y4, y5, some (.inr (.inl (c2))), none, some (.inr (.inl (u8))), none, some (.inl (c3)), some (rf 16 (0)), some (.inl (c4)), some (.inl (u13)), some (rf 6 ((u13).toNatClampNeg + 1))] [rf 6 ((u13).toNatClampNeg + 1), .inr (.inl (u8))] τ (.inl (some (.inr (.inl w))), σ') := h
      replace h := ei_p h rfl rfl rfl rfl
      obtain ⟨f, g, h⟩ := h
      replace hl := Nat.lt_trans g hl
      replace hf := Nat.lt_trans g hf
      clear g
      replace h : EV F f 48 z48 195 [some (rf 2 (0)), some (.inr (.inr (c1))), y2, y3, y4, y5, some (.inr (.inl (c2))), none, some (.inr (.inl (u8))), none, some (.inl (c3)), some (rf 16 (0)), some (.inl (c4)), some (.inl (u13)), some (rf 6 ((u13).toNatClampNeg + 1))] [.inr (.inr (c1)), rf 6 ((u13).toNatClampNeg + 1), .inr (.inl (u8))] τ (.inl (some (.inr (.inl w))), σ') := h
      replace h := ei_c h rfl rfl rfl
      rcases h with ⟨hp3, f, g, h⟩ | ⟨hp3, f, g, h⟩
      · skip
        replace hl := Nat.lt_trans g hl
        replace hf := Nat.lt_trans g hf
        clear g
        replace h : EV F f 48 z48 206 [some (rf 2 (0)), some (.inr (.inr (c1))), y2, y3, y4, y5, some (.inr (.inl (c2))), none, some (.inr (.inl (u8))), none, some (.inl (c3)), some (rf 16 (0)), some (.inl (c4)), some (.inl (u13)), some (rf 6 ((u13).toNatClampNeg + 1))] [.inr (.inl (u8))] τ (.inl (some (.inr (.inl w))), σ') := h
        replace h := ei_p h rfl rfl rfl rfl
        obtain ⟨f, g, h⟩ := h
        replace hl := Nat.lt_trans g hl
        replace hf := Nat.lt_trans g hf
        clear g
        replace h : EV F f 48 z48 207 [some (rf 2 (0)), some (.inr (.inr (c1))), y2, y3, y4, y5, some (.inr (.inl (c2))), none, some (.inr (.inl (u8))), none, some (.inl (c3)), some (rf 16 (0)), some (.inl (c4)), some (.inl (u13)), some (rf 6 ((u13).toNatClampNeg + 1))] [.inr (.inl (Int64.ofNat 0)), .inr (.inl (u8))] τ (.inl (some (.inr (.inl w))), σ') := h
        replace h := ei_p h rfl rfl rfl rfl
        obtain ⟨f, g, h⟩ := h
        replace hl := Nat.lt_trans g hl
        replace hf := Nat.lt_trans g hf
        clear g
        replace h : EV F f 48 z48 217 [some (rf 2 (0)), some (.inr (.inr (c1))), y2, y3, y4, y5, some (.inr (.inl (c2))), none, some (.inr (.inl (u8))), none, some (.inl (c3)), some (rf 16 (0)), some (.inl (c4)), some (.inl (u13)), some (rf 6 ((u13).toNatClampNeg + 1))] [.inr (.inl (Int64.ofNat 0)), .inr (.inl (u8))] τ (.inl (some (.inr (.inl w))), σ') := h
        replace h := ei_p h rfl rfl rfl rfl
        obtain ⟨f, g, h⟩ := h
        replace hl := Nat.lt_trans g hl
        replace hf := Nat.lt_trans g hf
        clear g
        replace h : EV F f 48 z48 218 [some (rf 2 (0)), some (.inr (.inr (c1))), y2, y3, y4, y5, some (.inr (.inl (c2))), none, some (.inr (.inl (u8))), none, some (.inl (c3)), some (rf 16 (0)), some (.inl (c4)), some (.inl (u13)), some (rf 6 ((u13).toNatClampNeg + 1))] [.inr (.inl ((u8) + (Int64.ofNat 0)))] τ (.inl (some (.inr (.inl w))), σ') := h
        replace h := ei_p h rfl rfl rfl rfl
        obtain ⟨f, g, h⟩ := h
        replace hl := Nat.lt_trans g hl
        replace hf := Nat.lt_trans g hf
        clear g
        replace h : EV F f 48 z48 220 [some (rf 2 (0)), some (.inr (.inr (c1))), y2, y3, y4, y5, some (.inr (.inl (c2))), none, some (.inr (.inl ((u8) + (Int64.ofNat 0)))), none, some (.inl (c3)), some (rf 16 (0)), some (.inl (c4)), some (.inl (u13)), some (rf 6 ((u13).toNatClampNeg + 1))] [] τ (.inl (some (.inr (.inl w))), σ') := h
        replace h := ei_p h rfl rfl rfl rfl
        obtain ⟨f, g, h⟩ := h
        replace hl := Nat.lt_trans g hl
        replace hf := Nat.lt_trans g hf
        clear g
        replace h : EV F f 48 z48 223 [some (rf 2 (0)), some (.inr (.inr (c1))), y2, y3, y4, y5, some (.inr (.inl (c2))), none, some (.inr (.inl ((u8) + (Int64.ofNat 0)))), none, some (.inl (c3)), some (rf 16 (0)), some (.inl (c4)), some (.inl ((u13) + Int32.ofInt 1)), some (rf 6 ((u13).toNatClampNeg + 1))] [] τ (.inl (some (.inr (.inl w))), σ') := h
        replace h := ei_p h rfl rfl rfl rfl
        obtain ⟨f, g, h⟩ := h
        replace hl := Nat.lt_trans g hl
        replace hf := Nat.lt_trans g hf
        clear g
        replace h : EV F f 48 z48 176 [some (rf 2 (0)), some (.inr (.inr (c1))), y2, y3, y4, y5, some (.inr (.inl (c2))), none, some (.inr (.inl ((u8) + (Int64.ofNat 0)))), none, some (.inl (c3)), some (rf 16 (0)), some (.inl (c4)), some (.inl ((u13) + Int32.ofInt 1)), some (rf 6 ((u13).toNatClampNeg + 1))] [] τ (.inl (some (.inr (.inl w))), σ') := h
        obtain ⟨k8, lx2, lx3, lx4, lx5, lx11, lx12, lx13, lx14, τo, Qh, hso, f', g', h'⟩ := IH f hf ((u8) + (Int64.ofNat 0)) ((u13) + Int32.ofInt 1) y2 y3 y4 y5 (some (rf 6 ((u13).toNatClampNeg + 1))) τ hsτ h
        exact ⟨k8, lx2, lx3, lx4, lx5, lx11, lx12, lx13, lx14, τo, (show B48_176 c1 c2 c3 c4 (Q48_176 c1 c2 c3 c4 N) u8 u13 τ k8 τo from (Or.inr ⟨hp1, (⟨HS_v16 hsτ vp2, (Or.inl ⟨hp3, Qh⟩)⟩)⟩)), hso, f', Nat.lt_trans g' hl, h'⟩
      · skip
        replace hl := Nat.lt_trans g hl
        replace hf := Nat.lt_trans g hf
        clear g
        replace h : EV F f 48 z48 198 [some (rf 2 (0)), some (.inr (.inr (c1))), y2, y3, y4, y5, some (.inr (.inl (c2))), none, some (.inr (.inl (u8))), none, some (.inl (c3)), some (rf 16 (0)), some (.inl (c4)), some (.inl (u13)), some (rf 6 ((u13).toNatClampNeg + 1))] [.inr (.inl (u8))] τ (.inl (some (.inr (.inl w))), σ') := h
        replace h := ei_p h rfl rfl rfl rfl
        obtain ⟨f, g, h⟩ := h
        replace hl := Nat.lt_trans g hl
        replace hf := Nat.lt_trans g hf
        clear g
        replace h : EV F f 48 z48 200 [some (rf 2 (0)), some (.inr (.inr (c1))), y2, y3, y4, y5, some (.inr (.inl (c2))), none, some (.inr (.inl (u8))), none, some (.inl (c3)), some (rf 16 (0)), some (.inl (c4)), some (.inl (u13)), some (rf 6 ((u13).toNatClampNeg + 1))] [.inr (.inl (u8)), .inr (.inl (u8))] τ (.inl (some (.inr (.inl w))), σ') := h
        replace h := ei_p h rfl rfl rfl rfl
        obtain ⟨f, g, h⟩ := h
        replace hl := Nat.lt_trans g hl
        replace hf := Nat.lt_trans g hf
        clear g
        replace h : EV F f 48 z48 202 [some (rf 2 (0)), some (.inr (.inr (c1))), y2, y3, y4, y5, some (.inr (.inl (c2))), none, some (.inr (.inl (u8))), none, some (.inl (c3)), some (rf 16 (0)), some (.inl (c4)), some (.inl (u13)), some (rf 6 ((u13).toNatClampNeg + 1))] [.inr (.inl (c2)), .inr (.inl (u8)), .inr (.inl (u8))] τ (.inl (some (.inr (.inl w))), σ') := h
        replace h := ei_p h rfl rfl rfl rfl
        obtain ⟨f, g, h⟩ := h
        replace hl := Nat.lt_trans g hl
        replace hf := Nat.lt_trans g hf
        clear g
        replace h : EV F f 48 z48 203 [some (rf 2 (0)), some (.inr (.inr (c1))), y2, y3, y4, y5, some (.inr (.inl (c2))), none, some (.inr (.inl (u8))), none, some (.inl (c3)), some (rf 16 (0)), some (.inl (c4)), some (.inl (u13)), some (rf 6 ((u13).toNatClampNeg + 1))] [.inl (lg_cmp (u8) (c2)), .inr (.inl (u8))] τ (.inl (some (.inr (.inl w))), σ') := h
        replace h := ei_c h rfl rfl rfl
        rcases h with ⟨hp4, f, g, h⟩ | ⟨hp4, f, g, h⟩
        · skip
          replace hp4 : (u8).toInt ≠ (c2).toInt := (ab_lc .ne _ _).mp hp4
          replace hl := Nat.lt_trans g hl
          replace hf := Nat.lt_trans g hf
          clear g
          replace h : EV F f 48 z48 210 [some (rf 2 (0)), some (.inr (.inr (c1))), y2, y3, y4, y5, some (.inr (.inl (c2))), none, some (.inr (.inl (u8))), none, some (.inl (c3)), some (rf 16 (0)), some (.inl (c4)), some (.inl (u13)), some (rf 6 ((u13).toNatClampNeg + 1))] [.inr (.inl (u8))] τ (.inl (some (.inr (.inl w))), σ') := h
          replace h := ei_p h rfl rfl rfl rfl
          obtain ⟨f, g, h⟩ := h
          replace hl := Nat.lt_trans g hl
          replace hf := Nat.lt_trans g hf
          clear g
          replace h : EV F f 48 z48 211 [some (rf 2 (0)), some (.inr (.inr (c1))), y2, y3, y4, y5, some (.inr (.inl (c2))), none, some (.inr (.inl (u8))), none, some (.inl (c3)), some (rf 16 (0)), some (.inl (c4)), some (.inl (u13)), some (rf 6 ((u13).toNatClampNeg + 1))] [rf 2 (0), .inr (.inl (u8))] τ (.inl (some (.inr (.inl w))), σ') := h
          replace h := ei_p h rfl rfl rfl rfl
          obtain ⟨f, g, h⟩ := h
          replace hl := Nat.lt_trans g hl
          replace hf := Nat.lt_trans g hf
          clear g
          replace h : EV F f 48 z48 213 [some (rf 2 (0)), some (.inr (.inr (c1))), y2, y3, y4, y5, some (.inr (.inl (c2))), none, some (.inr (.inl (u8))), none, some (.inl (c3)), some (rf 16 (0)), some (.inl (c4)), some (.inl (u13)), some (rf 6 ((u13).toNatClampNeg + 1))] [rf 6 ((u13).toNatClampNeg + 1), rf 2 (0), .inr (.inl (u8))] τ (.inl (some (.inr (.inl w))), σ') := h
          replace h := ei_p h rfl rfl rfl rfl
          obtain ⟨f, g, h⟩ := h
          replace hl := Nat.lt_trans g hl
          replace hf := Nat.lt_trans g hf
          clear g
          replace h : EV F f 48 z48 214 [some (rf 2 (0)), some (.inr (.inr (c1))), y2, y3, y4, y5, some (.inr (.inl (c2))), none, some (.inr (.inl (u8))), none, some (.inl (c3)), some (rf 16 (0)), some (.inl (c4)), some (.inl (u13)), some (rf 6 ((u13).toNatClampNeg + 1))] [.inr (.inl (Int64.ofNat 1)), rf 6 ((u13).toNatClampNeg + 1), rf 2 (0), .inr (.inl (u8))] τ (.inl (some (.inr (.inl w))), σ') := h
          replace h := bk_L (ei_v (as := [.inr (.inl (Int64.ofNat 1)), rf 6 ((u13).toNatClampNeg + 1)]) h rfl rfl rfl) rfl z47_at rfl
          obtain ⟨v5, σ6, r7, f, g, h⟩ := h
          replace hl := Nat.lt_trans g hl
          replace hf := Nat.lt_trans g hf
          clear g
          have p8 := x47 hsτ r7
          have hsσ6 : HS σ6 := HS_run rfl r7 hsτ
          replace h : EV F f 48 z48 217 [some (rf 2 (0)), some (.inr (.inr (c1))), y2, y3, y4, y5, some (.inr (.inl (c2))), none, some (.inr (.inl (u8))), none, some (.inl (c3)), some (rf 16 (0)), some (.inl (c4)), some (.inl (u13)), some (rf 6 ((u13).toNatClampNeg + 1))] [.inr (.inl (v5)), .inr (.inl (u8))] σ6 (.inl (some (.inr (.inl w))), σ') := h
          replace h := ei_p h rfl rfl rfl rfl
          obtain ⟨f, g, h⟩ := h
          replace hl := Nat.lt_trans g hl
          replace hf := Nat.lt_trans g hf
          clear g
          replace h : EV F f 48 z48 218 [some (rf 2 (0)), some (.inr (.inr (c1))), y2, y3, y4, y5, some (.inr (.inl (c2))), none, some (.inr (.inl (u8))), none, some (.inl (c3)), some (rf 16 (0)), some (.inl (c4)), some (.inl (u13)), some (rf 6 ((u13).toNatClampNeg + 1))] [.inr (.inl ((u8) + (v5)))] σ6 (.inl (some (.inr (.inl w))), σ') := h
          replace h := ei_p h rfl rfl rfl rfl
          obtain ⟨f, g, h⟩ := h
          replace hl := Nat.lt_trans g hl
          replace hf := Nat.lt_trans g hf
          clear g
          replace h : EV F f 48 z48 220 [some (rf 2 (0)), some (.inr (.inr (c1))), y2, y3, y4, y5, some (.inr (.inl (c2))), none, some (.inr (.inl ((u8) + (v5)))), none, some (.inl (c3)), some (rf 16 (0)), some (.inl (c4)), some (.inl (u13)), some (rf 6 ((u13).toNatClampNeg + 1))] [] σ6 (.inl (some (.inr (.inl w))), σ') := h
          replace h := ei_p h rfl rfl rfl rfl
          obtain ⟨f, g, h⟩ := h
          replace hl := Nat.lt_trans g hl
          replace hf := Nat.lt_trans g hf
          clear g
          replace h : EV F f 48 z48 223 [some (rf 2 (0)), some (.inr (.inr (c1))), y2, y3, y4, y5, some (.inr (.inl (c2))), none, some (.inr (.inl ((u8) + (v5)))), none, some (.inl (c3)), some (rf 16 (0)), some (.inl (c4)), some (.inl ((u13) + Int32.ofInt 1)), some (rf 6 ((u13).toNatClampNeg + 1))] [] σ6 (.inl (some (.inr (.inl w))), σ') := h
          replace h := ei_p h rfl rfl rfl rfl
          obtain ⟨f, g, h⟩ := h
          replace hl := Nat.lt_trans g hl
          replace hf := Nat.lt_trans g hf
          clear g
          replace h : EV F f 48 z48 176 [some (rf 2 (0)), some (.inr (.inr (c1))), y2, y3, y4, y5, some (.inr (.inl (c2))), none, some (.inr (.inl ((u8) + (v5)))), none, some (.inl (c3)), some (rf 16 (0)), some (.inl (c4)), some (.inl ((u13) + Int32.ofInt 1)), some (rf 6 ((u13).toNatClampNeg + 1))] [] σ6 (.inl (some (.inr (.inl w))), σ') := h
          obtain ⟨k8, lx2, lx3, lx4, lx5, lx11, lx12, lx13, lx14, τo, Qh, hso, f', g', h'⟩ := IH f hf ((u8) + (v5)) ((u13) + Int32.ofInt 1) y2 y3 y4 y5 (some (rf 6 ((u13).toNatClampNeg + 1))) σ6 hsσ6 h
          exact ⟨k8, lx2, lx3, lx4, lx5, lx11, lx12, lx13, lx14, τo, (show B48_176 c1 c2 c3 c4 (Q48_176 c1 c2 c3 c4 N) u8 u13 τ k8 τo from (Or.inr ⟨hp1, (⟨HS_v16 hsτ vp2, (Or.inr ⟨hp3, (Or.inl ⟨hp4, (⟨v5, σ6, fw_run W47 rfl r7, p8, Qh⟩)⟩)⟩)⟩)⟩)), hso, f', Nat.lt_trans g' hl, h'⟩
        · skip
          replace hp4 : ¬ ((u8).toInt ≠ (c2).toInt) := (not_congr (ab_lc .ne _ _)).mp hp4
          replace hl := Nat.lt_trans g hl
          replace hf := Nat.lt_trans g hf
          clear g
          replace h : EV F f 48 z48 206 [some (rf 2 (0)), some (.inr (.inr (c1))), y2, y3, y4, y5, some (.inr (.inl (c2))), none, some (.inr (.inl (u8))), none, some (.inl (c3)), some (rf 16 (0)), some (.inl (c4)), some (.inl (u13)), some (rf 6 ((u13).toNatClampNeg + 1))] [.inr (.inl (u8))] τ (.inl (some (.inr (.inl w))), σ') := h
          replace h := ei_p h rfl rfl rfl rfl
          obtain ⟨f, g, h⟩ := h
          replace hl := Nat.lt_trans g hl
          replace hf := Nat.lt_trans g hf
          clear g
          replace h : EV F f 48 z48 207 [some (rf 2 (0)), some (.inr (.inr (c1))), y2, y3, y4, y5, some (.inr (.inl (c2))), none, some (.inr (.inl (u8))), none, some (.inl (c3)), some (rf 16 (0)), some (.inl (c4)), some (.inl (u13)), some (rf 6 ((u13).toNatClampNeg + 1))] [.inr (.inl (Int64.ofNat 0)), .inr (.inl (u8))] τ (.inl (some (.inr (.inl w))), σ') := h
          replace h := ei_p h rfl rfl rfl rfl
          obtain ⟨f, g, h⟩ := h
          replace hl := Nat.lt_trans g hl
          replace hf := Nat.lt_trans g hf
          clear g
          replace h : EV F f 48 z48 217 [some (rf 2 (0)), some (.inr (.inr (c1))), y2, y3, y4, y5, some (.inr (.inl (c2))), none, some (.inr (.inl (u8))), none, some (.inl (c3)), some (rf 16 (0)), some (.inl (c4)), some (.inl (u13)), some (rf 6 ((u13).toNatClampNeg + 1))] [.inr (.inl (Int64.ofNat 0)), .inr (.inl (u8))] τ (.inl (some (.inr (.inl w))), σ') := h
          replace h := ei_p h rfl rfl rfl rfl
          obtain ⟨f, g, h⟩ := h
          replace hl := Nat.lt_trans g hl
          replace hf := Nat.lt_trans g hf
          clear g
          replace h : EV F f 48 z48 218 [some (rf 2 (0)), some (.inr (.inr (c1))), y2, y3, y4, y5, some (.inr (.inl (c2))), none, some (.inr (.inl (u8))), none, some (.inl (c3)), some (rf 16 (0)), some (.inl (c4)), some (.inl (u13)), some (rf 6 ((u13).toNatClampNeg + 1))] [.inr (.inl ((u8) + (Int64.ofNat 0)))] τ (.inl (some (.inr (.inl w))), σ') := h
          replace h := ei_p h rfl rfl rfl rfl
          obtain ⟨f, g, h⟩ := h
          replace hl := Nat.lt_trans g hl
          replace hf := Nat.lt_trans g hf
          clear g
          replace h : EV F f 48 z48 220 [some (rf 2 (0)), some (.inr (.inr (c1))), y2, y3, y4, y5, some (.inr (.inl (c2))), none, some (.inr (.inl ((u8) + (Int64.ofNat 0)))), none, some (.inl (c3)), some (rf 16 (0)), some (.inl (c4)), some (.inl (u13)), some (rf 6 ((u13).toNatClampNeg + 1))] [] τ (.inl (some (.inr (.inl w))), σ') := h
          replace h := ei_p h rfl rfl rfl rfl
          obtain ⟨f, g, h⟩ := h
          replace hl := Nat.lt_trans g hl
          replace hf := Nat.lt_trans g hf
          clear g
          replace h : EV F f 48 z48 223 [some (rf 2 (0)), some (.inr (.inr (c1))), y2, y3, y4, y5, some (.inr (.inl (c2))), none, some (.inr (.inl ((u8) + (Int64.ofNat 0)))), none, some (.inl (c3)), some (rf 16 (0)), some (.inl (c4)), some (.inl ((u13) + Int32.ofInt 1)), some (rf 6 ((u13).toNatClampNeg + 1))] [] τ (.inl (some (.inr (.inl w))), σ') := h
          replace h := ei_p h rfl rfl rfl rfl
          obtain ⟨f, g, h⟩ := h
          replace hl := Nat.lt_trans g hl
          replace hf := Nat.lt_trans g hf
          clear g
          replace h : EV F f 48 z48 176 [some (rf 2 (0)), some (.inr (.inr (c1))), y2, y3, y4, y5, some (.inr (.inl (c2))), none, some (.inr (.inl ((u8) + (Int64.ofNat 0)))), none, some (.inl (c3)), some (rf 16 (0)), some (.inl (c4)), some (.inl ((u13) + Int32.ofInt 1)), some (rf 6 ((u13).toNatClampNeg + 1))] [] τ (.inl (some (.inr (.inl w))), σ') := h
          obtain ⟨k8, lx2, lx3, lx4, lx5, lx11, lx12, lx13, lx14, τo, Qh, hso, f', g', h'⟩ := IH f hf ((u8) + (Int64.ofNat 0)) ((u13) + Int32.ofInt 1) y2 y3 y4 y5 (some (rf 6 ((u13).toNatClampNeg + 1))) τ hsτ h
          exact ⟨k8, lx2, lx3, lx4, lx5, lx11, lx12, lx13, lx14, τo, (show B48_176 c1 c2 c3 c4 (Q48_176 c1 c2 c3 c4 N) u8 u13 τ k8 τo from (Or.inr ⟨hp1, (⟨HS_v16 hsτ vp2, (Or.inr ⟨hp3, (Or.inr ⟨hp4, Qh⟩)⟩)⟩)⟩)), hso, f', Nat.lt_trans g' hl, h'⟩
abbrev B48_146 (c1 : mR) (c2 : Int64) (ih : Int64 → Int32 → mS → Int64 → mS → Prop) (u8 : Int64) (u10 : Int32) (τ : mS) (w : Int64) (σ' : mS) : Prop := (((1000 : Int) ≤ (u10).toInt ∧ w = (u8) ∧ σ' = τ) ∨ (¬ ((1000 : Int) ≤ (u10).toInt) ∧ (((c2).toInt ≤ (u8).toInt ∧ w = (u8) ∧ σ' = τ) ∨ (¬ ((c2).toInt ≤ (u8).toInt) ∧ ∃ m3 o4 σ13, Q48_176 (c1) (c2) (u10) (Int32.ofInt 5) m3 (u8) (Int32.ofInt 0) τ o4 σ13 ∧ ih (o4) ((u10) + Int32.ofInt 1) σ13 w σ'))))
def Q48_146 (c1 : mR) (c2 : Int64) : Nat → Int64 → Int32 → mS → Int64 → mS → Prop
  | 0 => fun _ _ _ _ _ => False
  | n + 1 => B48_146 c1 c2 (Q48_146 c1 c2 n)
theorem q48_146 {F : Nat} {σ' : mS} {c1 : mR} {c2 : Int64} {w : Int64} : ∀ N f, f < N → ∀ (u8 : Int64) (u10 : Int32) (y2 : Option mV) (y3 : Option mV) (y4 : Option mV) (y5 : Option mV) (y11 : Option mV) (y12 : Option mV) (y13 : Option mV) (y14 : Option mV) (τ : mS), HS τ → EV F f 48 z48 146 [some (rf 2 (0)), some (.inr (.inr (c1))), y2, y3, y4, y5, some (.inr (.inl (c2))), none, some (.inr (.inl (u8))), none, some (.inl (u10)), y11, y12, y13, y14] [] τ (.inl (some (.inr (.inl w))), σ') → Q48_146 c1 c2 N u8 u10 τ w σ' := by
  intro N
  induction N with
  | zero => intro f hf; omega
  | succ N IH =>
    intro f hf0 u8 u10 y2 y3 y4 y5 y11 y12 y13 y14 τ hsτ h
    have hf : f < N + 1 := hf0
    clear hf0
    show B48_146 c1 c2 (Q48_146 c1 c2 N) u8 u10 τ w σ'
    replace h := ei_p h rfl rfl rfl rfl
    obtain ⟨f, g, h⟩ := h
    replace hf := Nat.lt_of_lt_of_le g (Nat.le_of_lt_succ hf)
    clear g
    replace h : EV F f 48 z48 148 [some (rf 2 (0)), some (.inr (.inr (c1))), y2, y3, y4, y5, some (.inr (.inl (c2))), none, some (.inr (.inl (u8))), none, some (.inl (u10)), y11, y12, y13, y14] [.inl (u10)] τ (.inl (some (.inr (.inl w))), σ') := h
    replace h := ei_p h rfl rfl rfl rfl
    obtain ⟨f, g, h⟩ := h
    replace hf := Nat.lt_trans g hf
    clear g
    replace h : EV F f 48 z48 151 [some (rf 2 (0)), some (.inr (.inr (c1))), y2, y3, y4, y5, some (.inr (.inl (c2))), none, some (.inr (.inl (u8))), none, some (.inl (u10)), y11, y12, y13, y14] [.inl (Int32.ofInt 1000), .inl (u10)] τ (.inl (some (.inr (.inl w))), σ') := h
    replace h := ei_c h rfl rfl rfl
    rcases h with ⟨hp1, f, g, h⟩ | ⟨hp1, f, g, h⟩
    · skip
      replace hp1 : (1000 : Int) ≤ (u10).toInt := ic_ge.mp hp1
      refine Or.inl ⟨hp1, ?_⟩
      replace hf := Nat.lt_trans g hf
      clear g
      replace h : EV F f 48 z48 232 [some (rf 2 (0)), some (.inr (.inr (c1))), y2, y3, y4, y5, some (.inr (.inl (c2))), none, some (.inr (.inl (u8))), none, some (.inl (u10)), y11, y12, y13, y14] [] τ (.inl (some (.inr (.inl w))), σ') := h
      replace h := ei_p h rfl rfl rfl rfl
      obtain ⟨f, g, h⟩ := h
      replace hf := Nat.lt_trans g hf
      clear g
      replace h : EV F f 48 z48 234 [some (rf 2 (0)), some (.inr (.inr (c1))), y2, y3, y4, y5, some (.inr (.inl (c2))), none, some (.inr (.inl (u8))), none, some (.inl (u10)), y11, y12, y13, y14] [.inr (.inl (u8))] τ (.inl (some (.inr (.inl w))), σ') := h
      have e := ei_lret h rfl
      cases e
      exact ⟨rfl, rfl⟩
    · skip
      replace hp1 : ¬ ((1000 : Int) ≤ (u10).toInt) := (not_congr ic_ge).mp hp1
      refine Or.inr ⟨hp1, ?_⟩
      replace hf := Nat.lt_trans g hf
      clear g
      replace h : EV F f 48 z48 154 [some (rf 2 (0)), some (.inr (.inr (c1))), y2, y3, y4, y5, some (.inr (.inl (c2))), none, some (.inr (.inl (u8))), none, some (.inl (u10)), y11, y12, y13, y14] [] τ (.inl (some (.inr (.inl w))), σ') := h
      replace h := ei_p h rfl rfl rfl rfl
      obtain ⟨f, g, h⟩ := h
      replace hf := Nat.lt_trans g hf
      clear g
      replace h : EV F f 48 z48 156 [some (rf 2 (0)), some (.inr (.inr (c1))), y2, y3, y4, y5, some (.inr (.inl (c2))), none, some (.inr (.inl (u8))), none, some (.inl (u10)), y11, y12, y13, y14] [.inr (.inl (u8))] τ (.inl (some (.inr (.inl w))), σ') := h
      replace h := ei_p h rfl rfl rfl rfl
      obtain ⟨f, g, h⟩ := h
      replace hf := Nat.lt_trans g hf
      clear g
      replace h : EV F f 48 z48 158 [some (rf 2 (0)), some (.inr (.inr (c1))), y2, y3, y4, y5, some (.inr (.inl (c2))), none, some (.inr (.inl (u8))), none, some (.inl (u10)), y11, y12, y13, y14] [.inr (.inl (c2)), .inr (.inl (u8))] τ (.inl (some (.inr (.inl w))), σ') := h
      replace h := ei_p h rfl rfl rfl rfl
      obtain ⟨f, g, h⟩ := h
      replace hf := Nat.lt_trans g hf
      clear g
      replace h : EV F f 48 z48 159 [some (rf 2 (0)), some (.inr (.inr (c1))), y2, y3, y4, y5, some (.inr (.inl (c2))), none, some (.inr (.inl (u8))), none, some (.inl (u10)), y11, y12, y13, y14] [.inl (lg_cmp (u8) (c2))] τ (.inl (some (.inr (.inl w))), σ') := h
      replace h := ei_c h rfl rfl rfl
      rcases h with ⟨hp2, f, g, h⟩ | ⟨hp2, f, g, h⟩
      · skip
        replace hp2 : (c2).toInt ≤ (u8).toInt := (ab_lc .ge _ _).mp hp2
        refine Or.inl ⟨hp2, ?_⟩
        replace hf := Nat.lt_trans g hf
        clear g
        replace h : EV F f 48 z48 232 [some (rf 2 (0)), some (.inr (.inr (c1))), y2, y3, y4, y5, some (.inr (.inl (c2))), none, some (.inr (.inl (u8))), none, some (.inl (u10)), y11, y12, y13, y14] [] τ (.inl (some (.inr (.inl w))), σ') := h
        replace h := ei_p h rfl rfl rfl rfl
        obtain ⟨f, g, h⟩ := h
        replace hf := Nat.lt_trans g hf
        clear g
        replace h : EV F f 48 z48 234 [some (rf 2 (0)), some (.inr (.inr (c1))), y2, y3, y4, y5, some (.inr (.inl (c2))), none, some (.inr (.inl (u8))), none, some (.inl (u10)), y11, y12, y13, y14] [.inr (.inl (u8))] τ (.inl (some (.inr (.inl w))), σ') := h
        have e := ei_lret h rfl
        cases e
        exact ⟨rfl, rfl⟩
      · skip
        replace hp2 : ¬ ((c2).toInt ≤ (u8).toInt) := (not_congr (ab_lc .ge _ _)).mp hp2
        refine Or.inr ⟨hp2, ?_⟩
        replace hf := Nat.lt_trans g hf
        clear g
        replace h : EV F f 48 z48 162 [some (rf 2 (0)), some (.inr (.inr (c1))), y2, y3, y4, y5, some (.inr (.inl (c2))), none, some (.inr (.inl (u8))), none, some (.inl (u10)), y11, y12, y13, y14] [] τ (.inl (some (.inr (.inl w))), σ') := h
        replace h := ei_p h rfl rfl rfl rfl
        obtain ⟨f, g, h⟩ := h
        replace hf := Nat.lt_trans g hf
        clear g
        replace h : EV F f 48 z48 163 [some (rf 2 (0)), some (.inr (.inr (c1))), y2, y3, y4, y5, some (.inr (.inl (c2))), none, some (.inr (.inl (u8))), none, some (.inl (u10)), y11, y12, y13, y14] [rf 2 (0)] τ (.inl (some (.inr (.inl w))), σ') := h
        replace h := ei_get h rfl (HS_g2_0 hsτ)
        obtain ⟨f, g, h⟩ := h
        replace hf := Nat.lt_trans g hf
        clear g
        replace h : EV F f 48 z48 166 [some (rf 2 (0)), some (.inr (.inr (c1))), y2, y3, y4, y5, some (.inr (.inl (c2))), none, some (.inr (.inl (u8))), none, some (.inl (u10)), y11, y12, y13, y14] [rf 16 (0)] τ (.inl (some (.inr (.inl w))), σ') := h
        replace h := ei_p h rfl rfl rfl rfl
        obtain ⟨f, g, h⟩ := h
        replace hf := Nat.lt_trans g hf
        clear g
        replace h : EV F f 48 z48 168 [some (rf 2 (0)), some (.inr (.inr (c1))), y2, y3, y4, y5, some (.inr (.inl (c2))), none, some (.inr (.inl (u8))), none, some (.inl (u10)), some (rf 16 (0)), y12, y13, y14] [] τ (.inl (some (.inr (.inl w))), σ') := h
        replace h := ei_p h rfl rfl rfl rfl
        obtain ⟨f, g, h⟩ := h
        replace hf := Nat.lt_trans g hf
        clear g
        replace h : EV F f 48 z48 170 [some (rf 2 (0)), some (.inr (.inr (c1))), y2, y3, y4, y5, some (.inr (.inl (c2))), none, some (.inr (.inl (u8))), none, some (.inl (u10)), some (rf 16 (0)), y12, y13, y14] [rf 16 (0)] τ (.inl (some (.inr (.inl w))), σ') := h
        replace h := ei_len h rfl (HS_l16_0 hsτ) ⟨Nat.le_of_ble_eq_true rfl, Nat.le_of_ble_eq_true rfl⟩
        obtain ⟨f, g, h⟩ := h
        replace hf := Nat.lt_trans g hf
        clear g
        replace h : EV F f 48 z48 171 [some (rf 2 (0)), some (.inr (.inr (c1))), y2, y3, y4, y5, some (.inr (.inl (c2))), none, some (.inr (.inl (u8))), none, some (.inl (u10)), some (rf 16 (0)), y12, y13, y14] [.inl (Int32.ofInt 5)] τ (.inl (some (.inr (.inl w))), σ') := h
        replace h := ei_p h rfl rfl rfl rfl
        obtain ⟨f, g, h⟩ := h
        replace hf := Nat.lt_trans g hf
        clear g
        replace h : EV F f 48 z48 173 [some (rf 2 (0)), some (.inr (.inr (c1))), y2, y3, y4, y5, some (.inr (.inl (c2))), none, some (.inr (.inl (u8))), none, some (.inl (u10)), some (rf 16 (0)), some (.inl (Int32.ofInt 5)), y13, y14] [] τ (.inl (some (.inr (.inl w))), σ') := h
        replace h := ei_p h rfl rfl rfl rfl
        obtain ⟨f, g, h⟩ := h
        replace hf := Nat.lt_trans g hf
        clear g
        replace h : EV F f 48 z48 174 [some (rf 2 (0)), some (.inr (.inr (c1))), y2, y3, y4, y5, some (.inr (.inl (c2))), none, some (.inr (.inl (u8))), none, some (.inl (u10)), some (rf 16 (0)), some (.inl (Int32.ofInt 5)), y13, y14] [.inl (Int32.ofInt 0)] τ (.inl (some (.inr (.inl w))), σ') := h
        replace h := ei_p h rfl rfl rfl rfl
        obtain ⟨f, g, h⟩ := h
        replace hf := Nat.lt_trans g hf
        clear g
        replace h : EV F f 48 z48 176 [some (rf 2 (0)), some (.inr (.inr (c1))), y2, y3, y4, y5, some (.inr (.inl (c2))), none, some (.inr (.inl (u8))), none, some (.inl (u10)), some (rf 16 (0)), some (.inl (Int32.ofInt 5)), some (.inl (Int32.ofInt 0)), y14] [] τ (.inl (some (.inr (.inl w))), σ') := h
        obtain ⟨o4, y_5, y_6, y_7, y_8, y_9, y_10, y_11, y_12, σ13, qh14, hsσ13, f, g, h⟩ := q48_176 (f + 1) f (Nat.lt_succ_self f) (u8) (Int32.ofInt 0) _ _ _ _ _ τ hsτ h
        replace hf := Nat.lt_trans g hf
        clear g
        refine ⟨_, o4, σ13, qh14, ?_⟩
        replace h : EV F f 48 z48 226 [some (rf 2 (0)), some (.inr (.inr (c1))), y_5, y_6, y_7, y_8, some (.inr (.inl (c2))), none, some (.inr (.inl (o4))), none, some (.inl (u10)), y_9, y_10, y_11, y_12] [] σ13 (.inl (some (.inr (.inl w))), σ') := h
        replace h := ei_p h rfl rfl rfl rfl
        obtain ⟨f, g, h⟩ := h
        replace hf := Nat.lt_trans g hf
        clear g
        replace h : EV F f 48 z48 229 [some (rf 2 (0)), some (.inr (.inr (c1))), y_5, y_6, y_7, y_8, some (.inr (.inl (c2))), none, some (.inr (.inl (o4))), none, some (.inl ((u10) + Int32.ofInt 1)), y_9, y_10, y_11, y_12] [] σ13 (.inl (some (.inr (.inl w))), σ') := h
        replace h := ei_p h rfl rfl rfl rfl
        obtain ⟨f, g, h⟩ := h
        replace hf := Nat.lt_trans g hf
        clear g
        replace h : EV F f 48 z48 146 [some (rf 2 (0)), some (.inr (.inr (c1))), y_5, y_6, y_7, y_8, some (.inr (.inl (c2))), none, some (.inr (.inl (o4))), none, some (.inl ((u10) + Int32.ofInt 1)), y_9, y_10, y_11, y_12] [] σ13 (.inl (some (.inr (.inl w))), σ') := h
        exact IH f hf (o4) ((u10) + Int32.ofInt 1) y_5 y_6 y_7 y_8 y_9 y_10 y_11 y_12 σ13 hsσ13 h
abbrev B48_91 (c1 : mR) (c2 : Int64) (c3 : Int64) (c4 : Int32) (ih : Int64 → Int32 → mS → Int64 → mS → Prop) (u8 : Int64) (u12 : Int32) (τ : mS) (w : Int64) (σ' : mS) : Prop := (((c4).toInt ≤ (u12).toInt ∧ ∃ n, Q48_146 (c1) (c3) n (u8) (Int32.ofInt 0) τ w σ') ∨ (¬ ((c4).toInt ≤ (u12).toInt) ∧ (0 ≤ (u12).toInt ∧ (u12).toInt < 5) ∧ ((((some (6, (u12).toNatClampNeg + 1)) : mR) = (c1) ∧ ih ((u8) + (Int64.ofNat 0)) ((u12) + Int32.ofInt 1) τ w σ') ∨ (¬ (((some (6, (u12).toNatClampNeg + 1)) : mR) = (c1)) ∧ ∃ v5 σ6, fw_e w47 τ σ6 ∧ P47 τ (some (6, (u12).toNatClampNeg + 1)) (((c3) * (m_l τ 6 ((u12).toNatClampNeg + 1) 4)) / (c2)) v5 σ6 ∧ ih ((u8) + (v5)) ((u12) + Int32.ofInt 1) σ6 w σ'))))
def Q48_91 (c1 : mR) (c2 : Int64) (c3 : Int64) (c4 : Int32) : Nat → Int64 → Int32 → mS → Int64 → mS → Prop
  | 0 => fun _ _ _ _ _ => False
  | n + 1 => B48_91 c1 c2 c3 c4 (Q48_91 c1 c2 c3 c4 n)
theorem q48_91 {F : Nat} {σ' : mS} {c1 : mR} {c2 : Int64} {c3 : Int64} {c4 : Int32} {w : Int64} : ∀ N f, f < N → ∀ (u8 : Int64) (u12 : Int32) (y2 : Option mV) (y3 : Option mV) (y13 : Option mV) (y14 : Option mV) (τ : mS), HS τ → EV F f 48 z48 91 [some (rf 2 (0)), some (.inr (.inr (c1))), y2, y3, some (.inr (.inl (c2))), none, some (.inr (.inl (c3))), none, some (.inr (.inl (u8))), none, some (rf 16 (0)), some (.inl (c4)), some (.inl (u12)), y13, y14] [] τ (.inl (some (.inr (.inl w))), σ') → Q48_91 c1 c2 c3 c4 N u8 u12 τ w σ' := by
  intro N
  induction N with
  | zero => intro f hf; omega
  | succ N IH =>
    intro f hf0 u8 u12 y2 y3 y13 y14 τ hsτ h
    have hf : f < N + 1 := hf0
    clear hf0
    show B48_91 c1 c2 c3 c4 (Q48_91 c1 c2 c3 c4 N) u8 u12 τ w σ'
    replace h := ei_p h rfl rfl rfl rfl
    obtain ⟨f, g, h⟩ := h
    replace hf := Nat.lt_of_lt_of_le g (Nat.le_of_lt_succ hf)
    clear g
    replace h : EV F f 48 z48 93 [some (rf 2 (0)), some (.inr (.inr (c1))), y2, y3, some (.inr (.inl (c2))), none, some (.inr (.inl (c3))), none, some (.inr (.inl (u8))), none, some (rf 16 (0)), some (.inl (c4)), some (.inl (u12)), y13, y14] [.inl (u12)] τ (.inl (some (.inr (.inl w))), σ') := h
    replace h := ei_p h rfl rfl rfl rfl
    obtain ⟨f, g, h⟩ := h
    replace hf := Nat.lt_trans g hf
    clear g
    replace h : EV F f 48 z48 95 [some (rf 2 (0)), some (.inr (.inr (c1))), y2, y3, some (.inr (.inl (c2))), none, some (.inr (.inl (c3))), none, some (.inr (.inl (u8))), none, some (rf 16 (0)), some (.inl (c4)), some (.inl (u12)), y13, y14] [.inl (c4), .inl (u12)] τ (.inl (some (.inr (.inl w))), σ') := h
    replace h := ei_c h rfl rfl rfl
    rcases h with ⟨hp1, f, g, h⟩ | ⟨hp1, f, g, h⟩
    · skip
      replace hp1 : (c4).toInt ≤ (u12).toInt := ic_ge.mp hp1
      refine Or.inl ⟨hp1, ?_⟩
      replace hf := Nat.lt_trans g hf
      clear g
      replace h : EV F f 48 z48 143 [some (rf 2 (0)), some (.inr (.inr (c1))), y2, y3, some (.inr (.inl (c2))), none, some (.inr (.inl (c3))), none, some (.inr (.inl (u8))), none, some (rf 16 (0)), some (.inl (c4)), some (.inl (u12)), y13, y14] [] τ (.inl (some (.inr (.inl w))), σ') := h
      replace h := ei_p h rfl rfl rfl rfl
      obtain ⟨f, g, h⟩ := h
      replace hf := Nat.lt_trans g hf
      clear g
      replace h : EV F f 48 z48 144 [some (rf 2 (0)), some (.inr (.inr (c1))), y2, y3, some (.inr (.inl (c2))), none, some (.inr (.inl (c3))), none, some (.inr (.inl (u8))), none, some (rf 16 (0)), some (.inl (c4)), some (.inl (u12)), y13, y14] [.inl (Int32.ofInt 0)] τ (.inl (some (.inr (.inl w))), σ') := h
      replace h := ei_p h rfl rfl rfl rfl
      obtain ⟨f, g, h⟩ := h
      replace hf := Nat.lt_trans g hf
      clear g
      replace h : EV F f 48 z48 146 [some (rf 2 (0)), some (.inr (.inr (c1))), y2, y3, some (.inr (.inl (c2))), none, some (.inr (.inl (c3))), none, some (.inr (.inl (u8))), none, some (.inl (Int32.ofInt 0)), some (.inl (c4)), some (.inl (u12)), y13, y14] [] τ (.inl (some (.inr (.inl w))), σ') := h
      exact ⟨f + 1, q48_146 (f + 1) f (Nat.lt_succ_self f) (u8) (Int32.ofInt 0) _ _ _ _ _ _ _ _ τ hsτ h⟩
    · skip
      replace hp1 : ¬ ((c4).toInt ≤ (u12).toInt) := (not_congr ic_ge).mp hp1
      refine Or.inr ⟨hp1, ?_⟩
      replace hf := Nat.lt_trans g hf
      clear g
      replace h : EV F f 48 z48 98 [some (rf 2 (0)), some (.inr (.inr (c1))), y2, y3, some (.inr (.inl (c2))), none, some (.inr (.inl (c3))), none, some (.inr (.inl (u8))), none, some (rf 16 (0)), some (.inl (c4)), some (.inl (u12)), y13, y14] [] τ (.inl (some (.inr (.inl w))), σ') := h
      replace h := ei_p h rfl rfl rfl rfl
      obtain ⟨f, g, h⟩ := h
      replace hf := Nat.lt_trans g hf
      clear g
      replace h : EV F f 48 z48 100 [some (rf 2 (0)), some (.inr (.inr (c1))), y2, y3, some (.inr (.inl (c2))), none, some (.inr (.inl (c3))), none, some (.inr (.inl (u8))), none, some (rf 16 (0)), some (.inl (c4)), some (.inl (u12)), y13, y14] [rf 16 (0)] τ (.inl (some (.inr (.inl w))), σ') := h
      replace h := ei_p h rfl rfl rfl rfl
      obtain ⟨f, g, h⟩ := h
      replace hf := Nat.lt_trans g hf
      clear g
      replace h : EV F f 48 z48 102 [some (rf 2 (0)), some (.inr (.inr (c1))), y2, y3, some (.inr (.inl (c2))), none, some (.inr (.inl (c3))), none, some (.inr (.inl (u8))), none, some (rf 16 (0)), some (.inl (c4)), some (.inl (u12)), y13, y14] [.inl (u12), rf 16 (0)] τ (.inl (some (.inr (.inl w))), σ') := h
      replace h := ei_ald h rfl (HS_a16 hsτ)
      obtain ⟨vp2, f, g, h⟩ := h
      replace hf := Nat.lt_trans g hf
      clear g
      replace h : EV F f 48 z48 103 [some (rf 2 (0)), some (.inr (.inr (c1))), y2, y3, some (.inr (.inl (c2))), none, some (.inr (.inl (c3))), none, some (.inr (.inl (u8))), none, some (rf 16 (0)), some (.inl (c4)), some (.inl (u12)), y13, y14] [rf 6 ((u12).toNatClampNeg + 1)] τ (.inl (some (.inr (.inl w))), σ') := h
      refine ⟨HS_v16 hsτ vp2, ?_⟩
      replace h := ei_p h rfl rfl rfl rfl
      obtain ⟨f, g, h⟩ := h
      replace hf := Nat.lt_trans g hf
      clear g
      replace h : EV F f 48 z48 105 [some (rf 2 (0)), some (.inr (.inr (c1))), y2, y3, some (.inr (.inl (c2))), none, some (.inr (.inl (c3))), none, some (.inr (.inl (u8))), none, some (rf 16 (0)), some (.inl (c4)), some (.inl (u12)), some (rf 6 ((u12).toNatClampNeg + 1)), y14] [] τ (.inl (some (.inr (.inl w))), σ') := h
      replace h := ei_p h rfl rfl rfl rfl
      obtain ⟨f, g, h⟩ := h
      replace hf := Nat.lt_trans g hf
      clear g
      replace h : EV F f 48 z48 107 [some (rf 2 (0)), some (.inr (.inr (c1))), y2, y3, some (.inr (.inl (c2))), none, some (.inr (.inl (c3))), none, some (.inr (.inl (u8))), none, some (rf 16 (0)), some (.inl (c4)), some (.inl (u12)), some (rf 6 ((u12).toNatClampNeg + 1)), y14] [.inr (.inl (u8))] τ (.inl (some (.inr (.inl w))), σ') := h
      replace h := ei_p h rfl rfl rfl rfl
      obtain ⟨f, g, h⟩ := h
      replace hf := Nat.lt_trans g hf
      clear g
      replace h : EV F f 48 z48 109 [some (rf 2 (0)), some (.inr (.inr (c1))), y2, y3, some (.inr (.inl (c2))), none, some (.inr (.inl (c3))), none, some (.inr (.inl (u8))), none, some (rf 16 (0)), some (.inl (c4)), some (.inl (u12)), some (rf 6 ((u12).toNatClampNeg + 1)), y14] [rf 6 ((u12).toNatClampNeg + 1), .inr (.inl (u8))] τ (.inl (some (.inr (.inl w))), σ') := h
      replace h := ei_p h rfl rfl rfl rfl
      obtain ⟨f, g, h⟩ := h
      replace hf := Nat.lt_trans g hf
      clear g
      replace h : EV F f 48 z48 110 [some (rf 2 (0)), some (.inr (.inr (c1))), y2, y3, some (.inr (.inl (c2))), none, some (.inr (.inl (c3))), none, some (.inr (.inl (u8))), none, some (rf 16 (0)), some (.inl (c4)), some (.inl (u12)), some (rf 6 ((u12).toNatClampNeg + 1)), y14] [.inr (.inr (c1)), rf 6 ((u12).toNatClampNeg + 1), .inr (.inl (u8))] τ (.inl (some (.inr (.inl w))), σ') := h
      replace h := ei_c h rfl rfl rfl
      rcases h with ⟨hp3, f, g, h⟩ | ⟨hp3, f, g, h⟩
      · skip
        refine Or.inr ⟨hp3, ?_⟩
        replace hf := Nat.lt_trans g hf
        clear g
        replace h : EV F f 48 z48 117 [some (rf 2 (0)), some (.inr (.inr (c1))), y2, y3, some (.inr (.inl (c2))), none, some (.inr (.inl (c3))), none, some (.inr (.inl (u8))), none, some (rf 16 (0)), some (.inl (c4)), some (.inl (u12)), some (rf 6 ((u12).toNatClampNeg + 1)), y14] [.inr (.inl (u8))] τ (.inl (some (.inr (.inl w))), σ') := h
        replace h := ei_p h rfl rfl rfl rfl
        obtain ⟨f, g, h⟩ := h
        replace hf := Nat.lt_trans g hf
        clear g
        replace h : EV F f 48 z48 118 [some (rf 2 (0)), some (.inr (.inr (c1))), y2, y3, some (.inr (.inl (c2))), none, some (.inr (.inl (c3))), none, some (.inr (.inl (u8))), none, some (rf 16 (0)), some (.inl (c4)), some (.inl (u12)), some (rf 6 ((u12).toNatClampNeg + 1)), y14] [rf 2 (0), .inr (.inl (u8))] τ (.inl (some (.inr (.inl w))), σ') := h
        replace h := ei_p h rfl rfl rfl rfl
        obtain ⟨f, g, h⟩ := h
        replace hf := Nat.lt_trans g hf
        clear g
        replace h : EV F f 48 z48 120 [some (rf 2 (0)), some (.inr (.inr (c1))), y2, y3, some (.inr (.inl (c2))), none, some (.inr (.inl (c3))), none, some (.inr (.inl (u8))), none, some (rf 16 (0)), some (.inl (c4)), some (.inl (u12)), some (rf 6 ((u12).toNatClampNeg + 1)), y14] [rf 6 ((u12).toNatClampNeg + 1), rf 2 (0), .inr (.inl (u8))] τ (.inl (some (.inr (.inl w))), σ') := h
        replace h := ei_p h rfl rfl rfl rfl
        obtain ⟨f, g, h⟩ := h
        replace hf := Nat.lt_trans g hf
        clear g
        replace h : EV F f 48 z48 122 [some (rf 2 (0)), some (.inr (.inr (c1))), y2, y3, some (.inr (.inl (c2))), none, some (.inr (.inl (c3))), none, some (.inr (.inl (u8))), none, some (rf 16 (0)), some (.inl (c4)), some (.inl (u12)), some (rf 6 ((u12).toNatClampNeg + 1)), y14] [.inr (.inl (c3)), rf 6 ((u12).toNatClampNeg + 1), rf 2 (0), .inr (.inl (u8))] τ (.inl (some (.inr (.inl w))), σ') := h
        replace h := ei_p h rfl rfl rfl rfl
        obtain ⟨f, g, h⟩ := h
        replace hf := Nat.lt_trans g hf
        clear g
        replace h : EV F f 48 z48 124 [some (rf 2 (0)), some (.inr (.inr (c1))), y2, y3, some (.inr (.inl (c2))), none, some (.inr (.inl (c3))), none, some (.inr (.inl (u8))), none, some (rf 16 (0)), some (.inl (c4)), some (.inl (u12)), some (rf 6 ((u12).toNatClampNeg + 1)), y14] [rf 6 ((u12).toNatClampNeg + 1), .inr (.inl (c3)), rf 6 ((u12).toNatClampNeg + 1), rf 2 (0), .inr (.inl (u8))] τ (.inl (some (.inr (.inl w))), σ') := h
        replace h := ei_get h rfl rfl
        obtain ⟨f, g, h⟩ := h
        replace hf := Nat.lt_trans g hf
        clear g
        replace h : EV F f 48 z48 127 [some (rf 2 (0)), some (.inr (.inr (c1))), y2, y3, some (.inr (.inl (c2))), none, some (.inr (.inl (c3))), none, some (.inr (.inl (u8))), none, some (rf 16 (0)), some (.inl (c4)), some (.inl (u12)), some (rf 6 ((u12).toNatClampNeg + 1)), y14] [.inr (.inl (m_l τ 6 ((u12).toNatClampNeg + 1) 4)), .inr (.inl (c3)), rf 6 ((u12).toNatClampNeg + 1), rf 2 (0), .inr (.inl (u8))] τ (.inl (some (.inr (.inl w))), σ') := h
        replace h := ei_p h rfl rfl rfl rfl
        obtain ⟨f, g, h⟩ := h
        replace hf := Nat.lt_trans g hf
        clear g
        replace h : EV F f 48 z48 128 [some (rf 2 (0)), some (.inr (.inr (c1))), y2, y3, some (.inr (.inl (c2))), none, some (.inr (.inl (c3))), none, some (.inr (.inl (u8))), none, some (rf 16 (0)), some (.inl (c4)), some (.inl (u12)), some (rf 6 ((u12).toNatClampNeg + 1)), y14] [.inr (.inl ((c3) * (m_l τ 6 ((u12).toNatClampNeg + 1) 4))), rf 6 ((u12).toNatClampNeg + 1), rf 2 (0), .inr (.inl (u8))] τ (.inl (some (.inr (.inl w))), σ') := h
        replace h := ei_p h rfl rfl rfl rfl
        obtain ⟨f, g, h⟩ := h
        replace hf := Nat.lt_trans g hf
        clear g
        replace h : EV F f 48 z48 130 [some (rf 2 (0)), some (.inr (.inr (c1))), y2, y3, some (.inr (.inl (c2))), none, some (.inr (.inl (c3))), none, some (.inr (.inl (u8))), none, some (rf 16 (0)), some (.inl (c4)), some (.inl (u12)), some (rf 6 ((u12).toNatClampNeg + 1)), y14] [.inr (.inl (c2)), .inr (.inl ((c3) * (m_l τ 6 ((u12).toNatClampNeg + 1) 4))), rf 6 ((u12).toNatClampNeg + 1), rf 2 (0), .inr (.inl (u8))] τ (.inl (some (.inr (.inl w))), σ') := h
        replace h := ei_ldiv h rfl
        obtain ⟨hd4, f, g, h⟩ := h
        replace hf := Nat.lt_trans g hf
        clear g
        replace h : EV F f 48 z48 131 [some (rf 2 (0)), some (.inr (.inr (c1))), y2, y3, some (.inr (.inl (c2))), none, some (.inr (.inl (c3))), none, some (.inr (.inl (u8))), none, some (rf 16 (0)), some (.inl (c4)), some (.inl (u12)), some (rf 6 ((u12).toNatClampNeg + 1)), y14] [.inr (.inl (((c3) * (m_l τ 6 ((u12).toNatClampNeg + 1) 4)) / (c2))), rf 6 ((u12).toNatClampNeg + 1), rf 2 (0), .inr (.inl (u8))] τ (.inl (some (.inr (.inl w))), σ') := h
        replace h := bk_L (ei_v (as := [.inr (.inl (((c3) * (m_l τ 6 ((u12).toNatClampNeg + 1) 4)) / (c2))), rf 6 ((u12).toNatClampNeg + 1)]) h rfl rfl rfl) rfl z47_at rfl
        obtain ⟨v5, σ6, r7, f, g, h⟩ := h
        replace hf := Nat.lt_trans g hf
        clear g
        have p8 := x47 hsτ r7
        have hsσ6 : HS σ6 := HS_run rfl r7 hsτ
        refine ⟨v5, σ6, fw_run W47 rfl r7, p8, ?_⟩
        replace h : EV F f 48 z48 134 [some (rf 2 (0)), some (.inr (.inr (c1))), y2, y3, some (.inr (.inl (c2))), none, some (.inr (.inl (c3))), none, some (.inr (.inl (u8))), none, some (rf 16 (0)), some (.inl (c4)), some (.inl (u12)), some (rf 6 ((u12).toNatClampNeg + 1)), y14] [.inr (.inl (v5)), .inr (.inl (u8))] σ6 (.inl (some (.inr (.inl w))), σ') := h
        replace h := ei_p h rfl rfl rfl rfl
        obtain ⟨f, g, h⟩ := h
        replace hf := Nat.lt_trans g hf
        clear g
        replace h : EV F f 48 z48 135 [some (rf 2 (0)), some (.inr (.inr (c1))), y2, y3, some (.inr (.inl (c2))), none, some (.inr (.inl (c3))), none, some (.inr (.inl (u8))), none, some (rf 16 (0)), some (.inl (c4)), some (.inl (u12)), some (rf 6 ((u12).toNatClampNeg + 1)), y14] [.inr (.inl ((u8) + (v5)))] σ6 (.inl (some (.inr (.inl w))), σ') := h
        replace h := ei_p h rfl rfl rfl rfl
        obtain ⟨f, g, h⟩ := h
        replace hf := Nat.lt_trans g hf
        clear g
        replace h : EV F f 48 z48 137 [some (rf 2 (0)), some (.inr (.inr (c1))), y2, y3, some (.inr (.inl (c2))), none, some (.inr (.inl (c3))), none, some (.inr (.inl ((u8) + (v5)))), none, some (rf 16 (0)), some (.inl (c4)), some (.inl (u12)), some (rf 6 ((u12).toNatClampNeg + 1)), y14] [] σ6 (.inl (some (.inr (.inl w))), σ') := h
        replace h := ei_p h rfl rfl rfl rfl
        obtain ⟨f, g, h⟩ := h
        replace hf := Nat.lt_trans g hf
        clear g
        replace h : EV F f 48 z48 140 [some (rf 2 (0)), some (.inr (.inr (c1))), y2, y3, some (.inr (.inl (c2))), none, some (.inr (.inl (c3))), none, some (.inr (.inl ((u8) + (v5)))), none, some (rf 16 (0)), some (.inl (c4)), some (.inl ((u12) + Int32.ofInt 1)), some (rf 6 ((u12).toNatClampNeg + 1)), y14] [] σ6 (.inl (some (.inr (.inl w))), σ') := h
        replace h := ei_p h rfl rfl rfl rfl
        obtain ⟨f, g, h⟩ := h
        replace hf := Nat.lt_trans g hf
        clear g
        replace h : EV F f 48 z48 91 [some (rf 2 (0)), some (.inr (.inr (c1))), y2, y3, some (.inr (.inl (c2))), none, some (.inr (.inl (c3))), none, some (.inr (.inl ((u8) + (v5)))), none, some (rf 16 (0)), some (.inl (c4)), some (.inl ((u12) + Int32.ofInt 1)), some (rf 6 ((u12).toNatClampNeg + 1)), y14] [] σ6 (.inl (some (.inr (.inl w))), σ') := h
        exact IH f hf ((u8) + (v5)) ((u12) + Int32.ofInt 1) y2 y3 (some (rf 6 ((u12).toNatClampNeg + 1))) y14 σ6 hsσ6 h
      · skip
        replace hp3 := Classical.not_not.mp hp3
        refine Or.inl ⟨hp3, ?_⟩
        replace hf := Nat.lt_trans g hf
        clear g
        replace h : EV F f 48 z48 113 [some (rf 2 (0)), some (.inr (.inr (c1))), y2, y3, some (.inr (.inl (c2))), none, some (.inr (.inl (c3))), none, some (.inr (.inl (u8))), none, some (rf 16 (0)), some (.inl (c4)), some (.inl (u12)), some (rf 6 ((u12).toNatClampNeg + 1)), y14] [.inr (.inl (u8))] τ (.inl (some (.inr (.inl w))), σ') := h
        replace h := ei_p h rfl rfl rfl rfl
        obtain ⟨f, g, h⟩ := h
        replace hf := Nat.lt_trans g hf
        clear g
        replace h : EV F f 48 z48 114 [some (rf 2 (0)), some (.inr (.inr (c1))), y2, y3, some (.inr (.inl (c2))), none, some (.inr (.inl (c3))), none, some (.inr (.inl (u8))), none, some (rf 16 (0)), some (.inl (c4)), some (.inl (u12)), some (rf 6 ((u12).toNatClampNeg + 1)), y14] [.inr (.inl (Int64.ofNat 0)), .inr (.inl (u8))] τ (.inl (some (.inr (.inl w))), σ') := h
        replace h := ei_p h rfl rfl rfl rfl
        obtain ⟨f, g, h⟩ := h
        replace hf := Nat.lt_trans g hf
        clear g
        replace h : EV F f 48 z48 134 [some (rf 2 (0)), some (.inr (.inr (c1))), y2, y3, some (.inr (.inl (c2))), none, some (.inr (.inl (c3))), none, some (.inr (.inl (u8))), none, some (rf 16 (0)), some (.inl (c4)), some (.inl (u12)), some (rf 6 ((u12).toNatClampNeg + 1)), y14] [.inr (.inl (Int64.ofNat 0)), .inr (.inl (u8))] τ (.inl (some (.inr (.inl w))), σ') := h
        replace h := ei_p h rfl rfl rfl rfl
        obtain ⟨f, g, h⟩ := h
        replace hf := Nat.lt_trans g hf
        clear g
        replace h : EV F f 48 z48 135 [some (rf 2 (0)), some (.inr (.inr (c1))), y2, y3, some (.inr (.inl (c2))), none, some (.inr (.inl (c3))), none, some (.inr (.inl (u8))), none, some (rf 16 (0)), some (.inl (c4)), some (.inl (u12)), some (rf 6 ((u12).toNatClampNeg + 1)), y14] [.inr (.inl ((u8) + (Int64.ofNat 0)))] τ (.inl (some (.inr (.inl w))), σ') := h
        replace h := ei_p h rfl rfl rfl rfl
        obtain ⟨f, g, h⟩ := h
        replace hf := Nat.lt_trans g hf
        clear g
        replace h : EV F f 48 z48 137 [some (rf 2 (0)), some (.inr (.inr (c1))), y2, y3, some (.inr (.inl (c2))), none, some (.inr (.inl (c3))), none, some (.inr (.inl ((u8) + (Int64.ofNat 0)))), none, some (rf 16 (0)), some (.inl (c4)), some (.inl (u12)), some (rf 6 ((u12).toNatClampNeg + 1)), y14] [] τ (.inl (some (.inr (.inl w))), σ') := h
        replace h := ei_p h rfl rfl rfl rfl
        obtain ⟨f, g, h⟩ := h
        replace hf := Nat.lt_trans g hf
        clear g
        replace h : EV F f 48 z48 140 [some (rf 2 (0)), some (.inr (.inr (c1))), y2, y3, some (.inr (.inl (c2))), none, some (.inr (.inl (c3))), none, some (.inr (.inl ((u8) + (Int64.ofNat 0)))), none, some (rf 16 (0)), some (.inl (c4)), some (.inl ((u12) + Int32.ofInt 1)), some (rf 6 ((u12).toNatClampNeg + 1)), y14] [] τ (.inl (some (.inr (.inl w))), σ') := h
        replace h := ei_p h rfl rfl rfl rfl
        obtain ⟨f, g, h⟩ := h
        replace hf := Nat.lt_trans g hf
        clear g
        replace h : EV F f 48 z48 91 [some (rf 2 (0)), some (.inr (.inr (c1))), y2, y3, some (.inr (.inl (c2))), none, some (.inr (.inl (c3))), none, some (.inr (.inl ((u8) + (Int64.ofNat 0)))), none, some (rf 16 (0)), some (.inl (c4)), some (.inl ((u12) + Int32.ofInt 1)), some (rf 6 ((u12).toNatClampNeg + 1)), y14] [] τ (.inl (some (.inr (.inl w))), σ') := h
        exact IH f hf ((u8) + (Int64.ofNat 0)) ((u12) + Int32.ofInt 1) y2 y3 (some (rf 6 ((u12).toNatClampNeg + 1))) y14 τ hsτ h
abbrev B48_17 (c1 : mR) (c2 : Int64) (c3 : Int32) (ih : Int64 → Int32 → mS → Int64 → mS → Prop) (u4 : Int64) (u8 : Int32) (τ : mS) (w : Int64) (σ' : mS) : Prop := (((c3).toInt ≤ (u8).toInt ∧ (((Int64.ofNat 0).toInt < (u4).toInt ∧ ∃ n, Q48_91 (c1) (u4) (lmin (c2) (u4)) (Int32.ofInt 5) n (Int64.ofNat 0) (Int32.ofInt 0) τ w σ') ∨ (¬ ((Int64.ofNat 0).toInt < (u4).toInt) ∧ w = (Int64.ofNat 0) ∧ σ' = τ))) ∨ (¬ ((c3).toInt ≤ (u8).toInt) ∧ (0 ≤ (u8).toInt ∧ (u8).toInt < 5) ∧ ((((some (6, (u8).toNatClampNeg + 1)) : mR) = (c1) ∧ ih ((u4) + (Int64.ofNat 0)) ((u8) + Int32.ofInt 1) τ w σ') ∨ (¬ (((some (6, (u8).toNatClampNeg + 1)) : mR) = (c1)) ∧ ∃ n5, n5 = (u4) + (m_l τ 6 ((u8).toNatClampNeg + 1) 4) ∧ ih (n5) ((u8) + Int32.ofInt 1) τ w σ'))))
def Q48_17 (c1 : mR) (c2 : Int64) (c3 : Int32) : Nat → Int64 → Int32 → mS → Int64 → mS → Prop
  | 0 => fun _ _ _ _ _ => False
  | n + 1 => B48_17 c1 c2 c3 (Q48_17 c1 c2 c3 n)
theorem q48_17 {F : Nat} {σ' : mS} {c1 : mR} {c2 : Int64} {c3 : Int32} {w : Int64} : ∀ N f, f < N → ∀ (u4 : Int64) (u8 : Int32) (y9 : Option mV) (y10 : Option mV) (y11 : Option mV) (y12 : Option mV) (y13 : Option mV) (y14 : Option mV) (τ : mS), HS τ → EV F f 48 z48 17 [some (rf 2 (0)), some (.inr (.inr (c1))), some (.inr (.inl (c2))), none, some (.inr (.inl (u4))), none, some (rf 16 (0)), some (.inl (c3)), some (.inl (u8)), y9, y10, y11, y12, y13, y14] [] τ (.inl (some (.inr (.inl w))), σ') → Q48_17 c1 c2 c3 N u4 u8 τ w σ' := by
  intro N
  induction N with
  | zero => intro f hf; omega
  | succ N IH =>
    intro f hf0 u4 u8 y9 y10 y11 y12 y13 y14 τ hsτ h
    have hf : f < N + 1 := hf0
    clear hf0
    show B48_17 c1 c2 c3 (Q48_17 c1 c2 c3 N) u4 u8 τ w σ'
    replace h := ei_p h rfl rfl rfl rfl
    obtain ⟨f, g, h⟩ := h
    replace hf := Nat.lt_of_lt_of_le g (Nat.le_of_lt_succ hf)
    clear g
    replace h : EV F f 48 z48 19 [some (rf 2 (0)), some (.inr (.inr (c1))), some (.inr (.inl (c2))), none, some (.inr (.inl (u4))), none, some (rf 16 (0)), some (.inl (c3)), some (.inl (u8)), y9, y10, y11, y12, y13, y14] [.inl (u8)] τ (.inl (some (.inr (.inl w))), σ') := h
    replace h := ei_p h rfl rfl rfl rfl
    obtain ⟨f, g, h⟩ := h
    replace hf := Nat.lt_trans g hf
    clear g
    replace h : EV F f 48 z48 21 [some (rf 2 (0)), some (.inr (.inr (c1))), some (.inr (.inl (c2))), none, some (.inr (.inl (u4))), none, some (rf 16 (0)), some (.inl (c3)), some (.inl (u8)), y9, y10, y11, y12, y13, y14] [.inl (c3), .inl (u8)] τ (.inl (some (.inr (.inl w))), σ') := h
    replace h := ei_c h rfl rfl rfl
    rcases h with ⟨hp1, f, g, h⟩ | ⟨hp1, f, g, h⟩
    · skip
      replace hp1 : (c3).toInt ≤ (u8).toInt := ic_ge.mp hp1
      refine Or.inl ⟨hp1, ?_⟩
      replace hf := Nat.lt_trans g hf
      clear g
      replace h : EV F f 48 z48 57 [some (rf 2 (0)), some (.inr (.inr (c1))), some (.inr (.inl (c2))), none, some (.inr (.inl (u4))), none, some (rf 16 (0)), some (.inl (c3)), some (.inl (u8)), y9, y10, y11, y12, y13, y14] [] τ (.inl (some (.inr (.inl w))), σ') := h
      replace h := ei_p h rfl rfl rfl rfl
      obtain ⟨f, g, h⟩ := h
      replace hf := Nat.lt_trans g hf
      clear g
      replace h : EV F f 48 z48 59 [some (rf 2 (0)), some (.inr (.inr (c1))), some (.inr (.inl (c2))), none, some (.inr (.inl (u4))), none, some (rf 16 (0)), some (.inl (c3)), some (.inl (u8)), y9, y10, y11, y12, y13, y14] [.inr (.inl (u4))] τ (.inl (some (.inr (.inl w))), σ') := h
      replace h := ei_p h rfl rfl rfl rfl
      obtain ⟨f, g, h⟩ := h
      replace hf := Nat.lt_trans g hf
      clear g
      replace h : EV F f 48 z48 60 [some (rf 2 (0)), some (.inr (.inr (c1))), some (.inr (.inl (c2))), none, some (.inr (.inl (u4))), none, some (rf 16 (0)), some (.inl (c3)), some (.inl (u8)), y9, y10, y11, y12, y13, y14] [.inr (.inl (Int64.ofNat 0)), .inr (.inl (u4))] τ (.inl (some (.inr (.inl w))), σ') := h
      replace h := ei_p h rfl rfl rfl rfl
      obtain ⟨f, g, h⟩ := h
      replace hf := Nat.lt_trans g hf
      clear g
      replace h : EV F f 48 z48 61 [some (rf 2 (0)), some (.inr (.inr (c1))), some (.inr (.inl (c2))), none, some (.inr (.inl (u4))), none, some (rf 16 (0)), some (.inl (c3)), some (.inl (u8)), y9, y10, y11, y12, y13, y14] [.inl (lg_cmp (u4) (Int64.ofNat 0))] τ (.inl (some (.inr (.inl w))), σ') := h
      replace h := ei_c h rfl rfl rfl
      rcases h with ⟨hp2, f, g, h⟩ | ⟨hp2, f, g, h⟩
      · skip
        replace hp2 : (Int64.ofNat 0).toInt < (u4).toInt := (ab_lc .gt _ _).mp hp2
        refine Or.inl ⟨hp2, ?_⟩
        replace hf := Nat.lt_trans g hf
        clear g
        replace h : EV F f 48 z48 66 [some (rf 2 (0)), some (.inr (.inr (c1))), some (.inr (.inl (c2))), none, some (.inr (.inl (u4))), none, some (rf 16 (0)), some (.inl (c3)), some (.inl (u8)), y9, y10, y11, y12, y13, y14] [] τ (.inl (some (.inr (.inl w))), σ') := h
        replace h := ei_p h rfl rfl rfl rfl
        obtain ⟨f, g, h⟩ := h
        replace hf := Nat.lt_trans g hf
        clear g
        replace h : EV F f 48 z48 67 [some (rf 2 (0)), some (.inr (.inr (c1))), some (.inr (.inl (c2))), none, some (.inr (.inl (u4))), none, some (rf 16 (0)), some (.inl (c3)), some (.inl (u8)), y9, y10, y11, y12, y13, y14] [.inr (.inl (c2))] τ (.inl (some (.inr (.inl w))), σ') := h
        replace h := ei_p h rfl rfl rfl rfl
        obtain ⟨f, g, h⟩ := h
        replace hf := Nat.lt_trans g hf
        clear g
        replace h : EV F f 48 z48 69 [some (rf 2 (0)), some (.inr (.inr (c1))), some (.inr (.inl (c2))), none, some (.inr (.inl (u4))), none, some (rf 16 (0)), some (.inl (c3)), some (.inl (u8)), y9, y10, y11, y12, y13, y14] [.inr (.inl (u4)), .inr (.inl (c2))] τ (.inl (some (.inr (.inl w))), σ') := h
        replace h := ei_m (st' := [.inr (.inl (lmin (c2) (u4)))]) h rfl (Nat.le_of_ble_eq_true rfl) (fun w hw => (Option.some.inj (ev_if_some.mp hw).2).symm)
        obtain ⟨f, g, h⟩ := h
        replace hf := Nat.lt_trans g hf
        clear g
        replace h : EV F f 48 z48 72 [some (rf 2 (0)), some (.inr (.inr (c1))), some (.inr (.inl (c2))), none, some (.inr (.inl (u4))), none, some (rf 16 (0)), some (.inl (c3)), some (.inl (u8)), y9, y10, y11, y12, y13, y14] [.inr (.inl (lmin (c2) (u4)))] τ (.inl (some (.inr (.inl w))), σ') := h
        replace h := ei_p h rfl rfl rfl rfl
        obtain ⟨f, g, h⟩ := h
        replace hf := Nat.lt_trans g hf
        clear g
        replace h : EV F f 48 z48 74 [some (rf 2 (0)), some (.inr (.inr (c1))), some (.inr (.inl (c2))), none, some (.inr (.inl (u4))), none, some (.inr (.inl (lmin (c2) (u4)))), none, some (.inl (u8)), y9, y10, y11, y12, y13, y14] [] τ (.inl (some (.inr (.inl w))), σ') := h
        replace h := ei_p h rfl rfl rfl rfl
        obtain ⟨f, g, h⟩ := h
        replace hf := Nat.lt_trans g hf
        clear g
        replace h : EV F f 48 z48 75 [some (rf 2 (0)), some (.inr (.inr (c1))), some (.inr (.inl (c2))), none, some (.inr (.inl (u4))), none, some (.inr (.inl (lmin (c2) (u4)))), none, some (.inl (u8)), y9, y10, y11, y12, y13, y14] [.inr (.inl (Int64.ofNat 0))] τ (.inl (some (.inr (.inl w))), σ') := h
        replace h := ei_p h rfl rfl rfl rfl
        obtain ⟨f, g, h⟩ := h
        replace hf := Nat.lt_trans g hf
        clear g
        replace h : EV F f 48 z48 77 [some (rf 2 (0)), some (.inr (.inr (c1))), some (.inr (.inl (c2))), none, some (.inr (.inl (u4))), none, some (.inr (.inl (lmin (c2) (u4)))), none, some (.inr (.inl (Int64.ofNat 0))), none, y10, y11, y12, y13, y14] [] τ (.inl (some (.inr (.inl w))), σ') := h
        replace h := ei_p h rfl rfl rfl rfl
        obtain ⟨f, g, h⟩ := h
        replace hf := Nat.lt_trans g hf
        clear g
        replace h : EV F f 48 z48 78 [some (rf 2 (0)), some (.inr (.inr (c1))), some (.inr (.inl (c2))), none, some (.inr (.inl (u4))), none, some (.inr (.inl (lmin (c2) (u4)))), none, some (.inr (.inl (Int64.ofNat 0))), none, y10, y11, y12, y13, y14] [rf 2 (0)] τ (.inl (some (.inr (.inl w))), σ') := h
        replace h := ei_get h rfl (HS_g2_0 hsτ)
        obtain ⟨f, g, h⟩ := h
        replace hf := Nat.lt_trans g hf
        clear g
        replace h : EV F f 48 z48 81 [some (rf 2 (0)), some (.inr (.inr (c1))), some (.inr (.inl (c2))), none, some (.inr (.inl (u4))), none, some (.inr (.inl (lmin (c2) (u4)))), none, some (.inr (.inl (Int64.ofNat 0))), none, y10, y11, y12, y13, y14] [rf 16 (0)] τ (.inl (some (.inr (.inl w))), σ') := h
        replace h := ei_p h rfl rfl rfl rfl
        obtain ⟨f, g, h⟩ := h
        replace hf := Nat.lt_trans g hf
        clear g
        replace h : EV F f 48 z48 83 [some (rf 2 (0)), some (.inr (.inr (c1))), some (.inr (.inl (c2))), none, some (.inr (.inl (u4))), none, some (.inr (.inl (lmin (c2) (u4)))), none, some (.inr (.inl (Int64.ofNat 0))), none, some (rf 16 (0)), y11, y12, y13, y14] [] τ (.inl (some (.inr (.inl w))), σ') := h
        replace h := ei_p h rfl rfl rfl rfl
        obtain ⟨f, g, h⟩ := h
        replace hf := Nat.lt_trans g hf
        clear g
        replace h : EV F f 48 z48 85 [some (rf 2 (0)), some (.inr (.inr (c1))), some (.inr (.inl (c2))), none, some (.inr (.inl (u4))), none, some (.inr (.inl (lmin (c2) (u4)))), none, some (.inr (.inl (Int64.ofNat 0))), none, some (rf 16 (0)), y11, y12, y13, y14] [rf 16 (0)] τ (.inl (some (.inr (.inl w))), σ') := h
        replace h := ei_len h rfl (HS_l16_0 hsτ) ⟨Nat.le_of_ble_eq_true rfl, Nat.le_of_ble_eq_true rfl⟩
        obtain ⟨f, g, h⟩ := h
        replace hf := Nat.lt_trans g hf
        clear g
        replace h : EV F f 48 z48 86 [some (rf 2 (0)), some (.inr (.inr (c1))), some (.inr (.inl (c2))), none, some (.inr (.inl (u4))), none, some (.inr (.inl (lmin (c2) (u4)))), none, some (.inr (.inl (Int64.ofNat 0))), none, some (rf 16 (0)), y11, y12, y13, y14] [.inl (Int32.ofInt 5)] τ (.inl (some (.inr (.inl w))), σ') := h
        replace h := ei_p h rfl rfl rfl rfl
        obtain ⟨f, g, h⟩ := h
        replace hf := Nat.lt_trans g hf
        clear g
        replace h : EV F f 48 z48 88 [some (rf 2 (0)), some (.inr (.inr (c1))), some (.inr (.inl (c2))), none, some (.inr (.inl (u4))), none, some (.inr (.inl (lmin (c2) (u4)))), none, some (.inr (.inl (Int64.ofNat 0))), none, some (rf 16 (0)), some (.inl (Int32.ofInt 5)), y12, y13, y14] [] τ (.inl (some (.inr (.inl w))), σ') := h
        replace h := ei_p h rfl rfl rfl rfl
        obtain ⟨f, g, h⟩ := h
        replace hf := Nat.lt_trans g hf
        clear g
        replace h : EV F f 48 z48 89 [some (rf 2 (0)), some (.inr (.inr (c1))), some (.inr (.inl (c2))), none, some (.inr (.inl (u4))), none, some (.inr (.inl (lmin (c2) (u4)))), none, some (.inr (.inl (Int64.ofNat 0))), none, some (rf 16 (0)), some (.inl (Int32.ofInt 5)), y12, y13, y14] [.inl (Int32.ofInt 0)] τ (.inl (some (.inr (.inl w))), σ') := h
        replace h := ei_p h rfl rfl rfl rfl
        obtain ⟨f, g, h⟩ := h
        replace hf := Nat.lt_trans g hf
        clear g
        replace h : EV F f 48 z48 91 [some (rf 2 (0)), some (.inr (.inr (c1))), some (.inr (.inl (c2))), none, some (.inr (.inl (u4))), none, some (.inr (.inl (lmin (c2) (u4)))), none, some (.inr (.inl (Int64.ofNat 0))), none, some (rf 16 (0)), some (.inl (Int32.ofInt 5)), some (.inl (Int32.ofInt 0)), y13, y14] [] τ (.inl (some (.inr (.inl w))), σ') := h
        exact ⟨f + 1, q48_91 (f + 1) f (Nat.lt_succ_self f) (Int64.ofNat 0) (Int32.ofInt 0) _ _ _ _ τ hsτ h⟩
      · skip
        replace hp2 : ¬ ((Int64.ofNat 0).toInt < (u4).toInt) := (not_congr (ab_lc .gt _ _)).mp hp2
        refine Or.inr ⟨hp2, ?_⟩
        replace hf := Nat.lt_trans g hf
        clear g
        replace h : EV F f 48 z48 64 [some (rf 2 (0)), some (.inr (.inr (c1))), some (.inr (.inl (c2))), none, some (.inr (.inl (u4))), none, some (rf 16 (0)), some (.inl (c3)), some (.inl (u8)), y9, y10, y11, y12, y13, y14] [] τ (.inl (some (.inr (.inl w))), σ') := h
        replace h := ei_p h rfl rfl rfl rfl
        obtain ⟨f, g, h⟩ := h
        replace hf := Nat.lt_trans g hf
        clear g
        replace h : EV F f 48 z48 65 [some (rf 2 (0)), some (.inr (.inr (c1))), some (.inr (.inl (c2))), none, some (.inr (.inl (u4))), none, some (rf 16 (0)), some (.inl (c3)), some (.inl (u8)), y9, y10, y11, y12, y13, y14] [.inr (.inl (Int64.ofNat 0))] τ (.inl (some (.inr (.inl w))), σ') := h
        have e := ei_lret h rfl
        cases e
        exact ⟨rfl, rfl⟩
    · skip
      replace hp1 : ¬ ((c3).toInt ≤ (u8).toInt) := (not_congr ic_ge).mp hp1
      refine Or.inr ⟨hp1, ?_⟩
      replace hf := Nat.lt_trans g hf
      clear g
      replace h : EV F f 48 z48 24 [some (rf 2 (0)), some (.inr (.inr (c1))), some (.inr (.inl (c2))), none, some (.inr (.inl (u4))), none, some (rf 16 (0)), some (.inl (c3)), some (.inl (u8)), y9, y10, y11, y12, y13, y14] [] τ (.inl (some (.inr (.inl w))), σ') := h
      replace h := ei_p h rfl rfl rfl rfl
      obtain ⟨f, g, h⟩ := h
      replace hf := Nat.lt_trans g hf
      clear g
      replace h : EV F f 48 z48 26 [some (rf 2 (0)), some (.inr (.inr (c1))), some (.inr (.inl (c2))), none, some (.inr (.inl (u4))), none, some (rf 16 (0)), some (.inl (c3)), some (.inl (u8)), y9, y10, y11, y12, y13, y14] [rf 16 (0)] τ (.inl (some (.inr (.inl w))), σ') := h
      replace h := ei_p h rfl rfl rfl rfl
      obtain ⟨f, g, h⟩ := h
      replace hf := Nat.lt_trans g hf
      clear g
      replace h : EV F f 48 z48 28 [some (rf 2 (0)), some (.inr (.inr (c1))), some (.inr (.inl (c2))), none, some (.inr (.inl (u4))), none, some (rf 16 (0)), some (.inl (c3)), some (.inl (u8)), y9, y10, y11, y12, y13, y14] [.inl (u8), rf 16 (0)] τ (.inl (some (.inr (.inl w))), σ') := h
      replace h := ei_ald h rfl (HS_a16 hsτ)
      obtain ⟨vp3, f, g, h⟩ := h
      replace hf := Nat.lt_trans g hf
      clear g
      replace h : EV F f 48 z48 29 [some (rf 2 (0)), some (.inr (.inr (c1))), some (.inr (.inl (c2))), none, some (.inr (.inl (u4))), none, some (rf 16 (0)), some (.inl (c3)), some (.inl (u8)), y9, y10, y11, y12, y13, y14] [rf 6 ((u8).toNatClampNeg + 1)] τ (.inl (some (.inr (.inl w))), σ') := h
      refine ⟨HS_v16 hsτ vp3, ?_⟩
      replace h := ei_p h rfl rfl rfl rfl
      obtain ⟨f, g, h⟩ := h
      replace hf := Nat.lt_trans g hf
      clear g
      replace h : EV F f 48 z48 31 [some (rf 2 (0)), some (.inr (.inr (c1))), some (.inr (.inl (c2))), none, some (.inr (.inl (u4))), none, some (rf 16 (0)), some (.inl (c3)), some (.inl (u8)), some (rf 6 ((u8).toNatClampNeg + 1)), y10, y11, y12, y13, y14] [] τ (.inl (some (.inr (.inl w))), σ') := h
      replace h := ei_p h rfl rfl rfl rfl
      obtain ⟨f, g, h⟩ := h
      replace hf := Nat.lt_trans g hf
      clear g
      replace h : EV F f 48 z48 33 [some (rf 2 (0)), some (.inr (.inr (c1))), some (.inr (.inl (c2))), none, some (.inr (.inl (u4))), none, some (rf 16 (0)), some (.inl (c3)), some (.inl (u8)), some (rf 6 ((u8).toNatClampNeg + 1)), y10, y11, y12, y13, y14] [.inr (.inl (u4))] τ (.inl (some (.inr (.inl w))), σ') := h
      replace h := ei_p h rfl rfl rfl rfl
      obtain ⟨f, g, h⟩ := h
      replace hf := Nat.lt_trans g hf
      clear g
      replace h : EV F f 48 z48 35 [some (rf 2 (0)), some (.inr (.inr (c1))), some (.inr (.inl (c2))), none, some (.inr (.inl (u4))), none, some (rf 16 (0)), some (.inl (c3)), some (.inl (u8)), some (rf 6 ((u8).toNatClampNeg + 1)), y10, y11, y12, y13, y14] [rf 6 ((u8).toNatClampNeg + 1), .inr (.inl (u4))] τ (.inl (some (.inr (.inl w))), σ') := h
      replace h := ei_p h rfl rfl rfl rfl
      obtain ⟨f, g, h⟩ := h
      replace hf := Nat.lt_trans g hf
      clear g
      replace h : EV F f 48 z48 36 [some (rf 2 (0)), some (.inr (.inr (c1))), some (.inr (.inl (c2))), none, some (.inr (.inl (u4))), none, some (rf 16 (0)), some (.inl (c3)), some (.inl (u8)), some (rf 6 ((u8).toNatClampNeg + 1)), y10, y11, y12, y13, y14] [.inr (.inr (c1)), rf 6 ((u8).toNatClampNeg + 1), .inr (.inl (u4))] τ (.inl (some (.inr (.inl w))), σ') := h
      replace h := ei_c h rfl rfl rfl
      rcases h with ⟨hp4, f, g, h⟩ | ⟨hp4, f, g, h⟩
      · skip
        refine Or.inr ⟨hp4, ?_⟩
        replace hf := Nat.lt_trans g hf
        clear g
        replace h : EV F f 48 z48 43 [some (rf 2 (0)), some (.inr (.inr (c1))), some (.inr (.inl (c2))), none, some (.inr (.inl (u4))), none, some (rf 16 (0)), some (.inl (c3)), some (.inl (u8)), some (rf 6 ((u8).toNatClampNeg + 1)), y10, y11, y12, y13, y14] [.inr (.inl (u4))] τ (.inl (some (.inr (.inl w))), σ') := h
        replace h := ei_p h rfl rfl rfl rfl
        obtain ⟨f, g, h⟩ := h
        replace hf := Nat.lt_trans g hf
        clear g
        replace h : EV F f 48 z48 45 [some (rf 2 (0)), some (.inr (.inr (c1))), some (.inr (.inl (c2))), none, some (.inr (.inl (u4))), none, some (rf 16 (0)), some (.inl (c3)), some (.inl (u8)), some (rf 6 ((u8).toNatClampNeg + 1)), y10, y11, y12, y13, y14] [rf 6 ((u8).toNatClampNeg + 1), .inr (.inl (u4))] τ (.inl (some (.inr (.inl w))), σ') := h
        replace h := ei_get h rfl rfl
        obtain ⟨f, g, h⟩ := h
        replace hf := Nat.lt_trans g hf
        clear g
        replace h : EV F f 48 z48 48 [some (rf 2 (0)), some (.inr (.inr (c1))), some (.inr (.inl (c2))), none, some (.inr (.inl (u4))), none, some (rf 16 (0)), some (.inl (c3)), some (.inl (u8)), some (rf 6 ((u8).toNatClampNeg + 1)), y10, y11, y12, y13, y14] [.inr (.inl (m_l τ 6 ((u8).toNatClampNeg + 1) 4)), .inr (.inl (u4))] τ (.inl (some (.inr (.inl w))), σ') := h
        replace h := ei_p h rfl rfl rfl rfl
        obtain ⟨f, g, h⟩ := h
        replace hf := Nat.lt_trans g hf
        clear g
        replace h : EV F f 48 z48 49 [some (rf 2 (0)), some (.inr (.inr (c1))), some (.inr (.inl (c2))), none, some (.inr (.inl (u4))), none, some (rf 16 (0)), some (.inl (c3)), some (.inl (u8)), some (rf 6 ((u8).toNatClampNeg + 1)), y10, y11, y12, y13, y14] [.inr (.inl ((u4) + (m_l τ 6 ((u8).toNatClampNeg + 1) 4)))] τ (.inl (some (.inr (.inl w))), σ') := h
        replace h := ei_p h rfl rfl rfl rfl
        obtain ⟨f, g, h⟩ := h
        replace hf := Nat.lt_trans g hf
        clear g
        replace h : EV F f 48 z48 51 [some (rf 2 (0)), some (.inr (.inr (c1))), some (.inr (.inl (c2))), none, some (.inr (.inl ((u4) + (m_l τ 6 ((u8).toNatClampNeg + 1) 4)))), none, some (rf 16 (0)), some (.inl (c3)), some (.inl (u8)), some (rf 6 ((u8).toNatClampNeg + 1)), y10, y11, y12, y13, y14] [] τ (.inl (some (.inr (.inl w))), σ') := h
        obtain ⟨n5, e6⟩ : ∃ s, s = (u4) + (m_l τ 6 ((u8).toNatClampNeg + 1) 4) := ⟨_, rfl⟩
        rw [← e6] at h
        refine ⟨n5, e6, ?_⟩
        replace h : EV F f 48 z48 51 [some (rf 2 (0)), some (.inr (.inr (c1))), some (.inr (.inl (c2))), none, some (.inr (.inl (n5))), none, some (rf 16 (0)), some (.inl (c3)), some (.inl (u8)), some (rf 6 ((u8).toNatClampNeg + 1)), y10, y11, y12, y13, y14] [] τ (.inl (some (.inr (.inl w))), σ') := h
        replace h := ei_p h rfl rfl rfl rfl
        obtain ⟨f, g, h⟩ := h
        replace hf := Nat.lt_trans g hf
        clear g
        replace h : EV F f 48 z48 54 [some (rf 2 (0)), some (.inr (.inr (c1))), some (.inr (.inl (c2))), none, some (.inr (.inl (n5))), none, some (rf 16 (0)), some (.inl (c3)), some (.inl ((u8) + Int32.ofInt 1)), some (rf 6 ((u8).toNatClampNeg + 1)), y10, y11, y12, y13, y14] [] τ (.inl (some (.inr (.inl w))), σ') := h
        replace h := ei_p h rfl rfl rfl rfl
        obtain ⟨f, g, h⟩ := h
        replace hf := Nat.lt_trans g hf
        clear g
        replace h : EV F f 48 z48 17 [some (rf 2 (0)), some (.inr (.inr (c1))), some (.inr (.inl (c2))), none, some (.inr (.inl (n5))), none, some (rf 16 (0)), some (.inl (c3)), some (.inl ((u8) + Int32.ofInt 1)), some (rf 6 ((u8).toNatClampNeg + 1)), y10, y11, y12, y13, y14] [] τ (.inl (some (.inr (.inl w))), σ') := h
        exact IH f hf (n5) ((u8) + Int32.ofInt 1) (some (rf 6 ((u8).toNatClampNeg + 1))) y10 y11 y12 y13 y14 τ hsτ h
      · skip
        replace hp4 := Classical.not_not.mp hp4
        refine Or.inl ⟨hp4, ?_⟩
        replace hf := Nat.lt_trans g hf
        clear g
        replace h : EV F f 48 z48 39 [some (rf 2 (0)), some (.inr (.inr (c1))), some (.inr (.inl (c2))), none, some (.inr (.inl (u4))), none, some (rf 16 (0)), some (.inl (c3)), some (.inl (u8)), some (rf 6 ((u8).toNatClampNeg + 1)), y10, y11, y12, y13, y14] [.inr (.inl (u4))] τ (.inl (some (.inr (.inl w))), σ') := h
        replace h := ei_p h rfl rfl rfl rfl
        obtain ⟨f, g, h⟩ := h
        replace hf := Nat.lt_trans g hf
        clear g
        replace h : EV F f 48 z48 40 [some (rf 2 (0)), some (.inr (.inr (c1))), some (.inr (.inl (c2))), none, some (.inr (.inl (u4))), none, some (rf 16 (0)), some (.inl (c3)), some (.inl (u8)), some (rf 6 ((u8).toNatClampNeg + 1)), y10, y11, y12, y13, y14] [.inr (.inl (Int64.ofNat 0)), .inr (.inl (u4))] τ (.inl (some (.inr (.inl w))), σ') := h
        replace h := ei_p h rfl rfl rfl rfl
        obtain ⟨f, g, h⟩ := h
        replace hf := Nat.lt_trans g hf
        clear g
        replace h : EV F f 48 z48 48 [some (rf 2 (0)), some (.inr (.inr (c1))), some (.inr (.inl (c2))), none, some (.inr (.inl (u4))), none, some (rf 16 (0)), some (.inl (c3)), some (.inl (u8)), some (rf 6 ((u8).toNatClampNeg + 1)), y10, y11, y12, y13, y14] [.inr (.inl (Int64.ofNat 0)), .inr (.inl (u4))] τ (.inl (some (.inr (.inl w))), σ') := h
        replace h := ei_p h rfl rfl rfl rfl
        obtain ⟨f, g, h⟩ := h
        replace hf := Nat.lt_trans g hf
        clear g
        replace h : EV F f 48 z48 49 [some (rf 2 (0)), some (.inr (.inr (c1))), some (.inr (.inl (c2))), none, some (.inr (.inl (u4))), none, some (rf 16 (0)), some (.inl (c3)), some (.inl (u8)), some (rf 6 ((u8).toNatClampNeg + 1)), y10, y11, y12, y13, y14] [.inr (.inl ((u4) + (Int64.ofNat 0)))] τ (.inl (some (.inr (.inl w))), σ') := h
        replace h := ei_p h rfl rfl rfl rfl
        obtain ⟨f, g, h⟩ := h
        replace hf := Nat.lt_trans g hf
        clear g
        replace h : EV F f 48 z48 51 [some (rf 2 (0)), some (.inr (.inr (c1))), some (.inr (.inl (c2))), none, some (.inr (.inl ((u4) + (Int64.ofNat 0)))), none, some (rf 16 (0)), some (.inl (c3)), some (.inl (u8)), some (rf 6 ((u8).toNatClampNeg + 1)), y10, y11, y12, y13, y14] [] τ (.inl (some (.inr (.inl w))), σ') := h
        replace h := ei_p h rfl rfl rfl rfl
        obtain ⟨f, g, h⟩ := h
        replace hf := Nat.lt_trans g hf
        clear g
        replace h : EV F f 48 z48 54 [some (rf 2 (0)), some (.inr (.inr (c1))), some (.inr (.inl (c2))), none, some (.inr (.inl ((u4) + (Int64.ofNat 0)))), none, some (rf 16 (0)), some (.inl (c3)), some (.inl ((u8) + Int32.ofInt 1)), some (rf 6 ((u8).toNatClampNeg + 1)), y10, y11, y12, y13, y14] [] τ (.inl (some (.inr (.inl w))), σ') := h
        replace h := ei_p h rfl rfl rfl rfl
        obtain ⟨f, g, h⟩ := h
        replace hf := Nat.lt_trans g hf
        clear g
        replace h : EV F f 48 z48 17 [some (rf 2 (0)), some (.inr (.inr (c1))), some (.inr (.inl (c2))), none, some (.inr (.inl ((u4) + (Int64.ofNat 0)))), none, some (rf 16 (0)), some (.inl (c3)), some (.inl ((u8) + Int32.ofInt 1)), some (rf 6 ((u8).toNatClampNeg + 1)), y10, y11, y12, y13, y14] [] τ (.inl (some (.inr (.inl w))), σ') := h
        exact IH f hf ((u4) + (Int64.ofNat 0)) ((u8) + Int32.ofInt 1) (some (rf 6 ((u8).toNatClampNeg + 1))) y10 y11 y12 y13 y14 τ hsτ h
def P48 (σ : mS) (x1 : mR) (x2 : Int64) (w : Int64) (σ' : mS) : Prop := ∃ n, Q48_17 (x1) (x2) (Int32.ofInt 5) n (Int64.ofNat 0) (Int32.ofInt 0) σ w σ'
theorem x48 {σ σ' : mS} {x1 : mR} {x2 : Int64} {w : Int64} (hs : HS σ) (h : ev_run sm_all 48 [rf 2 (0), .inr (.inr (x1)), .inr (.inl (x2))] σ (.inl (some (.inr (.inl w)))) σ') : P48 σ x1 x2 w σ' := by
  unfold P48
  obtain ⟨F, f, h⟩ := ei_go h z48_at
  replace h : EV F f 48 z48 0 [some (rf 2 (0)), some (.inr (.inr (x1))), some (.inr (.inl (x2))), none, none, none, none, none, none, none, none, none, none, none, none] [] σ (.inl (some (.inr (.inl w))), σ') := h
  replace h := ei_p h rfl rfl rfl rfl
  obtain ⟨f, g, h⟩ := h
  clear g
  replace h : EV F f 48 z48 1 [some (rf 2 (0)), some (.inr (.inr (x1))), some (.inr (.inl (x2))), none, none, none, none, none, none, none, none, none, none, none, none] [.inr (.inl (Int64.ofNat 0))] σ (.inl (some (.inr (.inl w))), σ') := h
  replace h := ei_p h rfl rfl rfl rfl
  obtain ⟨f, g, h⟩ := h
  clear g
  replace h : EV F f 48 z48 3 [some (rf 2 (0)), some (.inr (.inr (x1))), some (.inr (.inl (x2))), none, some (.inr (.inl (Int64.ofNat 0))), none, none, none, none, none, none, none, none, none, none] [] σ (.inl (some (.inr (.inl w))), σ') := h
  replace h := ei_p h rfl rfl rfl rfl
  obtain ⟨f, g, h⟩ := h
  clear g
  replace h : EV F f 48 z48 4 [some (rf 2 (0)), some (.inr (.inr (x1))), some (.inr (.inl (x2))), none, some (.inr (.inl (Int64.ofNat 0))), none, none, none, none, none, none, none, none, none, none] [rf 2 (0)] σ (.inl (some (.inr (.inl w))), σ') := h
  replace h := ei_get h rfl (HS_g2_0 hs)
  obtain ⟨f, g, h⟩ := h
  clear g
  replace h : EV F f 48 z48 7 [some (rf 2 (0)), some (.inr (.inr (x1))), some (.inr (.inl (x2))), none, some (.inr (.inl (Int64.ofNat 0))), none, none, none, none, none, none, none, none, none, none] [rf 16 (0)] σ (.inl (some (.inr (.inl w))), σ') := h
  replace h := ei_p h rfl rfl rfl rfl
  obtain ⟨f, g, h⟩ := h
  clear g
  replace h : EV F f 48 z48 9 [some (rf 2 (0)), some (.inr (.inr (x1))), some (.inr (.inl (x2))), none, some (.inr (.inl (Int64.ofNat 0))), none, some (rf 16 (0)), none, none, none, none, none, none, none, none] [] σ (.inl (some (.inr (.inl w))), σ') := h
  replace h := ei_p h rfl rfl rfl rfl
  obtain ⟨f, g, h⟩ := h
  clear g
  replace h : EV F f 48 z48 11 [some (rf 2 (0)), some (.inr (.inr (x1))), some (.inr (.inl (x2))), none, some (.inr (.inl (Int64.ofNat 0))), none, some (rf 16 (0)), none, none, none, none, none, none, none, none] [rf 16 (0)] σ (.inl (some (.inr (.inl w))), σ') := h
  replace h := ei_len h rfl (HS_l16_0 hs) ⟨Nat.le_of_ble_eq_true rfl, Nat.le_of_ble_eq_true rfl⟩
  obtain ⟨f, g, h⟩ := h
  clear g
  replace h : EV F f 48 z48 12 [some (rf 2 (0)), some (.inr (.inr (x1))), some (.inr (.inl (x2))), none, some (.inr (.inl (Int64.ofNat 0))), none, some (rf 16 (0)), none, none, none, none, none, none, none, none] [.inl (Int32.ofInt 5)] σ (.inl (some (.inr (.inl w))), σ') := h
  replace h := ei_p h rfl rfl rfl rfl
  obtain ⟨f, g, h⟩ := h
  clear g
  replace h : EV F f 48 z48 14 [some (rf 2 (0)), some (.inr (.inr (x1))), some (.inr (.inl (x2))), none, some (.inr (.inl (Int64.ofNat 0))), none, some (rf 16 (0)), some (.inl (Int32.ofInt 5)), none, none, none, none, none, none, none] [] σ (.inl (some (.inr (.inl w))), σ') := h
  replace h := ei_p h rfl rfl rfl rfl
  obtain ⟨f, g, h⟩ := h
  clear g
  replace h : EV F f 48 z48 15 [some (rf 2 (0)), some (.inr (.inr (x1))), some (.inr (.inl (x2))), none, some (.inr (.inl (Int64.ofNat 0))), none, some (rf 16 (0)), some (.inl (Int32.ofInt 5)), none, none, none, none, none, none, none] [.inl (Int32.ofInt 0)] σ (.inl (some (.inr (.inl w))), σ') := h
  replace h := ei_p h rfl rfl rfl rfl
  obtain ⟨f, g, h⟩ := h
  clear g
  replace h : EV F f 48 z48 17 [some (rf 2 (0)), some (.inr (.inr (x1))), some (.inr (.inl (x2))), none, some (.inr (.inl (Int64.ofNat 0))), none, some (rf 16 (0)), some (.inl (Int32.ofInt 5)), some (.inl (Int32.ofInt 0)), none, none, none, none, none, none] [] σ (.inl (some (.inr (.inl w))), σ') := h
  exact ⟨f + 1, q48_17 (f + 1) f (Nat.lt_succ_self f) (Int64.ofNat 0) (Int32.ofInt 0) _ _ _ _ _ _ σ hs h⟩
