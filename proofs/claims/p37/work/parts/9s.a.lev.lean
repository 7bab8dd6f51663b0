/-! levels, by rising keys: a place, a quantity, the next key -/
def z77 : mAl := ((yX5_init, cX5_init, 1, none, { frames := 1, cells := 2, slots := 960, locals := 20 }, []), rw_X5_init, true)
theorem z77_at : m_alF[77]? = some z77 := rfl
def z78 : mAl := ((yX5_quantityAt, cX5_quantityAt, 3, (some .int), { frames := 1, cells := 0, slots := 0, locals := 22 }, []), rw_X5_quantityAt, false)
theorem z78_at : m_alF[78]? = some z78 := rfl
def z79 : mAl := ((yX5_keyAbove, cX5_keyAbove, 3, (some .int), { frames := 1, cells := 0, slots := 0, locals := 22 }, []), rw_X5_keyAbove, false)
theorem z79_at : m_alF[79]? = some z79 := rfl
def z80 : mAl := ((yX5_placeOf, cX5_placeOf, 3, (some .int), { frames := 0, cells := 0, slots := 0, locals := 0 }, []), rw_X5_placeOf, false)
theorem z80_at : m_alF[80]? = some z80 := rfl
/-- a table of levels: its rows of keys and quantities, how many -/
def lv (σ : mS) (a ka qa n : Nat) : Prop := m_get σ 5 a 0 = rf 13 ka ∧ m_get σ 5 a 1 = rf 13 qa ∧ σ.2.1 13 ka = 480 ∧ σ.2.1 13 qa = 480 ∧ (m_i σ 5 a 2).toInt = (n : Int) ∧ n ≤ 480 ∧ ka ≠ qa
def lK (σ : mS) (ka i : Nat) : Int := (m_i σ 13 ka i).toInt
def lS (σ : mS) (ka n : Nat) : Prop := ∀ i j, i < j → j < n → lK σ ka i < lK σ ka j
/-- the place of a key -/
def lP (σ : mS) (ka n : Nat) (key : Int) (p : Nat) : Prop := p ≤ n ∧ (∀ i, i < p → lK σ ka i < key) ∧ (p < n → key ≤ lK σ ka p)
theorem lP_uni {σ : mS} {ka n : Nat} {key : Int} {p q : Nat} (h : lP σ ka n key p) (g : lP σ ka n key q) : p = q := by
  obtain ⟨h1, h2, h3⟩ := h
  obtain ⟨g1, g2, g3⟩ := g
  rcases Nat.lt_trichotomy p q with c | c | c
  · have := g2 p c
    have := h3 (by omega)
    omega
  · exact c
  · have := h2 q c
    have := g3 (by omega)
    omega
theorem s80 {σ σ' : mS} {a ka qa n : Nat} {key : Int32} {w : mX} (hv : lv σ a ka qa n) (h : ev_run sm_all 80 [rf 5 a, .inl key] σ w σ') : ∃ v : Int32, w = .inl (some (.inl v)) ∧ σ' = σ ∧ 0 ≤ v.toInt ∧ lP σ ka n key.toInt v.toNatClampNeg := by
  obtain ⟨F, f, h⟩ := ei_go h z80_at
  have hn := hv.2.2.2.2.1
  have hn4 := hv.2.2.2.2.2.1
  have loop : ∀ N f, f < N → ∀ p : Int32, 0 ≤ p.toInt → p.toInt ≤ n → (∀ i : Nat, (i : Int) < p.toInt → lK σ ka i < key.toInt) → EV F f 80 z80 2 [some (rf 5 a), some (.inl key), some (.inl p)] [] σ (w, σ') → ∃ v : Int32, w = .inl (some (.inl v)) ∧ σ' = σ ∧ 0 ≤ v.toInt ∧ lP σ ka n key.toInt v.toNatClampNeg := by
    intro N
    induction N with
    | zero => intro f hf; omega
    | succ N IH =>
      intro f hf0 p p0 p1 p2 h
      have hf : f < N + 1 := hf0
      clear hf0
      have pn := i_nat p0
      replace h := ei_p h rfl rfl rfl rfl
      obtain ⟨f, g, h⟩ := h
      replace hf := Nat.lt_of_lt_of_le g (Nat.le_of_lt_succ hf)
      clear g
      replace h : EV F f 80 z80 3 [some (rf 5 (a)), some (.inl (key)), some (.inl (p))] [.inl (p)] σ (w, σ') := h
      replace h := ei_p h rfl rfl rfl rfl
      obtain ⟨f, g, h⟩ := h
      replace hf := Nat.lt_trans g hf
      clear g
      replace h : EV F f 80 z80 4 [some (rf 5 (a)), some (.inl (key)), some (.inl (p))] [rf 5 (a), .inl (p)] σ (w, σ') := h
      replace h := ei_get h rfl rfl
      obtain ⟨f, g, h⟩ := h
      replace hf := Nat.lt_trans g hf
      clear g
      replace h : EV F f 80 z80 7 [some (rf 5 (a)), some (.inl (key)), some (.inl (p))] [.inl (m_i σ 5 (a) (2)), .inl (p)] σ (w, σ') := h
      replace h := ei_c h rfl rfl rfl
      rcases h with ⟨hp1, f, g, h⟩ | ⟨hp1, f, g, h⟩
      · skip
        replace hp1 : (m_i σ 5 (a) (2)).toInt ≤ (p).toInt := ic_ge.mp hp1
        replace hf := Nat.lt_trans g hf
        clear g
        replace h : EV F f 80 z80 33 [some (rf 5 (a)), some (.inl (key)), some (.inl (p))] [] σ (w, σ') := h
        replace h := ei_p h rfl rfl rfl rfl
        obtain ⟨f, g, h⟩ := h
        replace hf := Nat.lt_trans g hf
        clear g
        replace h : EV F f 80 z80 34 [some (rf 5 (a)), some (.inl (key)), some (.inl (p))] [.inl (p)] σ (w, σ') := h
        have e := ei_iret h rfl
        cases e
        exact ⟨p, rfl, rfl, p0, by omega, fun i hi => p2 i (by omega), fun z => by have := hp1; omega⟩
      · skip
        replace hp1 : ¬ ((m_i σ 5 (a) (2)).toInt ≤ (p).toInt) := (not_congr ic_ge).mp hp1
        replace hf := Nat.lt_trans g hf
        clear g
        replace h : EV F f 80 z80 10 [some (rf 5 (a)), some (.inl (key)), some (.inl (p))] [] σ (w, σ') := h
        replace h := ei_p h rfl rfl rfl rfl
        obtain ⟨f, g, h⟩ := h
        replace hf := Nat.lt_trans g hf
        clear g
        replace h : EV F f 80 z80 11 [some (rf 5 (a)), some (.inl (key)), some (.inl (p))] [.inl (p)] σ (w, σ') := h
        replace h := ei_p h rfl rfl rfl rfl
        obtain ⟨f, g, h⟩ := h
        replace hf := Nat.lt_trans g hf
        clear g
        replace h : EV F f 80 z80 14 [some (rf 5 (a)), some (.inl (key)), some (.inl (p))] [.inl (Int32.ofInt 480), .inl (p)] σ (w, σ') := h
        replace h := ei_c h rfl rfl rfl
        rcases h with ⟨hp2, f, g, h⟩ | ⟨hp2, f, g, h⟩
        · skip
          replace hp2 : (480 : Int) ≤ (p).toInt := ic_ge.mp hp2
          replace hf := Nat.lt_trans g hf
          clear g
          replace h : EV F f 80 z80 33 [some (rf 5 (a)), some (.inl (key)), some (.inl (p))] [] σ (w, σ') := h
          replace h := ei_p h rfl rfl rfl rfl
          obtain ⟨f, g, h⟩ := h
          replace hf := Nat.lt_trans g hf
          clear g
          replace h : EV F f 80 z80 34 [some (rf 5 (a)), some (.inl (key)), some (.inl (p))] [.inl (p)] σ (w, σ') := h
          have e := ei_iret h rfl
          cases e
          exact ⟨p, rfl, rfl, p0, by omega, fun i hi => p2 i (by omega), fun z => by have := hp2; omega⟩
        · skip
          replace hp2 : ¬ ((480 : Int) ≤ (p).toInt) := (not_congr ic_ge).mp hp2
          replace hf := Nat.lt_trans g hf
          clear g
          replace h : EV F f 80 z80 17 [some (rf 5 (a)), some (.inl (key)), some (.inl (p))] [] σ (w, σ') := h
          replace h := ei_p h rfl rfl rfl rfl
          obtain ⟨f, g, h⟩ := h
          replace hf := Nat.lt_trans g hf
          clear g
          replace h : EV F f 80 z80 18 [some (rf 5 (a)), some (.inl (key)), some (.inl (p))] [rf 5 (a)] σ (w, σ') := h
          replace h := ei_get h rfl hv.1
          obtain ⟨f, g, h⟩ := h
          replace hf := Nat.lt_trans g hf
          clear g
          replace h : EV F f 80 z80 21 [some (rf 5 (a)), some (.inl (key)), some (.inl (p))] [rf 13 (ka)] σ (w, σ') := h
          replace h := ei_p h rfl rfl rfl rfl
          obtain ⟨f, g, h⟩ := h
          replace hf := Nat.lt_trans g hf
          clear g
          replace h : EV F f 80 z80 22 [some (rf 5 (a)), some (.inl (key)), some (.inl (p))] [.inl (p), rf 13 (ka)] σ (w, σ') := h
          replace h := ei_iald h rfl (fun _ => rfl)
          obtain ⟨vp3, f, g, h⟩ := h
          replace hf := Nat.lt_trans g hf
          clear g
          replace h : EV F f 80 z80 23 [some (rf 5 (a)), some (.inl (key)), some (.inl (p))] [.inl (m_i σ 13 ka (p).toNatClampNeg)] σ (w, σ') := h
          replace vp3 := vp_ok.mp vp3
          replace h := ei_p h rfl rfl rfl rfl
          obtain ⟨f, g, h⟩ := h
          replace hf := Nat.lt_trans g hf
          clear g
          replace h : EV F f 80 z80 24 [some (rf 5 (a)), some (.inl (key)), some (.inl (p))] [.inl (key), .inl (m_i σ 13 ka (p).toNatClampNeg)] σ (w, σ') := h
          replace h := ei_c h rfl rfl rfl
          rcases h with ⟨hp4, f, g, h⟩ | ⟨hp4, f, g, h⟩
          · skip
            replace hp4 : (key).toInt ≤ (m_i σ 13 ka (p).toNatClampNeg).toInt := ic_ge.mp hp4
            replace hf := Nat.lt_trans g hf
            clear g
            replace h : EV F f 80 z80 33 [some (rf 5 (a)), some (.inl (key)), some (.inl (p))] [] σ (w, σ') := h
            replace h := ei_p h rfl rfl rfl rfl
            obtain ⟨f, g, h⟩ := h
            replace hf := Nat.lt_trans g hf
            clear g
            replace h : EV F f 80 z80 34 [some (rf 5 (a)), some (.inl (key)), some (.inl (p))] [.inl (p)] σ (w, σ') := h
            have e := ei_iret h rfl
            cases e
            exact ⟨p, rfl, rfl, p0, by omega, fun i hi => p2 i (by omega), fun _ => by have := hp4; show key.toInt ≤ (m_i σ 13 ka (p).toNatClampNeg).toInt; omega⟩
          · skip
            replace hp4 : ¬ ((key).toInt ≤ (m_i σ 13 ka (p).toNatClampNeg).toInt) := (not_congr ic_ge).mp hp4
            replace hf := Nat.lt_trans g hf
            clear g
            replace h : EV F f 80 z80 27 [some (rf 5 (a)), some (.inl (key)), some (.inl (p))] [] σ (w, σ') := h
            replace h := ei_p h rfl rfl rfl rfl
            obtain ⟨f, g, h⟩ := h
            replace hf := Nat.lt_trans g hf
            clear g
            replace h : EV F f 80 z80 30 [some (rf 5 (a)), some (.inl (key)), some (.inl ((p) + Int32.ofInt 1))] [] σ (w, σ') := h
            replace h := ei_p h rfl rfl rfl rfl
            obtain ⟨f, g, h⟩ := h
            replace hf := Nat.lt_trans g hf
            clear g
            replace h : EV F f 80 z80 2 [some (rf 5 (a)), some (.inl (key)), some (.inl ((p) + Int32.ofInt 1))] [] σ (w, σ') := h
            have pb := hp1
            have e1 := i_inc (a := p) p0 (by omega)
            exact IH f hf _ (by rw [e1]; omega) (by rw [e1]; omega) (fun i hi => by
              rw [e1] at hi
              by_cases c : (i : Int) < p.toInt
              · exact p2 i c
              · have ei : i = p.toNatClampNeg := by omega
                subst ei
                have := hp4
                show (m_i σ 13 ka (p).toNatClampNeg).toInt < key.toInt
                omega) h
  replace h : EV F f 80 z80 0 [some (rf 5 (a)), some (.inl (key)), none] [] σ (w, σ') := h
  replace h := ei_p h rfl rfl rfl rfl
  obtain ⟨f, g, h⟩ := h
  clear g
  replace h : EV F f 80 z80 1 [some (rf 5 (a)), some (.inl (key)), none] [.inl (Int32.ofInt 0)] σ (w, σ') := h
  replace h := ei_p h rfl rfl rfl rfl
  obtain ⟨f, g, h⟩ := h
  clear g
  replace h : EV F f 80 z80 2 [some (rf 5 (a)), some (.inl (key)), some (.inl (Int32.ofInt 0))] [] σ (w, σ') := h
  refine loop (f + 1) f (Nat.lt_succ_self f) (Int32.ofInt 0) (by decide) (by show (0 : Int) ≤ n; omega) (fun i hi => ?_) h
  have hi : (i : Int) < 0 := hi
  omega
