/-! levels: what stands at a key, the next key -/
def lQ (σ : mS) (qa i : Nat) : Int := (m_i σ 13 qa i).toInt
/-- what stands at a key -/
def lM (σ : mS) (ka qa n : Nat) (key v : Int) : Prop := (∃ i, i < n ∧ lK σ ka i = key ∧ lQ σ qa i = v) ∨ ((∀ i, i < n → lK σ ka i ≠ key) ∧ v = 0)
theorem lM_at {σ : mS} {ka qa n p : Nat} {key : Int} (hS : lS σ ka n) (hp : lP σ ka n key p) : (p < n ∧ lK σ ka p = key ∧ lM σ ka qa n key (lQ σ qa p)) ∨ (¬ (p < n ∧ lK σ ka p = key) ∧ lM σ ka qa n key 0) := by
  obtain ⟨h1, h2, h3⟩ := hp
  by_cases c : p < n ∧ lK σ ka p = key
  · exact Or.inl ⟨c.1, c.2, Or.inl ⟨p, c.1, c.2, rfl⟩⟩
  · refine Or.inr ⟨c, Or.inr ⟨fun i hi e => ?_, rfl⟩⟩
    rcases Nat.lt_trichotomy i p with d | d | d
    · have := h2 i d; omega
    · subst d; exact c ⟨hi, e⟩
    · have a := hS p i d hi
      have b := h3 (by omega)
      omega
/-- what stands at a key is one number -/
theorem lM_uni {σ : mS} {ka qa n : Nat} {key v w : Int} (hS : lS σ ka n) (h : lM σ ka qa n key v) (g : lM σ ka qa n key w) : v = w := by
  rcases h with ⟨i, i1, i2, i3⟩ | ⟨h1, h2⟩
  · rcases g with ⟨j, j1, j2, j3⟩ | ⟨g1, g2⟩
    · have e : i = j := by
        rcases Nat.lt_trichotomy i j with d | d | d
        · have := hS i j d j1; omega
        · exact d
        · have := hS j i d i1; omega
      subst e
      omega
    · exact absurd i2 (g1 i i1)
  · rcases g with ⟨j, j1, j2, j3⟩ | ⟨g1, g2⟩
    · exact absurd j2 (h1 j j1)
    · omega
theorem s78 {σ σ' : mS} {a ka qa n : Nat} {key : Int32} {w : mX} (hv : lv σ a ka qa n) (hS : lS σ ka n) (h : ev_run sm_all 78 [rf 5 a, .inl key] σ w σ') : ∃ v : Int32, w = .inl (some (.inl v)) ∧ σ' = σ ∧ lM σ ka qa n key.toInt v.toInt := by
  obtain ⟨F, f, h⟩ := ei_go h z78_at
  have hn := hv.2.2.2.2.1
  have hn4 := hv.2.2.2.2.2.1
  replace h : EV F f 78 z78 0 [some (rf 5 (a)), some (.inl (key)), none] [] σ (w, σ') := h
  replace h := ei_p h rfl rfl rfl rfl
  obtain ⟨f, g, h⟩ := h
  clear g
  replace h : EV F f 78 z78 1 [some (rf 5 (a)), some (.inl (key)), none] [rf 5 (a)] σ (w, σ') := h
  replace h := ei_p h rfl rfl rfl rfl
  obtain ⟨f, g, h⟩ := h
  clear g
  replace h : EV F f 78 z78 2 [some (rf 5 (a)), some (.inl (key)), none] [.inl (key), rf 5 (a)] σ (w, σ') := h
  replace h := bk_I (ei_v (as := [.inl (key)]) h rfl rfl rfl) rfl z80_at (Or.inl rfl)
  obtain ⟨v1, τ2, r3, f, g, h⟩ := h
  clear g
  obtain ⟨pr3, er3, tr3, nr3, Pr3⟩ := s80 hv r3
  cases er3
  rw [tr3] at h
  replace h : EV F f 78 z78 5 [some (rf 5 (a)), some (.inl (key)), none] [.inl (v1)] σ (w, σ') := h
  replace h := ei_p h rfl rfl rfl rfl
  obtain ⟨f, g, h⟩ := h
  clear g
  replace h : EV F f 78 z78 6 [some (rf 5 (a)), some (.inl (key)), some (.inl (v1))] [] σ (w, σ') := h
  replace h := ei_p h rfl rfl rfl rfl
  obtain ⟨f, g, h⟩ := h
  clear g
  replace h : EV F f 78 z78 7 [some (rf 5 (a)), some (.inl (key)), some (.inl (v1))] [.inl (v1)] σ (w, σ') := h
  replace h := ei_p h rfl rfl rfl rfl
  obtain ⟨f, g, h⟩ := h
  clear g
  replace h : EV F f 78 z78 8 [some (rf 5 (a)), some (.inl (key)), some (.inl (v1))] [rf 5 (a), .inl (v1)] σ (w, σ') := h
  replace h := ei_get h rfl rfl
  obtain ⟨f, g, h⟩ := h
  clear g
  replace h : EV F f 78 z78 11 [some (rf 5 (a)), some (.inl (key)), some (.inl (v1))] [.inl (m_i σ 5 (a) (2)), .inl (v1)] σ (w, σ') := h
  replace h := ei_c h rfl rfl rfl
  rcases h with ⟨hp4, f, g, h⟩ | ⟨hp4, f, g, h⟩
  · skip
    replace hp4 : (m_i σ 5 (a) (2)).toInt ≤ (v1).toInt := ic_ge.mp hp4
    clear g
    replace h : EV F f 78 z78 40 [some (rf 5 (a)), some (.inl (key)), some (.inl (v1))] [] σ (w, σ') := h
    replace h := ei_p h rfl rfl rfl rfl
    obtain ⟨f, g, h⟩ := h
    clear g
    replace h : EV F f 78 z78 41 [some (rf 5 (a)), some (.inl (key)), some (.inl (v1))] [.inl (Int32.ofInt 0)] σ (w, σ') := h
    have e := ei_iret h rfl
    cases e
    have xp := i_nat nr3
    rcases lM_at (qa := qa) hS Pr3 with ⟨m1, m2, m3⟩ | ⟨m1, m3⟩
    · have m2 : (m_i σ 13 ka (v1).toNatClampNeg).toInt = key.toInt := m2
      have := hp4; exfalso; omega
    · exact ⟨_, rfl, rfl, m3⟩
  · skip
    replace hp4 : ¬ ((m_i σ 5 (a) (2)).toInt ≤ (v1).toInt) := (not_congr ic_ge).mp hp4
    clear g
    replace h : EV F f 78 z78 14 [some (rf 5 (a)), some (.inl (key)), some (.inl (v1))] [] σ (w, σ') := h
    replace h := ei_p h rfl rfl rfl rfl
    obtain ⟨f, g, h⟩ := h
    clear g
    replace h : EV F f 78 z78 15 [some (rf 5 (a)), some (.inl (key)), some (.inl (v1))] [.inl (v1)] σ (w, σ') := h
    replace h := ei_p h rfl rfl rfl rfl
    obtain ⟨f, g, h⟩ := h
    clear g
    replace h : EV F f 78 z78 18 [some (rf 5 (a)), some (.inl (key)), some (.inl (v1))] [.inl (Int32.ofInt 480), .inl (v1)] σ (w, σ') := h
    replace h := ei_c h rfl rfl rfl
    rcases h with ⟨hp5, f, g, h⟩ | ⟨hp5, f, g, h⟩
    · skip
      replace hp5 : (480 : Int) ≤ (v1).toInt := ic_ge.mp hp5
      clear g
      replace h : EV F f 78 z78 40 [some (rf 5 (a)), some (.inl (key)), some (.inl (v1))] [] σ (w, σ') := h
      replace h := ei_p h rfl rfl rfl rfl
      obtain ⟨f, g, h⟩ := h
      clear g
      replace h : EV F f 78 z78 41 [some (rf 5 (a)), some (.inl (key)), some (.inl (v1))] [.inl (Int32.ofInt 0)] σ (w, σ') := h
      have e := ei_iret h rfl
      cases e
      have xp := i_nat nr3
      rcases lM_at (qa := qa) hS Pr3 with ⟨m1, m2, m3⟩ | ⟨m1, m3⟩
      · have m2 : (m_i σ 13 ka (v1).toNatClampNeg).toInt = key.toInt := m2
        have := hp4; have := hp5; exfalso; omega
      · exact ⟨_, rfl, rfl, m3⟩
    · skip
      replace hp5 : ¬ ((480 : Int) ≤ (v1).toInt) := (not_congr ic_ge).mp hp5
      clear g
      replace h : EV F f 78 z78 21 [some (rf 5 (a)), some (.inl (key)), some (.inl (v1))] [] σ (w, σ') := h
      replace h := ei_p h rfl rfl rfl rfl
      obtain ⟨f, g, h⟩ := h
      clear g
      replace h : EV F f 78 z78 22 [some (rf 5 (a)), some (.inl (key)), some (.inl (v1))] [rf 5 (a)] σ (w, σ') := h
      replace h := ei_get h rfl hv.1
      obtain ⟨f, g, h⟩ := h
      clear g
      replace h : EV F f 78 z78 25 [some (rf 5 (a)), some (.inl (key)), some (.inl (v1))] [rf 13 (ka)] σ (w, σ') := h
      replace h := ei_p h rfl rfl rfl rfl
      obtain ⟨f, g, h⟩ := h
      clear g
      replace h : EV F f 78 z78 26 [some (rf 5 (a)), some (.inl (key)), some (.inl (v1))] [.inl (v1), rf 13 (ka)] σ (w, σ') := h
      replace h := ei_iald h rfl (fun _ => rfl)
      obtain ⟨vp6, f, g, h⟩ := h
      clear g
      replace h : EV F f 78 z78 27 [some (rf 5 (a)), some (.inl (key)), some (.inl (v1))] [.inl (m_i σ 13 ka (v1).toNatClampNeg)] σ (w, σ') := h
      replace vp6 := vp_ok.mp vp6
      replace h := ei_p h rfl rfl rfl rfl
      obtain ⟨f, g, h⟩ := h
      clear g
      replace h : EV F f 78 z78 28 [some (rf 5 (a)), some (.inl (key)), some (.inl (v1))] [.inl (key), .inl (m_i σ 13 ka (v1).toNatClampNeg)] σ (w, σ') := h
      replace h := ei_c h rfl rfl rfl
      rcases h with ⟨hp7, f, g, h⟩ | ⟨hp7, f, g, h⟩
      · skip
        replace hp7 : (m_i σ 13 ka (v1).toNatClampNeg).toInt ≠ (key).toInt := ic_ne.mp hp7
        clear g
        replace h : EV F f 78 z78 40 [some (rf 5 (a)), some (.inl (key)), some (.inl (v1))] [] σ (w, σ') := h
        replace h := ei_p h rfl rfl rfl rfl
        obtain ⟨f, g, h⟩ := h
        clear g
        replace h : EV F f 78 z78 41 [some (rf 5 (a)), some (.inl (key)), some (.inl (v1))] [.inl (Int32.ofInt 0)] σ (w, σ') := h
        have e := ei_iret h rfl
        cases e
        have xp := i_nat nr3
        rcases lM_at (qa := qa) hS Pr3 with ⟨m1, m2, m3⟩ | ⟨m1, m3⟩
        · have m2 : (m_i σ 13 ka (v1).toNatClampNeg).toInt = key.toInt := m2
          have := hp4; have := hp5; have := hp7; exfalso; omega
        · exact ⟨_, rfl, rfl, m3⟩
      · skip
        replace hp7 : ¬ ((m_i σ 13 ka (v1).toNatClampNeg).toInt ≠ (key).toInt) := (not_congr ic_ne).mp hp7
        clear g
        replace h : EV F f 78 z78 31 [some (rf 5 (a)), some (.inl (key)), some (.inl (v1))] [] σ (w, σ') := h
        replace h := ei_p h rfl rfl rfl rfl
        obtain ⟨f, g, h⟩ := h
        clear g
        replace h : EV F f 78 z78 32 [some (rf 5 (a)), some (.inl (key)), some (.inl (v1))] [rf 5 (a)] σ (w, σ') := h
        replace h := ei_get h rfl hv.2.1
        obtain ⟨f, g, h⟩ := h
        clear g
        replace h : EV F f 78 z78 35 [some (rf 5 (a)), some (.inl (key)), some (.inl (v1))] [rf 13 (qa)] σ (w, σ') := h
        replace h := ei_p h rfl rfl rfl rfl
        obtain ⟨f, g, h⟩ := h
        clear g
        replace h : EV F f 78 z78 36 [some (rf 5 (a)), some (.inl (key)), some (.inl (v1))] [.inl (v1), rf 13 (qa)] σ (w, σ') := h
        replace h := ei_iald h rfl (fun _ => rfl)
        obtain ⟨vp8, f, g, h⟩ := h
        clear g
        replace h : EV F f 78 z78 37 [some (rf 5 (a)), some (.inl (key)), some (.inl (v1))] [.inl (m_i σ 13 qa (v1).toNatClampNeg)] σ (w, σ') := h
        replace vp8 := vp_ok.mp vp8
        replace h := ei_p h rfl rfl rfl rfl
        obtain ⟨f, g, h⟩ := h
        clear g
        replace h : EV F f 78 z78 41 [some (rf 5 (a)), some (.inl (key)), some (.inl (v1))] [.inl (m_i σ 13 qa (v1).toNatClampNeg)] σ (w, σ') := h
        have e := ei_iret h rfl
        cases e
        have xp := i_nat nr3
        rcases lM_at (qa := qa) hS Pr3 with ⟨m1, m2, m3⟩ | ⟨m1, m3⟩
        · exact ⟨_, rfl, rfl, m3⟩
        · refine absurd ⟨?_, ?_⟩ m1
          · have := hp4; have := hp5; have := hp7; omega
          · have := hp4; have := hp5; have := hp7; show (m_i σ 13 ka (v1).toNatClampNeg).toInt = key.toInt; omega
/-- the next key, or -1 -/
def lNx (σ : mS) (ka n : Nat) (key r : Int) : Prop := (r = -1 ∧ ∀ i, i < n → lK σ ka i ≤ key) ∨ ∃ p, p < n ∧ r = lK σ ka p ∧ key < r ∧ ∀ i, i < n → key < lK σ ka i → r ≤ lK σ ka i
theorem s79 {σ σ' : mS} {a ka qa n : Nat} {key : Int32} {w : mX} (hv : lv σ a ka qa n) (hS : lS σ ka n) (hk : -1 ≤ key.toInt ∧ key.toInt < 1000000) (h : ev_run sm_all 79 [rf 5 a, .inl key] σ w σ') : ∃ v : Int32, w = .inl (some (.inl v)) ∧ σ' = σ ∧ lNx σ ka n key.toInt v.toInt := by
  obtain ⟨F, f, h⟩ := ei_go h z79_at
  have hn := hv.2.2.2.2.1
  have hn4 := hv.2.2.2.2.2.1
  have ek : (key + Int32.ofInt 1).toInt = key.toInt + 1 := by
    rw [i_add (by rw [i_one]; omega) (by rw [i_one]; omega), i_one]
  replace h : EV F f 79 z79 0 [some (rf 5 (a)), some (.inl (key)), none] [] σ (w, σ') := h
  replace h := ei_p h rfl rfl rfl rfl
  obtain ⟨f, g, h⟩ := h
  clear g
  replace h : EV F f 79 z79 1 [some (rf 5 (a)), some (.inl (key)), none] [rf 5 (a)] σ (w, σ') := h
  replace h := ei_p h rfl rfl rfl rfl
  obtain ⟨f, g, h⟩ := h
  clear g
  replace h : EV F f 79 z79 2 [some (rf 5 (a)), some (.inl (key)), none] [.inl (key), rf 5 (a)] σ (w, σ') := h
  replace h := ei_p h rfl rfl rfl rfl
  obtain ⟨f, g, h⟩ := h
  clear g
  replace h : EV F f 79 z79 3 [some (rf 5 (a)), some (.inl (key)), none] [.inl (Int32.ofInt 1), .inl (key), rf 5 (a)] σ (w, σ') := h
  replace h := ei_p h rfl rfl rfl rfl
  obtain ⟨f, g, h⟩ := h
  clear g
  replace h : EV F f 79 z79 4 [some (rf 5 (a)), some (.inl (key)), none] [.inl ((key) + (Int32.ofInt 1)), rf 5 (a)] σ (w, σ') := h
  replace h := bk_I (ei_v (as := [.inl ((key) + (Int32.ofInt 1))]) h rfl rfl rfl) rfl z80_at (Or.inl rfl)
  obtain ⟨v1, τ2, r3, f, g, h⟩ := h
  clear g
  obtain ⟨pr3, er3, tr3, nr3, Pr3⟩ := s80 hv r3
  cases er3
  rw [tr3] at h
  replace h : EV F f 79 z79 7 [some (rf 5 (a)), some (.inl (key)), none] [.inl (v1)] σ (w, σ') := h
  replace h := ei_p h rfl rfl rfl rfl
  obtain ⟨f, g, h⟩ := h
  clear g
  replace h : EV F f 79 z79 8 [some (rf 5 (a)), some (.inl (key)), some (.inl (v1))] [] σ (w, σ') := h
  replace h := ei_p h rfl rfl rfl rfl
  obtain ⟨f, g, h⟩ := h
  clear g
  replace h : EV F f 79 z79 9 [some (rf 5 (a)), some (.inl (key)), some (.inl (v1))] [.inl (v1)] σ (w, σ') := h
  replace h := ei_p h rfl rfl rfl rfl
  obtain ⟨f, g, h⟩ := h
  clear g
  replace h : EV F f 79 z79 10 [some (rf 5 (a)), some (.inl (key)), some (.inl (v1))] [rf 5 (a), .inl (v1)] σ (w, σ') := h
  replace h := ei_get h rfl rfl
  obtain ⟨f, g, h⟩ := h
  clear g
  replace h : EV F f 79 z79 13 [some (rf 5 (a)), some (.inl (key)), some (.inl (v1))] [.inl (m_i σ 5 (a) (2)), .inl (v1)] σ (w, σ') := h
  replace h := ei_c h rfl rfl rfl
  rcases h with ⟨hp4, f, g, h⟩ | ⟨hp4, f, g, h⟩
  · skip
    replace hp4 : (m_i σ 5 (a) (2)).toInt ≤ (v1).toInt := ic_ge.mp hp4
    clear g
    replace h : EV F f 79 z79 32 [some (rf 5 (a)), some (.inl (key)), some (.inl (v1))] [] σ (w, σ') := h
    replace h := ei_p h rfl rfl rfl rfl
    obtain ⟨f, g, h⟩ := h
    clear g
    replace h : EV F f 79 z79 33 [some (rf 5 (a)), some (.inl (key)), some (.inl (v1))] [.inl (Int32.ofInt (-1))] σ (w, σ') := h
    have e := ei_iret h rfl
    cases e
    have xp := i_nat nr3
    obtain ⟨q1, q2, q3⟩ := Pr3
    rw [ek] at q2 q3
    refine ⟨_, rfl, rfl, Or.inl ⟨by decide, fun i hi => ?_⟩⟩
    have := q2 i (by have := hp4; omega)
    omega
  · skip
    replace hp4 : ¬ ((m_i σ 5 (a) (2)).toInt ≤ (v1).toInt) := (not_congr ic_ge).mp hp4
    clear g
    replace h : EV F f 79 z79 16 [some (rf 5 (a)), some (.inl (key)), some (.inl (v1))] [] σ (w, σ') := h
    replace h := ei_p h rfl rfl rfl rfl
    obtain ⟨f, g, h⟩ := h
    clear g
    replace h : EV F f 79 z79 17 [some (rf 5 (a)), some (.inl (key)), some (.inl (v1))] [.inl (v1)] σ (w, σ') := h
    replace h := ei_p h rfl rfl rfl rfl
    obtain ⟨f, g, h⟩ := h
    clear g
    replace h : EV F f 79 z79 20 [some (rf 5 (a)), some (.inl (key)), some (.inl (v1))] [.inl (Int32.ofInt 480), .inl (v1)] σ (w, σ') := h
    replace h := ei_c h rfl rfl rfl
    rcases h with ⟨hp5, f, g, h⟩ | ⟨hp5, f, g, h⟩
    · skip
      replace hp5 : (480 : Int) ≤ (v1).toInt := ic_ge.mp hp5
      clear g
      replace h : EV F f 79 z79 32 [some (rf 5 (a)), some (.inl (key)), some (.inl (v1))] [] σ (w, σ') := h
      replace h := ei_p h rfl rfl rfl rfl
      obtain ⟨f, g, h⟩ := h
      clear g
      replace h : EV F f 79 z79 33 [some (rf 5 (a)), some (.inl (key)), some (.inl (v1))] [.inl (Int32.ofInt (-1))] σ (w, σ') := h
      have e := ei_iret h rfl
      cases e
      have xp := i_nat nr3
      obtain ⟨q1, q2, q3⟩ := Pr3
      rw [ek] at q2 q3
      refine ⟨_, rfl, rfl, Or.inl ⟨by decide, fun i hi => ?_⟩⟩
      have := q2 i (by have := hp4; have := hp5; omega)
      omega
    · skip
      replace hp5 : ¬ ((480 : Int) ≤ (v1).toInt) := (not_congr ic_ge).mp hp5
      clear g
      replace h : EV F f 79 z79 23 [some (rf 5 (a)), some (.inl (key)), some (.inl (v1))] [] σ (w, σ') := h
      replace h := ei_p h rfl rfl rfl rfl
      obtain ⟨f, g, h⟩ := h
      clear g
      replace h : EV F f 79 z79 24 [some (rf 5 (a)), some (.inl (key)), some (.inl (v1))] [rf 5 (a)] σ (w, σ') := h
      replace h := ei_get h rfl hv.1
      obtain ⟨f, g, h⟩ := h
      clear g
      replace h : EV F f 79 z79 27 [some (rf 5 (a)), some (.inl (key)), some (.inl (v1))] [rf 13 (ka)] σ (w, σ') := h
      replace h := ei_p h rfl rfl rfl rfl
      obtain ⟨f, g, h⟩ := h
      clear g
      replace h : EV F f 79 z79 28 [some (rf 5 (a)), some (.inl (key)), some (.inl (v1))] [.inl (v1), rf 13 (ka)] σ (w, σ') := h
      replace h := ei_iald h rfl (fun _ => rfl)
      obtain ⟨vp6, f, g, h⟩ := h
      clear g
      replace h : EV F f 79 z79 29 [some (rf 5 (a)), some (.inl (key)), some (.inl (v1))] [.inl (m_i σ 13 ka (v1).toNatClampNeg)] σ (w, σ') := h
      replace vp6 := vp_ok.mp vp6
      replace h := ei_p h rfl rfl rfl rfl
      obtain ⟨f, g, h⟩ := h
      clear g
      replace h : EV F f 79 z79 33 [some (rf 5 (a)), some (.inl (key)), some (.inl (v1))] [.inl (m_i σ 13 ka (v1).toNatClampNeg)] σ (w, σ') := h
      have e := ei_iret h rfl
      cases e
      have xp := i_nat nr3
      obtain ⟨q1, q2, q3⟩ := Pr3
      rw [ek] at q2 q3
      have pn : (v1).toNatClampNeg < n := by have := hp4; have := hp5; omega
      have q4 := q3 pn
      refine ⟨_, rfl, rfl, Or.inr ⟨(v1).toNatClampNeg, pn, rfl, ?_, fun i hi hki => ?_⟩⟩
      · show key.toInt < lK σ ka (v1).toNatClampNeg; omega
      · show lK σ ka (v1).toNatClampNeg ≤ lK σ ka i
        rcases Nat.lt_trichotomy i (v1).toNatClampNeg with d | d | d
        · have := q2 i d; omega
        · rw [d]; exact Int.le_refl _
        · have := hS _ i d hi; omega
