/-! levels: what the orders show is collected -/
def z85 : mAl := ((yX5_collect, cX5_collect, 5, none, { frames := 2, cells := 0, slots := 0, locals := 46 }, []), rw_X5_collect, false)
theorem z85_at : m_alF[85]? = some z85 := rfl
/-- what stands at a key of the first N orders -/
def sh (σ : mS) (o : Nat → Nat) (k : Int) : Nat → Int
  | 0 => 0
  | N + 1 => sh σ o k N + (if (m_i σ 7 (o N) 9).toInt = 1 ∧ (oK σ (o N)).toInt = k then (m_i σ 7 (o N) 7).toInt else 0)
/-- the books' row of orders -/
def bo (σ : mS) (b r N : Nat) (o : Nat → Nat) : Prop := m_get σ 0 b 0 = rf 17 r ∧ (m_i σ 0 b 1).toInt = (N : Int) ∧ N ≤ 120 ∧ σ.2.1 17 r = 120 ∧ ∀ i, i < N → m_get σ 17 r i = rf 7 (o i) ∧ oB σ (o i) ∧ ((m_i σ 7 (o i) 9).toInt = 1 → 0 ≤ (m_i σ 7 (o i) 7).toInt ∧ (m_i σ 7 (o i) 7).toInt ≤ 1000000)
theorem sh_b {σ : mS} {b r N : Nat} {o : Nat → Nat} (hb : bo σ b r N o) (k : Int) : ∀ i, i ≤ N → 0 ≤ sh σ o k i ∧ sh σ o k i ≤ 1000000 * i := by
  intro i
  induction i with
  | zero => intro _; exact ⟨Int.le_refl _, by show (0 : Int) ≤ _; omega⟩
  | succ i IH =>
    intro hi
    have g := IH (by omega)
    have p := (hb.2.2.2.2 i (by omega)).2.2
    show 0 ≤ sh σ o k i + _ ∧ sh σ o k i + _ ≤ _
    by_cases c : (m_i σ 7 (o i) 9).toInt = 1 ∧ (oK σ (o i)).toInt = k
    · rw [if_pos c]
      have := p c.1
      omega
    · rw [if_neg c]
      omega
theorem l5_7 {a ka qa c i k : Nat} (h5 : c ≠ 5) (h13 : c ≠ 13) : ¬ l5 a ka qa c i k := fun z => by
  rcases z with z | z
  · exact h5 z.1
  · exact h13 z.1
theorem s85 {σ σ' : mS} {a ka qa n b r N : Nat} {o : Nat → Nat} {w : mX} (hv : lv σ a ka qa n) (hb : bo σ b r N o) (h : ev_run sm_all 85 [rf 5 a, rf 0 b] σ w σ') : w = .inl none ∧ fr3 (l5 a ka qa) σ σ' ∧ ∃ n', n' ≤ N ∧ lv σ' a ka qa n' ∧ lS σ' ka n' ∧ (∀ i, i < n' → 0 ≤ lK σ' ka i ∧ lK σ' ka i < 1000000) ∧ (∀ i, i < n' → lQ σ' qa i ≠ 0) ∧ ∀ k, pM n' (lK σ' ka) (lQ σ' qa) k (sh σ o k N) := by
  obtain ⟨F, f, h⟩ := ei_go h z85_at
  have hN := hb.2.1
  have hN4 := hb.2.2.1
  have loop : ∀ M f, f < M → ∀ (i : Int32) (τ : mS) (x3 x4 : Option mV) (n' : Nat), fr3 (l5 a ka qa) σ τ → 0 ≤ i.toInt → i.toInt ≤ N → n' ≤ i.toInt → lv τ a ka qa n' → lS τ ka n' → (∀ j, j < n' → 0 ≤ lK τ ka j ∧ lK τ ka j < 1000000) → (∀ j, j < n' → lQ τ qa j ≠ 0) → (∀ k, pM n' (lK τ ka) (lQ τ qa) k (sh σ o k i.toNatClampNeg)) → EV F f 85 z85 7 [some (rf 5 a), some (rf 0 b), some (.inl i), x3, x4] [] τ (w, σ') → w = .inl none ∧ fr3 (l5 a ka qa) σ σ' ∧ ∃ n', n' ≤ N ∧ lv σ' a ka qa n' ∧ lS σ' ka n' ∧ (∀ i, i < n' → 0 ≤ lK σ' ka i ∧ lK σ' ka i < 1000000) ∧ (∀ i, i < n' → lQ σ' qa i ≠ 0) ∧ ∀ k, pM n' (lK σ' ka) (lQ σ' qa) k (sh σ o k N) := by
    intro M
    induction M with
    | zero => intro f hf; omega
    | succ M IH =>
      intro f hf0 i τ x3 x4 n' hT i1 i2 i3 hV hS hK hZ hM h
      have hf : f < M + 1 := hf0
      clear hf0
      have e1 := i_inc (a := i) i1 (by omega)
      have n1 := i_nat i1
      have eL : (Int32.ofNat 120).toInt = 120 := by decide
      have nI : i.toInt < N → (i + Int32.ofInt 1).toNatClampNeg = i.toNatClampNeg + 1 := fun z => by
        have y := i_nat (a := i + Int32.ofInt 1) (by rw [e1]; omega)
        rw [e1] at y
        omega
      replace h := ei_p h rfl rfl rfl rfl
      obtain ⟨f, g, h⟩ := h
      replace hf := Nat.lt_of_lt_of_le g (Nat.le_of_lt_succ hf)
      clear g
      replace h : EV F f 85 z85 8 [some (rf 5 (a)), some (rf 0 (b)), some (.inl (i)), x3, x4] [.inl (i)] τ (w, σ') := h
      replace h := ei_p h rfl rfl rfl rfl
      obtain ⟨f, g, h⟩ := h
      replace hf := Nat.lt_trans g hf
      clear g
      replace h : EV F f 85 z85 9 [some (rf 5 (a)), some (rf 0 (b)), some (.inl (i)), x3, x4] [rf 0 (b), .inl (i)] τ (w, σ') := h
      replace h := ei_get h rfl ((hT.get (c := 0) (i := b) (k := 1) (l5_7 (by decide) (by decide))).trans rfl)
      obtain ⟨f, g, h⟩ := h
      replace hf := Nat.lt_trans g hf
      clear g
      replace h : EV F f 85 z85 12 [some (rf 5 (a)), some (rf 0 (b)), some (.inl (i)), x3, x4] [.inl (m_i σ 0 b 1), .inl (i)] τ (w, σ') := h
      replace h := ei_c h rfl rfl rfl
      rcases h with ⟨hp1, f, g, h⟩ | ⟨hp1, f, g, h⟩
      · skip
        replace hp1 : (m_i σ 0 b 1).toInt ≤ (i).toInt := ic_ge.mp hp1
        replace hf := Nat.lt_trans g hf
        clear g
        replace h : EV F f 85 z85 67 [some (rf 5 (a)), some (rf 0 (b)), some (.inl (i)), x3, x4] [] τ (w, σ') := h
        have e := ei_ret h rfl
        cases e
        have ei : i.toNatClampNeg = N := by have := hp1; omega
        rw [ei] at hM
        exact ⟨rfl, hT, n', by omega, hV, hS, hK, hZ, hM⟩
      · skip
        replace hp1 : ¬ ((m_i σ 0 b 1).toInt ≤ (i).toInt) := (not_congr ic_ge).mp hp1
        replace hf := Nat.lt_trans g hf
        clear g
        replace h : EV F f 85 z85 15 [some (rf 5 (a)), some (rf 0 (b)), some (.inl (i)), x3, x4] [] τ (w, σ') := h
        replace h := ei_p h rfl rfl rfl rfl
        obtain ⟨f, g, h⟩ := h
        replace hf := Nat.lt_trans g hf
        clear g
        replace h : EV F f 85 z85 16 [some (rf 5 (a)), some (rf 0 (b)), some (.inl (i)), x3, x4] [.inl (i)] τ (w, σ') := h
        replace h := ei_p h rfl rfl rfl rfl
        obtain ⟨f, g, h⟩ := h
        replace hf := Nat.lt_trans g hf
        clear g
        replace h : EV F f 85 z85 17 [some (rf 5 (a)), some (rf 0 (b)), some (.inl (i)), x3, x4] [rf 0 (b), .inl (i)] τ (w, σ') := h
        replace h := ei_get h rfl ((hT.get (c := 0) (i := b) (k := 0) (l5_7 (by decide) (by decide))).trans hb.1)
        obtain ⟨f, g, h⟩ := h
        replace hf := Nat.lt_trans g hf
        clear g
        replace h : EV F f 85 z85 20 [some (rf 5 (a)), some (rf 0 (b)), some (.inl (i)), x3, x4] [rf 17 (r), .inl (i)] τ (w, σ') := h
        replace h := ei_len h rfl ((congrFun (congrFun hT.2.1 17) r).trans hb.2.2.2.1) ⟨Nat.le_of_ble_eq_true rfl, Nat.le_of_ble_eq_true rfl⟩
        obtain ⟨f, g, h⟩ := h
        replace hf := Nat.lt_trans g hf
        clear g
        replace h : EV F f 85 z85 21 [some (rf 5 (a)), some (rf 0 (b)), some (.inl (i)), x3, x4] [.inl (Int32.ofNat 120), .inl (i)] τ (w, σ') := h
        replace h := ei_c h rfl rfl rfl
        rcases h with ⟨hp2, f, g, h⟩ | ⟨hp2, f, g, h⟩
        · skip
          replace hp2 : (Int32.ofNat 120).toInt ≤ (i).toInt := ic_ge.mp hp2
          replace hf := Nat.lt_trans g hf
          clear g
          exfalso
          have := hp1; have := hp2; omega
        · skip
          replace hp2 : ¬ ((Int32.ofNat 120).toInt ≤ (i).toInt) := (not_congr ic_ge).mp hp2
          replace hf := Nat.lt_trans g hf
          clear g
          replace h : EV F f 85 z85 24 [some (rf 5 (a)), some (rf 0 (b)), some (.inl (i)), x3, x4] [] τ (w, σ') := h
          replace h := ei_p h rfl rfl rfl rfl
          obtain ⟨f, g, h⟩ := h
          replace hf := Nat.lt_trans g hf
          clear g
          replace h : EV F f 85 z85 25 [some (rf 5 (a)), some (rf 0 (b)), some (.inl (i)), x3, x4] [rf 0 (b)] τ (w, σ') := h
          replace h := ei_get h rfl ((hT.get (c := 0) (i := b) (k := 0) (l5_7 (by decide) (by decide))).trans hb.1)
          obtain ⟨f, g, h⟩ := h
          replace hf := Nat.lt_trans g hf
          clear g
          replace h : EV F f 85 z85 28 [some (rf 5 (a)), some (rf 0 (b)), some (.inl (i)), x3, x4] [rf 17 (r)] τ (w, σ') := h
          replace h := ei_p h rfl rfl rfl rfl
          obtain ⟨f, g, h⟩ := h
          replace hf := Nat.lt_trans g hf
          clear g
          replace h : EV F f 85 z85 29 [some (rf 5 (a)), some (rf 0 (b)), some (.inl (i)), x3, x4] [.inl (i), rf 17 (r)] τ (w, σ') := h
          replace h := ei_ald h rfl (fun _ => (hT.get (c := 17) (i := r) (k := (i).toNatClampNeg) (l5_7 (by decide) (by decide))).trans (hb.2.2.2.2 _ (by have := hp1; have := hp2; omega)).1)
          obtain ⟨vp3, f, g, h⟩ := h
          replace hf := Nat.lt_trans g hf
          clear g
          replace h : EV F f 85 z85 30 [some (rf 5 (a)), some (rf 0 (b)), some (.inl (i)), x3, x4] [rf 7 (o (i).toNatClampNeg)] τ (w, σ') := h
          replace vp3 := vp_ok.mp vp3
          replace h := ei_p h rfl rfl rfl rfl
          obtain ⟨f, g, h⟩ := h
          replace hf := Nat.lt_trans g hf
          clear g
          replace h : EV F f 85 z85 31 [some (rf 5 (a)), some (rf 0 (b)), some (.inl (i)), some (rf 7 (o (i).toNatClampNeg)), x4] [] τ (w, σ') := h
          replace h := ei_p h rfl rfl rfl rfl
          obtain ⟨f, g, h⟩ := h
          replace hf := Nat.lt_trans g hf
          clear g
          replace h : EV F f 85 z85 32 [some (rf 5 (a)), some (rf 0 (b)), some (.inl (i)), some (rf 7 (o (i).toNatClampNeg)), x4] [rf 7 (o (i).toNatClampNeg)] τ (w, σ') := h
          replace h := bk_I (ei_v (as := []) h rfl rfl rfl) rfl z99_at (Or.inr rfl)
          obtain ⟨v4, τ5, r6, f, g, h⟩ := h
          replace hf := Nat.lt_trans g hf
          clear g
          obtain ⟨pr6, e1r6, er6, D⟩ := s99 r6
          cases e1r6
          rw [er6] at h
          replace h : EV F f 85 z85 35 [some (rf 5 (a)), some (rf 0 (b)), some (.inl (i)), some (rf 7 (o (i).toNatClampNeg)), x4] [.inl (v4)] τ (w, σ') := h
          replace h := ei_c h rfl rfl rfl
          rcases h with ⟨hp7, f, g, h⟩ | ⟨hp7, f, g, h⟩
          · skip
            replace hp7 : (v4).toInt = (0 : Int) := ic_eq.mp hp7
            replace hf := Nat.lt_trans g hf
            clear g
            replace h : EV F f 85 z85 61 [some (rf 5 (a)), some (rf 0 (b)), some (.inl (i)), some (rf 7 (o (i).toNatClampNeg)), x4] [] τ (w, σ') := h
            replace h := ei_p h rfl rfl rfl rfl
            obtain ⟨f, g, h⟩ := h
            replace hf := Nat.lt_trans g hf
            clear g
            replace h : EV F f 85 z85 64 [some (rf 5 (a)), some (rf 0 (b)), some (.inl ((i) + Int32.ofInt 1)), some (rf 7 (o (i).toNatClampNeg)), x4] [] τ (w, σ') := h
            replace h := ei_p h rfl rfl rfl rfl
            obtain ⟨f, g, h⟩ := h
            replace hf := Nat.lt_trans g hf
            clear g
            replace h : EV F f 85 z85 7 [some (rf 5 (a)), some (rf 0 (b)), some (.inl ((i) + Int32.ofInt 1)), some (rf 7 (o (i).toNatClampNeg)), x4] [] τ (w, σ') := h
            have im : i.toInt < N := by have := hp1; have := hp2; have := hp7; omega
            generalize hi0 : i + Int32.ofInt 1 = iw at *
            have n9 : m_i τ 7 (o i.toNatClampNeg) 9 = m_i σ 7 (o i.toNatClampNeg) 9 := (hT.2.2 7 _ 9 (l5_7 (by decide) (by decide))).1
            rw [n9] at D
            have eI := nI im
            have ns : (m_i σ 7 (o i.toNatClampNeg) 9).toInt ≠ 1 := by have := hp7; omega
            refine IH f hf iw τ _ _ n' hT (by omega) (by omega) (by omega) hV hS hK hZ (fun k => ?_) h
            rw [eI]
            show pM _ _ _ k (sh σ o k i.toNatClampNeg + _)
            rw [if_neg (fun z => ns z.1), Int.add_zero]
            exact hM k
          · skip
            replace hp7 : ¬ ((v4).toInt = (0 : Int)) := (not_congr ic_eq).mp hp7
            replace hf := Nat.lt_trans g hf
            clear g
            replace h : EV F f 85 z85 38 [some (rf 5 (a)), some (rf 0 (b)), some (.inl (i)), some (rf 7 (o (i).toNatClampNeg)), x4] [] τ (w, σ') := h
            replace h := ei_p h rfl rfl rfl rfl
            obtain ⟨f, g, h⟩ := h
            replace hf := Nat.lt_trans g hf
            clear g
            replace h : EV F f 85 z85 39 [some (rf 5 (a)), some (rf 0 (b)), some (.inl (i)), some (rf 7 (o (i).toNatClampNeg)), x4] [rf 7 (o (i).toNatClampNeg)] τ (w, σ') := h
            replace h := bk_I (ei_s (as := [rf 7 (o (i).toNatClampNeg)]) h rfl (Nat.le_of_ble_eq_true rfl) rfl rfl) rfl z51_at (Or.inl rfl)
            obtain ⟨v8, τ9, r10, f, g, h⟩ := h
            replace hf := Nat.lt_trans g hf
            clear g
            obtain ⟨e1r10, er10⟩ := s51 r10
            cases e1r10
            rw [er10] at h
            replace h : EV F f 85 z85 42 [some (rf 5 (a)), some (rf 0 (b)), some (.inl (i)), some (rf 7 (o (i).toNatClampNeg)), x4] [.inl (oK τ (o (i).toNatClampNeg))] τ (w, σ') := h
            replace h := ei_p h rfl rfl rfl rfl
            obtain ⟨f, g, h⟩ := h
            replace hf := Nat.lt_trans g hf
            clear g
            replace h : EV F f 85 z85 44 [some (rf 5 (a)), some (rf 0 (b)), some (.inl (i)), some (rf 7 (o (i).toNatClampNeg)), some (.inl (oK τ (o (i).toNatClampNeg)))] [] τ (w, σ') := h
            replace h := ei_p h rfl rfl rfl rfl
            obtain ⟨f, g, h⟩ := h
            replace hf := Nat.lt_trans g hf
            clear g
            replace h : EV F f 85 z85 45 [some (rf 5 (a)), some (rf 0 (b)), some (.inl (i)), some (rf 7 (o (i).toNatClampNeg)), some (.inl (oK τ (o (i).toNatClampNeg)))] [rf 5 (a)] τ (w, σ') := h
            replace h := ei_p h rfl rfl rfl rfl
            obtain ⟨f, g, h⟩ := h
            replace hf := Nat.lt_trans g hf
            clear g
            replace h : EV F f 85 z85 47 [some (rf 5 (a)), some (rf 0 (b)), some (.inl (i)), some (rf 7 (o (i).toNatClampNeg)), some (.inl (oK τ (o (i).toNatClampNeg)))] [.inl (oK τ (o (i).toNatClampNeg)), rf 5 (a)] τ (w, σ') := h
            replace h := ei_p h rfl rfl rfl rfl
            obtain ⟨f, g, h⟩ := h
            replace hf := Nat.lt_trans g hf
            clear g
            replace h : EV F f 85 z85 48 [some (rf 5 (a)), some (rf 0 (b)), some (.inl (i)), some (rf 7 (o (i).toNatClampNeg)), some (.inl (oK τ (o (i).toNatClampNeg)))] [rf 5 (a), .inl (oK τ (o (i).toNatClampNeg)), rf 5 (a)] τ (w, σ') := h
            replace h := ei_p h rfl rfl rfl rfl
            obtain ⟨f, g, h⟩ := h
            replace hf := Nat.lt_trans g hf
            clear g
            replace h : EV F f 85 z85 50 [some (rf 5 (a)), some (rf 0 (b)), some (.inl (i)), some (rf 7 (o (i).toNatClampNeg)), some (.inl (oK τ (o (i).toNatClampNeg)))] [.inl (oK τ (o (i).toNatClampNeg)), rf 5 (a), .inl (oK τ (o (i).toNatClampNeg)), rf 5 (a)] τ (w, σ') := h
            replace h := bk_I (ei_v (as := [.inl (oK τ (o (i).toNatClampNeg))]) h rfl rfl rfl) rfl z78_at (Or.inl rfl)
            obtain ⟨v11, τ12, r13, f, g, h⟩ := h
            replace hf := Nat.lt_trans g hf
            clear g
            obtain ⟨pr13, e1r13, er13, Mv⟩ := s78 hV hS r13
            cases e1r13
            rw [er13] at h
            replace h : EV F f 85 z85 53 [some (rf 5 (a)), some (rf 0 (b)), some (.inl (i)), some (rf 7 (o (i).toNatClampNeg)), some (.inl (oK τ (o (i).toNatClampNeg)))] [.inl (v11), .inl (oK τ (o (i).toNatClampNeg)), rf 5 (a)] τ (w, σ') := h
            replace h := ei_p h rfl rfl rfl rfl
            obtain ⟨f, g, h⟩ := h
            replace hf := Nat.lt_trans g hf
            clear g
            replace h : EV F f 85 z85 54 [some (rf 5 (a)), some (rf 0 (b)), some (.inl (i)), some (rf 7 (o (i).toNatClampNeg)), some (.inl (oK τ (o (i).toNatClampNeg)))] [rf 7 (o (i).toNatClampNeg), .inl (v11), .inl (oK τ (o (i).toNatClampNeg)), rf 5 (a)] τ (w, σ') := h
            replace h := ei_get h rfl rfl
            obtain ⟨f, g, h⟩ := h
            replace hf := Nat.lt_trans g hf
            clear g
            replace h : EV F f 85 z85 57 [some (rf 5 (a)), some (rf 0 (b)), some (.inl (i)), some (rf 7 (o (i).toNatClampNeg)), some (.inl (oK τ (o (i).toNatClampNeg)))] [.inl (m_i τ 7 (o (i).toNatClampNeg) (7)), .inl (v11), .inl (oK τ (o (i).toNatClampNeg)), rf 5 (a)] τ (w, σ') := h
            replace h := ei_p h rfl rfl rfl rfl
            obtain ⟨f, g, h⟩ := h
            replace hf := Nat.lt_trans g hf
            clear g
            replace h : EV F f 85 z85 58 [some (rf 5 (a)), some (rf 0 (b)), some (.inl (i)), some (rf 7 (o (i).toNatClampNeg)), some (.inl (oK τ (o (i).toNatClampNeg)))] [.inl ((v11) + (m_i τ 7 (o (i).toNatClampNeg) (7))), .inl (oK τ (o (i).toNatClampNeg)), rf 5 (a)] τ (w, σ') := h
            replace h := bk_0 (ei_v (as := [.inl ((v11) + (m_i τ 7 (o (i).toNatClampNeg) (7))), .inl (oK τ (o (i).toNatClampNeg))]) h rfl rfl rfl) rfl z81_at rfl
            obtain ⟨τ15, r16, f, g, h⟩ := h
            replace hf := Nat.lt_trans g hf
            clear g
            have im : i.toInt < N := by have := hp1; have := hp2; have := hp7; omega
            obtain ⟨_, hF, n2, V2, R2⟩ := s81 hV hS (by omega) r16
            replace h : EV F f 85 z85 61 [some (rf 5 (a)), some (rf 0 (b)), some (.inl (i)), some (rf 7 (o (i).toNatClampNeg)), some (.inl (oK τ (o (i).toNatClampNeg)))] [] τ15 (w, σ') := h
            replace h := ei_p h rfl rfl rfl rfl
            obtain ⟨f, g, h⟩ := h
            replace hf := Nat.lt_trans g hf
            clear g
            replace h : EV F f 85 z85 64 [some (rf 5 (a)), some (rf 0 (b)), some (.inl ((i) + Int32.ofInt 1)), some (rf 7 (o (i).toNatClampNeg)), some (.inl (oK τ (o (i).toNatClampNeg)))] [] τ15 (w, σ') := h
            replace h := ei_p h rfl rfl rfl rfl
            obtain ⟨f, g, h⟩ := h
            replace hf := Nat.lt_trans g hf
            clear g
            replace h : EV F f 85 z85 7 [some (rf 5 (a)), some (rf 0 (b)), some (.inl ((i) + Int32.ofInt 1)), some (rf 7 (o (i).toNatClampNeg)), some (.inl (oK τ (o (i).toNatClampNeg)))] [] τ15 (w, σ') := h
            generalize hi0 : i + Int32.ofInt 1 = iw at *
            have n9 : m_i τ 7 (o i.toNatClampNeg) 9 = m_i σ 7 (o i.toNatClampNeg) 9 := (hT.2.2 7 _ 9 (l5_7 (by decide) (by decide))).1
            rw [n9] at D
            have eI := nI im
            have st : (m_i σ 7 (o i.toNatClampNeg) 9).toInt = 1 := by have := hp7; omega
            have ek : oK τ (o i.toNatClampNeg) = oK σ (o i.toNatClampNeg) := by
              unfold oK
              rw [(hT.2.2 7 (o i.toNatClampNeg) 2 (l5_7 (by decide) (by decide))).1, (hT.2.2 7 (o i.toNatClampNeg) 3 (l5_7 (by decide) (by decide))).1, (hT.2.2 7 (o i.toNatClampNeg) 4 (l5_7 (by decide) (by decide))).1]
            have ep : m_i τ 7 (o i.toNatClampNeg) 7 = m_i σ 7 (o i.toNatClampNeg) 7 := (hT.2.2 7 _ 7 (l5_7 (by decide) (by decide))).1
            obtain ⟨_, ob, op⟩ := hb.2.2.2.2 i.toNatClampNeg (by omega)
            replace op := op st
            have kb := oK_b ob
            rw [ek] at Mv R2
            rw [ep] at R2
            have ev := lM_uni hS Mv (hM (oK σ (o i.toNatClampNeg)).toInt)
            have sb := sh_b hb (oK σ (o i.toNatClampNeg)).toInt i.toNatClampNeg (by omega)
            have es : (v11 + m_i σ 7 (o i.toNatClampNeg) 7).toInt = v11.toInt + (m_i σ 7 (o i.toNatClampNeg) 7).toInt := i_add (by omega) (by omega)
            obtain ⟨R3, R4, R5, R6, R7, R8⟩ := R2
            rw [es, ev] at R5
            refine IH f hf iw τ15 _ _ n2 (hT.tr hF) (by omega) (by omega) (by omega) V2 R4 (fun j hj => ?_) (R8 hZ) (fun k => ?_) h
            · rcases R7 j hj with y | ⟨j2, y1, y2⟩
              · rw [y]; exact kb
              · rw [y2]; exact hK j2 y1
            · rw [eI]
              show pM _ _ _ k (sh σ o k i.toNatClampNeg + _)
              by_cases c : (oK σ (o i.toNatClampNeg)).toInt = k
              · rw [if_pos ⟨st, c⟩]
                subst c
                exact R5
              · rw [if_neg (fun z => c z.2), Int.add_zero]
                exact R6 k _ (fun z => c z.symm) (hM k)
  replace h : EV F f 85 z85 0 [some (rf 5 (a)), some (rf 0 (b)), none, none, none] [] σ (w, σ') := h
  replace h := ei_p h rfl rfl rfl rfl
  obtain ⟨f, g, h⟩ := h
  clear g
  replace h : EV F f 85 z85 1 [some (rf 5 (a)), some (rf 0 (b)), none, none, none] [rf 5 (a)] σ (w, σ') := h
  replace h := ei_p h rfl rfl rfl rfl
  obtain ⟨f, g, h⟩ := h
  clear g
  replace h : EV F f 85 z85 2 [some (rf 5 (a)), some (rf 0 (b)), none, none, none] [.inl (Int32.ofInt 0), rf 5 (a)] σ (w, σ') := h
  replace h := ei_put h rfl
  obtain ⟨ht1, f, g, h⟩ := h
  clear g
  replace h : EV F f 85 z85 5 [some (rf 5 (a)), some (rf 0 (b)), none, none, none] [] (m_set σ 5 (a) 2 (.inl (Int32.ofInt 0))) (w, σ') := h
  replace h := ei_p h rfl rfl rfl rfl
  obtain ⟨f, g, h⟩ := h
  clear g
  replace h : EV F f 85 z85 6 [some (rf 5 (a)), some (rf 0 (b)), none, none, none] [.inl (Int32.ofInt 0)] (m_set σ 5 (a) 2 (.inl (Int32.ofInt 0))) (w, σ') := h
  replace h := ei_p h rfl rfl rfl rfl
  obtain ⟨f, g, h⟩ := h
  clear g
  replace h : EV F f 85 z85 7 [some (rf 5 (a)), some (rf 0 (b)), some (.inl (Int32.ofInt 0)), none, none] [] (m_set σ 5 (a) 2 (.inl (Int32.ofInt 0))) (w, σ') := h
  have F0 : fr3 (l5 a ka qa) σ (m_set σ 5 (a) 2 (.inl (Int32.ofInt 0))) := fr3.rf.set (Or.inl ⟨rfl, rfl, rfl⟩)
  refine loop (f + 1) f (Nat.lt_succ_self f) (Int32.ofInt 0) _ _ _ 0 F0 (by decide) (by show (0 : Int) ≤ N; omega) (by decide) (lv_fr F0 hv ((congrArg Int32.toInt (mi_si.trans (if_pos ⟨rfl, rfl, rfl⟩))).trans (by decide)) (by omega)) (fun i j h1 h2 => by omega) (fun j hj => by omega) (fun j hj => by omega) (fun k => Or.inr ⟨fun j hj => by omega, rfl⟩) h
