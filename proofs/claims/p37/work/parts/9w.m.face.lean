/-! the face: opening, splits -/
theorem kT_fw {w : Nat → Nat → Bool} {σ σ' : mS} (F : fw_e w σ σ') (c : ((fwh w 2 5 && (List.range 10).all (fun k => fwh w 10 k)) && ((fwh w 6 2 && (fwh w 6 3 && fwh w 6 4)) && fwh w 14 0)) = true) : kT σ σ' := by
  obtain ⟨c1, c2⟩ := Bool.and_eq_true_iff.mp c
  obtain ⟨c3, c4⟩ := Bool.and_eq_true_iff.mp c1
  obtain ⟨c5, c6⟩ := Bool.and_eq_true_iff.mp c2
  have c4 := List.all_eq_true.mp c4
  have e := (F.2 2 0 5 c3).1
  exact ⟨by rw [e]; exact Int.le_refl _, fun t k _ hk => (F.2 10 t k (c4 k (List.mem_range.mpr (by omega)))).1, fun t a b => by rw [e] at b; omega, sm_fw F c5, fun j => ps_fw F c6⟩
theorem a137 {n : Int} {N c : Nat} {k : Kt} {x1 : Int32} {w : mX} {σ σ' : mS} (h : S n N c k σ) (hc : c ≤ 900000) (p : P137 σ x1 w σ') :
    (¬ (0 ≤ x1.toInt ∧ x1.toInt < 3) ∧ w = .inr 0 ∧ σ' = σ) ∨ ((0 ≤ x1.toInt ∧ x1.toInt < 3) ∧ pv σ x1.toNatClampNeg 1 = 0 ∧ w = .inr 2 ∧ σ' = σ) ∨
    ((0 ≤ x1.toInt ∧ x1.toInt < 3) ∧ pv σ x1.toNatClampNeg 1 ≠ 0 ∧ ∃ v : Int64, w = .inl (some (.inl v.toInt32)) ∧ D n N c k σ' ∧ mO N σ σ' ∧ (∀ o k, o < N → 1 ≤ k → k ≤ 5 → m_i σ' 7 o k = m_i σ 7 o k) ∧ kT σ σ' ∧ fw_e (wl (LR ++ LD)) σ σ' ∧ ∃ (v3 v7 : Int32) (σ20 : mS), fw_e (wl LN) σ σ20 ∧ P10 σ20 (m_i σ20 8 x1.toNatClampNeg 0) (m_i σ20 8 x1.toNatClampNeg 3) v3 ∧ P9 σ20 (m_i σ20 8 x1.toNatClampNeg 0) v3 v7 ∧ 0 ≤ v.toInt ∧ (v.toInt ≤ v7.toInt ∨ v7.toInt < 0)) := by
  obtain ⟨v1, p1, h1⟩ := p
  have z0 := i_0
  have z1 := i_1
  rcases h1 with ⟨σ6, _, q6, v9, p9, h2⟩ | ⟨b, q6, hw⟩
  · rcases m0 q6 with ⟨t1, _, rfl⟩ | ⟨_, z, _⟩
    · rcases p166 p1 with y | ⟨_, x1b⟩
      · exact absurd y.1 t1
      have n1 := i_nat x1b.1
      rcases p27 p9 x1b with ⟨y1, ph⟩ | ⟨y1, ph⟩
      · rcases h2 with ⟨z, _⟩ | ⟨_, ⟨σ33, _, q, σ36, e36, σ39, _, p18, v42, σ43, _, p61, v46, σ47, F47, p158', hw, rfl⟩ | ⟨b, q, hw⟩⟩
        · exact absurd y1 z
        · rcases m2 q with ⟨_, _, rfl⟩ | ⟨_, z, _⟩
          · subst e36
            obtain ⟨g1, g2, g3, g4, g5, g6, _⟩ := mk h.1 h.2 p18
            have k0' : (m_i σ39 1 (σ33.1 1) 0).toInt = 9 := by rw [g4]; decide
            obtain ⟨k1, X, KT, v3, v7, u1, u2, u3, u4⟩ := k9 (ip := x1.toNatClampNeg) g1 k0' (by rw [g5]; omega) (by omega) p61
            have FR := RT_fw X.2.2.2.2
            have f43 := FY_fw g2 FR rfl
            obtain ⟨r1, r2, r3⟩ := p158 k1 f43 hc F47 p158'
            have rec0 : (m_i σ43 1 (σ33.1 1) 0).toInt = 9 := by rw [(FR.2 1 _ 0 rfl).1]; exact k0'
            rcases r3 with ⟨y, _⟩ | r3
            · rw [rec0] at y; cases y
            have sa : sO σ33 σ39 := sO_of g3 rfl
            have sb : sO σ43 σ' := sO_of F47 rfl
            refine Or.inr (Or.inr ⟨x1b, ph, v46, hw, ⟨r2, r3⟩, (sa.mO.tr X.2.2.1).tr sb.mO, fun o k _ k1 k5 => ?_, ((kT_fw g3 rfl).tr KT).tr (kT_fw F47 rfl), ((wl_mono (wn_l g3) (by decide)).tr (wl_mono FR (by decide))).tr (wl_mono F47 (by decide)), v3, v7, σ39, wn_l g3, u1, u2, by rw [r1]; exact u3, by rw [r1]; exact u4⟩)
            rw [sb.1 o k (by omega), X.2.1.1 o k (by omega), sa.1 o k (by omega)]
          · cases z
        · rcases m2 q with ⟨_, z, _⟩ | ⟨t, _, _⟩
          · cases z
          · rw [z1] at t; cases t
      · rcases h2 with ⟨_, ⟨σ15, _, q, _⟩ | ⟨b, q, hw⟩⟩ | ⟨z, _⟩
        · rcases m2 q with ⟨t, _, _⟩ | ⟨_, z, _⟩
          · exact absurd z0 t
          · cases z
        · rcases m2 q with ⟨_, z, _⟩ | ⟨_, z, rfl⟩
          · cases z
          · cases z
            exact Or.inr (Or.inl ⟨x1b, ph, hw, rfl⟩)
        · exact absurd y1 z
    · cases z
  · rcases m0 q6 with ⟨_, z, _⟩ | ⟨t1, z, rfl⟩
    · cases z
    · cases z
      rcases p166 p1 with ⟨_, y⟩ | y
      · exact Or.inl ⟨y, hw, rfl⟩
      · exact absurd t1 y.1
theorem p24' {σ : mS} {x : Int32} {w : mR} (h : P24 σ x w) : (w = none ∧ ¬ (0 ≤ x.toInt ∧ x.toInt < 3)) ∨ (w = some (8, x.toNatClampNeg) ∧ 0 ≤ x.toInt ∧ x.toInt < 3) := by
  rcases h with ⟨h1, e⟩ | ⟨h1, ⟨h2, _, e⟩ | ⟨h2, e⟩⟩
  · exact Or.inl ⟨e, by omega⟩
  · exact Or.inr ⟨e, by omega, by omega⟩
  · exact Or.inl ⟨e, by omega⟩
theorem a138 {n : Int} {N c : Nat} {k : Kt} {x1 x2 : Int32} {w : mX} {σ σ' : mS} (h : S n N c k σ) (hc : c ≤ 900000) (p : P138 σ x1 x2 w σ') :
    (¬ (0 ≤ x1.toInt ∧ x1.toInt < 3) ∧ w = .inr 0 ∧ σ' = σ) ∨ ((0 ≤ x1.toInt ∧ x1.toInt < 3) ∧ ¬ (2 ≤ x2.toInt ∧ x2.toInt ≤ 5) ∧ w = .inr 1 ∧ σ' = σ) ∨ ((0 ≤ x1.toInt ∧ x1.toInt < 3) ∧ (2 ≤ x2.toInt ∧ x2.toInt ≤ 5) ∧ 3 ≤ pv σ x1.toNatClampNeg 5 ∧ w = .inr 2 ∧ σ' = σ) ∨
    ((0 ≤ x1.toInt ∧ x1.toInt < 3) ∧ (2 ≤ x2.toInt ∧ x2.toInt ≤ 5) ∧ pv σ x1.toNatClampNeg 5 ≤ 2 ∧ ∃ v : Int64, w = .inl (some (.inl v.toInt32)) ∧ v.toInt = pv σ x1.toNatClampNeg 5 + 1 ∧ D n N c k σ' ∧ sm σ' = sm σ ∧ (∀ j, ps σ' j = if j = x1.toNatClampNeg then ps σ j + ps σ j * (x2 - Int32.ofInt 1).toInt64 else ps σ j) ∧ pv σ' x1.toNatClampNeg 5 = pv σ x1.toNatClampNeg 5 + 1 ∧ (∀ i, i ≠ x1.toNatClampNeg → m_i σ' 8 i 5 = m_i σ 8 i 5) ∧ (∀ o, o < N → oi σ o 2 = x1.toNatClampNeg → so x2.toInt σ σ' o) ∧ (∀ o k, k < 12 → o < N → oi σ o 2 ≠ x1.toNatClampNeg → m_i σ' 7 o k = m_i σ 7 o k) ∧ fw_e (wl ([(6, 2), (7, 4), (7, 5), (7, 6), (7, 7), (7, 8), (8, 2), (8, 3), (8, 5), (8, 6), (8, 7), (14, 0)] ++ LD)) σ σ' ∧ ∀ i, pv σ' i 6 = if i = x1.toNatClampNeg then pv σ x1.toNatClampNeg 6 * x2.toInt else pv σ i 6) := by
  obtain ⟨v1, p1, h1⟩ := p
  have z0 := i_0
  have z1 := i_1
  have i2 : (Int32.ofInt 2).toInt = 2 := by decide
  have i5 : (Int32.ofInt 5).toInt = 5 := by decide
  rcases p24' p1 with ⟨e1, x1b⟩ | ⟨e1, x1b⟩
  · rw [e1] at h1
    rcases h1 with ⟨_, hw, e⟩ | ⟨q, z, _⟩
    · exact Or.inl ⟨x1b, hw, e⟩
    · cases z
  have n1 := i_nat x1b.1
  rw [e1] at h1
  rcases h1 with ⟨z, _⟩ | ⟨q6, e6, v9, p9, h2⟩
  · cases z
  cases e6
  rcases h2 with ⟨σ14, _, q14, i17, e17, h3⟩ | ⟨b, q14, hw⟩
  · cases e17
    rcases m1 q14 with ⟨t2, _, rfl⟩ | ⟨_, z, _⟩
    · rcases p163 p9 with y | ⟨_, x2b⟩
      · exact absurd y.1 t2
      rw [i2, i5] at x2b
      rcases h3 with ⟨hh, ⟨σ21, _, q, _⟩ | ⟨b, q, hw⟩⟩ | ⟨hh, ⟨σ39, _, q, σ42, e42, σ45, _, p18, v48, σ49, _, p61, v52, σ53, F53, p158', hw, rfl⟩ | ⟨b, q, hw⟩⟩
      · rcases m2 q with ⟨t, _, _⟩ | ⟨_, z, _⟩
        · exact absurd z0 t
        · cases z
      · rcases m2 q with ⟨_, z, _⟩ | ⟨_, z, rfl⟩
        · cases z
        · cases z
          exact Or.inr (Or.inr (Or.inl ⟨x1b, x2b, hh, hw, rfl⟩))
      · rcases m2 q with ⟨_, _, rfl⟩ | ⟨_, z, _⟩
        · subst e42
          have hh' : pv σ39 x1.toNatClampNeg 5 ≤ 2 := by
            show (m_i σ39 8 _ 5).toInt ≤ 2
            omega
          obtain ⟨g1, g2, g3, g4, g5, g6, _⟩ := mk h.1 h.2 p18
          have k0' : (m_i σ45 1 (σ39.1 1) 0).toInt = 10 := by rw [g4]; decide
          have e8 : ∀ i k, m_i σ45 8 i k = m_i σ39 8 i k := fun i k => (g3.2 8 i k (by unfold fwh; rfl)).1
          have e7 : ∀ i k, m_i σ45 7 i k = m_i σ39 7 i k := fun i k => (g3.2 7 i k (by unfold fwh; rfl)).1
          have ev : ∀ i k, pv σ45 i k = pv σ39 i k := fun i k => congrArg Int32.toInt (e8 i k)
          have eo : ∀ i k, oi σ45 i k = oi σ39 i k := fun i k => congrArg Int32.toInt (e7 i k)
          obtain ⟨k1, k2, k3, k4, k5, k6, k7, k8, k9, kx⟩ := k10 (ip := x1.toNatClampNeg) g1 k0' (by rw [g5]; omega) (by omega) (by rw [g6]; omega) (by rw [ev]; exact hh') p61
          rw [g6] at k3 k7 kx
          have f49 := FY_fw g2 k9 rfl
          obtain ⟨r1, r2, r3⟩ := p158 k1 f49 hc F53 p158'
          have rec0 : (m_i σ49 1 (σ39.1 1) 0).toInt = 10 := by rw [(k9.2 1 _ 0 rfl).1]; exact k0'
          rcases r3 with ⟨y, _⟩ | r3
          · rw [rec0] at y; cases y
          have sb : sO σ49 σ' := sO_of F53 rfl
          refine Or.inr (Or.inr (Or.inr ⟨x1b, x2b, hh', v52, hw, by rw [r1, k5, ev], ⟨r2, r3⟩, by rw [sm_fw F53 rfl, k2, sm_fw g3 rfl], fun j => by rw [ps_fw F53 rfl, k3, ps_fw g3 rfl], ?_, fun i hi => ?_, fun o ho z => ?_, fun o k hk ho z => ?_, ((wl_mono (wn_l g3) (by decide)).tr (wl_mono k9 (by decide))).tr (wl_mono F53 (by decide)), fun i => by show (m_i σ' 8 i 6).toInt = _; rw [(F53.2 8 i 6 rfl).1]; show pv σ49 i 6 = _; rw [kx, ev, ev]⟩))
          · show (m_i σ' 8 _ 5).toInt = _
            rw [(F53.2 8 _ 5 rfl).1]
            show pv σ49 _ 5 = _
            rw [k4, ev]
          · rw [(F53.2 8 i 5 rfl).1, k6 i hi, e8]
          · have y := k7 o ho (by rw [eo]; exact z)
            unfold so at y ⊢
            rw [sb.oi (by decide), sb.oi (by decide), sb.oi (by decide), sb.oi (by decide)]
            rw [eo, eo, eo, eo] at y
            exact y
          · rw [sb.1 o k hk, k8 o k ho (by rw [eo]; exact z), e7]
        · cases z
      · rcases m2 q with ⟨_, z, _⟩ | ⟨t, _, _⟩
        · cases z
        · rw [z1] at t; cases t
    · cases z
  · rcases m1 q14 with ⟨_, z, _⟩ | ⟨t2, z, rfl⟩
    · cases z
    · cases z
      rcases p163 p9 with ⟨_, y⟩ | y
      · rw [i2, i5] at y
        exact Or.inr (Or.inl ⟨x1b, y, hw, rfl⟩)
      · exact absurd t2 y.1
