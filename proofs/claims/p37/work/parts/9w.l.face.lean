/-! the face: cancelling, halts, a debt settled -/
theorem p98 {σ : mS} {a : Nat} {w : Int32} (p : P98 σ a w) : (w.toInt = 0 ∧ oi σ a 9 ≠ 0) ∨ (w.toInt ≠ 0 ∧ oi σ a 9 = 0) := by
  have z0 := i_0
  have z1 := i_1
  rcases p with ⟨h, rfl⟩ | ⟨h, rfl⟩
  · exact Or.inl ⟨z0, h⟩
  · exact Or.inr ⟨by omega, Decidable.of_not_not h⟩
theorem a129 {n : Int} {N c : Nat} {k : Kt} {x1 : Int32} {w : mX} {σ σ' : mS} (h : S n N c k σ) (hn : n + 11 ≤ 300) (hc : c ≤ 900000) (p : P129 σ x1 w σ') :
    ((x1.toInt < 0 ∨ (N : Int) ≤ x1.toInt) ∧ w = .inr 0 ∧ σ' = σ) ∨ ∃ a : Nat, x1.toInt = a ∧ a < N ∧ ((oi σ a 9 = 0 ∧ w = .inr 2 ∧ σ' = σ) ∨
    (oi σ a 9 ≠ 0 ∧ ∃ v : Int64, w = .inl (some (.inl v.toInt32)) ∧ D (n + 1) N c k σ' ∧ mO N σ σ' ∧ oi σ' a 9 = 0 ∧ v.toInt = oi σ a 6 ∧ (∀ o, o ≠ a → eO σ σ' o) ∧ (∃ b : Bool, ∀ m, m_i σ' 6 m 6 = if m = (m_i σ 7 a 1).toNatClampNeg + 1 ∧ b = true then m_i σ 6 m 6 + Int32.ofInt 1 else m_i σ 6 m 6) ∧ fw_e (wl ((8, 7) :: (L71 ++ LD))) σ σ')) := by
  obtain ⟨v1, p1, hh⟩ := p
  have hnN := h.1.2.1
  have z0 := i_0
  have z1 := i_1
  rcases p3 hnN p1 with ⟨e1, hx⟩ | ⟨x0, xN, e1⟩
  · rw [e1] at hh
    rcases hh with ⟨_, hw, e⟩ | ⟨q, z, _⟩
    · exact Or.inl ⟨hx, hw, e⟩
    · cases z
  · have na := i_nat x0
    right
    refine ⟨x1.toNatClampNeg, na.symm, by omega, ?_⟩
    rw [e1] at hh
    rcases hh with ⟨z, _⟩ | ⟨q6, e6, i9, e9, v11, p11, hh⟩
    · cases z
    cases e6; cases e9
    rcases p98 p11 with ⟨y1, y2⟩ | ⟨y1, y2⟩
    · rcases hh with ⟨z, _⟩ | ⟨_, ⟨σ35, _, q, σ38, e38, σ41, _, p18, v44, σ45, _, p61, v48, σ49, F49, p158', hw, rfl⟩ | ⟨b, q, hw⟩⟩
      · exact absurd y1 z
      · rcases m2 q with ⟨_, _, rfl⟩ | ⟨_, z, _⟩
        · subst e38
          obtain ⟨g1, g2, g3, g4, g5, g6, _⟩ := mk h.1 h.2 p18
          have k0' : (m_i σ41 1 (σ35.1 1) 0).toInt = 5 := by rw [g4]; decide
          obtain ⟨k1, k2, k3, k4, k5, k6, b, k7⟩ := k5 (a := x1.toNatClampNeg) g1 hn k0' (by rw [g5]; omega) (by omega) p61
          have f45 := FY_fw g2 k2 rfl
          obtain ⟨r1, r2, r3⟩ := p158 k1 f45 hc F49 p158'
          have rec0 : (m_i σ45 1 (σ35.1 1) 0).toInt = 5 := by rw [(k2.2 1 _ 0 rfl).1]; exact k0'
          rcases r3 with ⟨y, _⟩ | r3
          · rw [rec0] at y; cases y
          have sa : sO σ35 σ41 := sO_of g3 rfl
          have sb : sO σ45 σ' := sO_of F49 rfl
          have a7 : ∀ o k, m_i σ41 7 o k = m_i σ35 7 o k := fun o k => (g3.2 7 o k (by unfold fwh; rfl)).1
          refine Or.inr ⟨y2, v48, hw, ⟨r2, r3⟩, (sa.mO.tr k3).tr sb.mO, ?_, ?_, fun o ho => ((sa.e o).tr (k6 o ho)).tr (sb.e o), ⟨b, fun m => ?_⟩, ((wl_mono (wn_l g3) (by decide)).tr (wl_mono k2 (by decide))).tr (wl_mono F49 (by decide))⟩
          · rw [sb.oi (by decide)]; exact k4
          · rw [r1, k5]
            show (m_i σ41 7 _ 6).toInt = (m_i σ35 7 _ 6).toInt
            rw [a7]
          · rw [(F49.2 6 m 6 rfl).1, k7, a7, (g3.2 6 m 6 rfl).1]
        · cases z
      · rcases m2 q with ⟨_, z, _⟩ | ⟨t, _, _⟩
        · cases z
        · rw [z1] at t; cases t
    · rcases hh with ⟨_, ⟨σ17, _, q, _⟩ | ⟨b, q, hw⟩⟩ | ⟨z, _⟩
      · rcases m2 q with ⟨t, _, _⟩ | ⟨_, z, _⟩
        · exact absurd z0 t
        · cases z
      · rcases m2 q with ⟨_, z, _⟩ | ⟨_, z, rfl⟩
        · cases z
        · cases z
          exact Or.inl ⟨y2, hw, rfl⟩
      · exact absurd y1 z
theorem a135 {n : Int} {N c : Nat} {k : Kt} {x1 : Int32} {w : mX} {σ σ' : mS} (h : S n N c k σ) (hc : c ≤ 900000) (p : P135 σ x1 w σ') :
    (¬ (0 ≤ x1.toInt ∧ x1.toInt < 3) ∧ w = .inr 0 ∧ σ' = σ) ∨ ((0 ≤ x1.toInt ∧ x1.toInt < 3) ∧ pv σ x1.toNatClampNeg 1 ≠ 0 ∧ w = .inr 2 ∧ σ' = σ) ∨
    ((0 ≤ x1.toInt ∧ x1.toInt < 3) ∧ pv σ x1.toNatClampNeg 1 = 0 ∧ w = .inl none ∧ D n N c k σ' ∧ pv σ' x1.toNatClampNeg 1 = 1 ∧ (∀ i, i ≠ x1.toNatClampNeg → m_i σ' 8 i 1 = m_i σ 8 i 1) ∧ fw_e (wl ((8, 1) :: (8, 7) :: LD)) σ σ') := by
  obtain ⟨v1, p1, h1⟩ := p
  rcases h1 with ⟨σ6, _, q6, v9, p9, h2⟩ | ⟨b, q6, hw⟩
  · rcases m0 q6 with ⟨t1, _, rfl⟩ | ⟨_, z, _⟩
    · rcases p166 p1 with y | ⟨_, x1b⟩
      · exact absurd y.1 t1
      have n1 := i_nat x1b.1
      rcases h2 with ⟨σ14, _, q14, σ17, e17, σ20, _, p18, v23, σ24, _, p61, v27, σ28, F28, p158', hw, rfl⟩ | ⟨b, q14, hw⟩
      · rcases m2 q14 with ⟨t2, _, rfl⟩ | ⟨_, z, _⟩
        · rcases p27 p9 x1b with y | ⟨_, ph⟩
          · exact absurd y.1 t2
          subst e17
          obtain ⟨g1, g2, g3, g4, g5, g6, _⟩ := mk h.1 h.2 p18
          have k0' : (m_i σ20 1 (σ14.1 1) 0).toInt = 8 := by rw [g4]; decide
          obtain ⟨k1, k2, k3, k4⟩ := k8 (ip := x1.toNatClampNeg) g1 k0' (by rw [g5]; omega) (by omega) p61
          have f24 := FY_fw g2 k2 rfl
          obtain ⟨r1, r2, r3⟩ := p158 k1 f24 hc F28 p158'
          have rec0 : (m_i σ24 1 (σ14.1 1) 0).toInt = 8 := by rw [(k2.2 1 _ 0 rfl).1]; exact k0'
          rcases r3 with ⟨y, _⟩ | r3
          · rw [rec0] at y; cases y
          refine Or.inr (Or.inr ⟨x1b, ph, hw, ⟨r2, r3⟩, ?_, fun i hi => ?_, ((wl_mono (wn_l g3) (by decide)).tr (wl_mono k2 (by decide))).tr (wl_mono F28 (by decide))⟩)
          · show (m_i σ' 8 _ 1).toInt = 1
            rw [(F28.2 8 _ 1 rfl).1]; exact k3
          · rw [(F28.2 8 i 1 rfl).1, k4 i hi, (g3.2 8 i 1 rfl).1]
        · cases z
      · rcases m2 q14 with ⟨_, z, _⟩ | ⟨t2, z, rfl⟩
        · cases z
        · cases z
          rcases p27 p9 x1b with ⟨_, y⟩ | y
          · exact Or.inr (Or.inl ⟨x1b, y, hw, rfl⟩)
          · exact absurd t2 y.1
    · cases z
  · rcases m0 q6 with ⟨_, z, _⟩ | ⟨t1, z, rfl⟩
    · cases z
    · cases z
      rcases p166 p1 with ⟨_, y⟩ | y
      · exact Or.inl ⟨y, hw, rfl⟩
      · exact absurd t1 y.1
theorem a152 {n : Int} {N c : Nat} {k : Kt} {w : mX} {σ σ' : mS} (h : S n N c k σ) (hn : n + 11 ≤ 300) (hc : c ≤ 900000) (p : P152 σ w σ') :
    (m_r σ 2 0 9 = none ∧ w = .inr 2 ∧ σ' = σ) ∨
    ∃ (m : Nat) (v : Int64), 1 ≤ m ∧ m < 6 ∧ m_r σ 2 0 9 = some (6, m) ∧ (mi6 σ m 9 = 1 ∧ mi6 σ m 10 = 0) ∧ w = .inl (some (.inr (.inl v))) ∧ D (n + 1) N c k σ' ∧ sm σ' = sm σ ∧ (∀ j, ps σ' j = ps σ j) ∧ mi6 σ' m 10 = 1 ∧ (0 ≤ v.toInt ∧ m_l σ' 6 0 3 = m_l σ 6 0 3 + v) ∧ (0 < v.toInt → (m_l σ' 6 m 2).toInt ≤ 0) ∧ fw_e (wl ([(2, 9), (6, 2), (6, 3), (6, 4), (6, 10), (8, 7)] ++ LD)) σ σ' := by
  have z0 := i_0
  have z1 := i_1
  rcases p with ⟨e0, ⟨σ5, _, q, _⟩ | ⟨b, q, hw⟩⟩ | ⟨q2, e2, ⟨σ24, _, q, σ27, e27, σ30, _, p18, v33, σ34, _, p61, v37, σ38, F38, p158', hw, rfl⟩ | ⟨b, q, hw⟩⟩
  · rcases m2 q with ⟨t, _, _⟩ | ⟨_, z, _⟩
    · exact absurd z0 t
    · cases z
  · rcases m2 q with ⟨_, z, _⟩ | ⟨_, z, rfl⟩
    · cases z
    · cases z
      exact Or.inl ⟨e0, hw, rfl⟩
  · rcases m2 q with ⟨_, _, rfl⟩ | ⟨_, z, _⟩
    · rcases h.1.2.2.2.1.2.2.2.2.1 with ⟨y, _⟩ | ⟨m, b1, b2, b3, b4, b5, _⟩
      · rw [y] at e2; cases e2
      subst e27
      obtain ⟨g1, g2, g3, g4, g5, g6, _⟩ := mk h.1 h.2 p18
      have k0' : (m_i σ30 1 (σ24.1 1) 0).toInt = 16 := by rw [g4]; decide
      obtain ⟨k1, k2, k3, k4, k5, k6, k7, k8⟩ := k16 g1 hn k0' b1 b2 (((g3.2 2 0 9 rfl).2.2).trans b3) p61
      have f34 := FY_fw g2 k2 rfl
      obtain ⟨r1, r2, r3⟩ := p158 k1 f34 hc F38 p158'
      have rec0 : (m_i σ34 1 (σ24.1 1) 0).toInt = 16 := by rw [(k2.2 1 _ 0 rfl).1]; exact k0'
      rcases r3 with ⟨y, _⟩ | r3
      · rw [rec0] at y; cases y
      refine Or.inr ⟨m, v37, b1, b2, b3, ⟨b4, b5⟩, hw, ⟨r2, r3⟩, by rw [sm_fw F38 rfl, k3, sm_fw g3 rfl], fun j => by rw [ps_fw F38 rfl, k4, ps_fw g3 rfl], ?_, ⟨by rw [r1]; exact k7.1, ?_⟩, fun z => ?_, ((wl_mono (wn_l g3) (by decide)).tr (wl_mono k2 (by decide))).tr (wl_mono F38 (by decide))⟩
      · show (m_i σ' 6 m 10).toInt = 1
        rw [(F38.2 6 m 10 rfl).1]; exact k6
      · rw [(F38.2 6 0 3 rfl).2.1, k7.2, (g3.2 6 0 3 rfl).2.1, r1]
      · rw [(F38.2 6 m 2 rfl).2.1]
        exact k8 (by rw [← r1]; exact z)
    · cases z
  · rcases m2 q with ⟨_, z, _⟩ | ⟨t, _, _⟩
    · cases z
    · rw [z1] at t; cases t
