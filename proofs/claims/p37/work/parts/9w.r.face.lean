/-! the face: two orders are tied -/
theorem p101 {σ : mS} {a : Nat} {w : Int32} (p : P101 σ a w) : w.toInt ≠ 0 → oi σ a 9 ≠ 0 ∧ m_r σ 7 a 12 = none := by
  intro hw
  have z0 := i_0
  rcases p with ⟨_, rfl⟩ | ⟨h, ⟨h2, _⟩ | ⟨_, _, rfl⟩⟩
  · exact absurd z0 hw
  · exact ⟨h, h2⟩
  · exact absurd z0 hw
theorem a128 {n : Int} {N c : Nat} {k : Kt} {x1 x2 : Int32} {w : mX} {σ σ' : mS} (h : S n N c k σ) (hc : c ≤ 900000) (p : P128 σ x1 x2 w σ') :
    (¬ ((0 ≤ x1.toInt ∧ x1.toInt < N) ∧ 0 ≤ x2.toInt ∧ x2.toInt < N) ∧ w = .inr 0 ∧ σ' = σ) ∨ ∃ a b : Nat, x1.toInt = a ∧ x2.toInt = b ∧ a < N ∧ b < N ∧ (((a = b ∨ oi σ a 1 ≠ oi σ b 1) ∧ w = .inr 1 ∧ σ' = σ) ∨ ((a ≠ b ∧ oi σ a 1 = oi σ b 1) ∧ ((w = .inr 2 ∧ σ' = σ) ∨
    ((oi σ a 9 ≠ 0 ∧ m_r σ 7 a 12 = none ∧ oi σ b 9 ≠ 0 ∧ m_r σ 7 b 12 = none) ∧ w = .inl none ∧ D n N c k σ' ∧ (∀ o k, k < 12 → m_i σ' 7 o k = m_i σ 7 o k) ∧ m_r σ' 7 a 12 ≠ none ∧ m_r σ' 7 b 12 ≠ none ∧ fw_e (wl ([(7, 12), (8, 7)] ++ LD)) σ σ')))) := by
  have z0 := i_0
  have z1 := i_1
  have hnN := h.1.2.1
  obtain ⟨v1, p1, v5, p5, hh⟩ := p
  rcases p3 hnN p1 with ⟨e1, b1⟩ | ⟨x0, xN, e1⟩
  · rw [e1] at hh
    rcases hh with ⟨_, hw, e⟩ | ⟨q, z, _⟩
    · exact Or.inl ⟨by omega, hw, e⟩
    · cases z
  rw [e1] at hh
  rcases hh with ⟨z, _⟩ | ⟨q10, e10, hh⟩
  · cases z
  cases e10
  rcases p3 hnN p5 with ⟨e5, b5⟩ | ⟨y0, yN, e5⟩
  · rw [e5] at hh
    rcases hh with ⟨_, hw, e⟩ | ⟨q, z, _⟩
    · exact Or.inl ⟨by omega, hw, e⟩
    · cases z
  rw [e5] at hh
  rcases hh with ⟨z, _⟩ | ⟨q14, e14, hh⟩
  · cases z
  cases e14
  have n1 := i_nat x0
  have n2 := i_nat y0
  refine Or.inr ⟨x1.toNatClampNeg, x2.toNatClampNeg, n1.symm, n2.symm, by omega, by omega, ?_⟩
  have bad : (x1.toNatClampNeg = x2.toNatClampNeg ∨ oi σ x1.toNatClampNeg 1 ≠ oi σ x2.toNatClampNeg 1) → J128_65 x1 x2 (some (7, x1.toNatClampNeg)) (some (7, x2.toNatClampNeg)) σ w σ' → ((x1.toNatClampNeg = x2.toNatClampNeg ∨ oi σ x1.toNatClampNeg 1 ≠ oi σ x2.toNatClampNeg 1) ∧ w = .inr 1 ∧ σ' = σ) := by
    intro u hg
    rcases hg with ⟨σ2, _, q, _⟩ | ⟨b, q, hw⟩
    · rcases m1 q with ⟨t, _, _⟩ | ⟨_, z, _⟩
      · exact absurd z0 t
      · cases z
    · rcases m1 q with ⟨_, z, _⟩ | ⟨_, z, rfl⟩
      · cases z
      · cases z
        exact ⟨u, hw, rfl⟩
  rcases hh with ⟨e, hg⟩ | ⟨ne, i18, e18, i20, e20, ⟨mne, hg⟩ | ⟨mne, hg⟩⟩
  · exact Or.inl (bad (Or.inl (by omega)) hg)
  · cases e18; cases e20
    exact Or.inl (bad (Or.inr mne) hg)
  · cases e18; cases e20
    have hab : x1.toNatClampNeg ≠ x2.toNatClampNeg := by omega
    have hmm : oi σ x1.toNatClampNeg 1 = oi σ x2.toNatClampNeg 1 := Decidable.of_not_not mne
    refine Or.inr ⟨⟨hab, hmm⟩, ?_⟩
    have no : J128_88 x1 x2 σ w σ' → (w = .inr 2 ∧ σ' = σ) := by
      intro hg
      rcases hg with ⟨σ2, _, q, _⟩ | ⟨b, q, hw⟩
      · rcases m2 q with ⟨t, _, _⟩ | ⟨_, z, _⟩
        · exact absurd z0 t
        · cases z
      · rcases m2 q with ⟨_, z, _⟩ | ⟨_, z, rfl⟩
        · cases z
        · cases z
          exact ⟨hw, rfl⟩
    rcases hg with ⟨σ2, _, q, i5, ei5, v7, p7, hg⟩ | ⟨b, q, hw⟩
    · rcases m1 q with ⟨_, _, rfl⟩ | ⟨_, z, _⟩
      · cases ei5
        rcases hg with ⟨_, hg⟩ | ⟨c7, i12, ei12, v14, p14, hg⟩
        · exact Or.inl (no hg)
        cases ei12
        rcases hg with ⟨_, hg⟩ | ⟨c14, hg⟩
        · exact Or.inl (no hg)
        obtain ⟨s1, s2⟩ := p101 p7 c7
        obtain ⟨s3, s4⟩ := p101 p14 c14
        rcases hg with ⟨σ3, _, q2, σ5, e5', σ8, _, p18, v11, σ12, _, p61, v15, σ16, F16, p158', hw, rfl⟩ | ⟨b, q2, hw⟩
        · rcases m2 q2 with ⟨_, _, rfl⟩ | ⟨_, z, _⟩
          · right
            subst e5'
            obtain ⟨g1, g2, g3, g4, g5, g6, _⟩ := mk h.1 h.2 p18
            have k0' : (m_i σ8 1 (σ3.1 1) 0).toInt = 4 := by rw [g4]; decide
            have e7 : ∀ i k, m_i σ8 7 i k = m_i σ3 7 i k := fun i k => (g3.2 7 i k (by unfold fwh; rfl)).1
            obtain ⟨k1, k2, k3, k4, k5⟩ := k4 (a := x1.toNatClampNeg) (b := x2.toNatClampNeg) g1 k0' (by rw [g5]; omega) (by rw [g6]; omega) (by omega) (by omega) hab (by show (m_i σ8 7 _ 1).toInt = (m_i σ8 7 _ 1).toInt; rw [e7, e7]; exact hmm) p61
            have f12 := FY_fw g2 k2 rfl
            obtain ⟨r1, r2, r3⟩ := p158 k1 f12 hc F16 p158'
            have rec0 : (m_i σ12 1 (σ3.1 1) 0).toInt = 4 := by rw [(k2.2 1 _ 0 rfl).1]; exact k0'
            rcases r3 with ⟨y, _⟩ | r3
            · rw [rec0] at y; cases y
            have f7 : ∀ i k, m_i σ' 7 i k = m_i σ12 7 i k := fun i k => (F16.2 7 i k (by unfold fwh; rfl)).1
            exact ⟨⟨s1, s2, s3, s4⟩, hw, ⟨r2, r3⟩, fun o k _ => by rw [f7, k3, e7], by rw [(F16.2 7 _ 12 rfl).2.2]; exact k4, by rw [(F16.2 7 _ 12 rfl).2.2]; exact k5, ((wl_mono (wn_l g3) (by decide)).tr (wl_mono k2 (by decide))).tr (wl_mono F16 (by decide))⟩
          · cases z
        · rcases m2 q2 with ⟨_, z, _⟩ | ⟨t, _, _⟩
          · cases z
          · rw [z1] at t; cases t
      · cases z
    · rcases m1 q with ⟨_, z, _⟩ | ⟨t, _, _⟩
      · cases z
      · rw [z1] at t; cases t
