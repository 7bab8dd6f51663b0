/-! the face: a sale -/
theorem p168 {σ : mS} {x w : Int32} (p : P168 σ x w) : (w.toInt = 0 ∧ ¬ (1 ≤ x.toInt ∧ x.toInt ≤ 9999)) ∨ (w.toInt ≠ 0 ∧ 1 ≤ x.toInt ∧ x.toInt ≤ 9999) := by
  obtain ⟨v, h, rfl⟩ := p
  have z1 := i_1
  have z9 : (Int32.ofInt 9999).toInt = 9999 := by decide
  rcases p163 h with ⟨a, b⟩ | ⟨a, b⟩
  · rw [z1, z9] at b
    exact Or.inl ⟨a, b⟩
  · rw [z1, z9] at b
    exact Or.inr ⟨a, b⟩
theorem a151 {n : Int} {N c : Nat} {k : Kt} {x1 x2 x3 : Int32} {w : mX} {σ σ' : mS} (h : S n N c k σ) (hn : n + 12 ≤ 300) (hc : c ≤ 900000) (p : P151 σ x1 x2 x3 w σ') :
    (¬ ((0 ≤ x1.toInt ∧ x1.toInt < 3) ∧ 0 ≤ x2.toInt ∧ x2.toInt < 5) ∧ w = .inr 0 ∧ σ' = σ) ∨ (((0 ≤ x1.toInt ∧ x1.toInt < 3) ∧ 0 ≤ x2.toInt ∧ x2.toInt < 5) ∧ ((¬ (1 ≤ x3.toInt ∧ x3.toInt ≤ 9999) ∧ w = .inr 1 ∧ σ' = σ) ∨ ((1 ≤ x3.toInt ∧ x3.toInt ≤ 9999) ∧ (((pI σ 0 x1.toNatClampNeg = 0 ∨ ¬ nfl σ x2) ∧ w = .inr 2 ∧ σ' = σ) ∨
    (pI σ 0 x1.toNatClampNeg ≠ 0 ∧ nfl σ x2 ∧ ∃ v : Int64, w = .inl (some (.inr (.inl v))) ∧ D (n + 2) N c k σ' ∧ sm σ' = sm σ ∧ (∀ j, ps σ' j = ps σ j) ∧ v = m_l σ 14 0 x1.toNatClampNeg ∧ pI σ' 0 x1.toNatClampNeg = 0 ∧ m_l σ' 14 (x2.toNatClampNeg + 1) x1.toNatClampNeg = m_l σ 14 (x2.toNatClampNeg + 1) x1.toNatClampNeg + v ∧ (∀ i, m_i σ' 6 i 9 = m_i σ 6 i 9) ∧ fw_e (wl ((8, 7) :: (L45 ++ LD))) σ σ'))))) := by
  have z0 := i_0
  have z1 := i_1
  have zl := l_0
  obtain ⟨v1, p1, hh⟩ := p
  have bad : ¬ ((0 ≤ x1.toInt ∧ x1.toInt < 3) ∧ 0 ≤ x2.toInt ∧ x2.toInt < 5) → J151_19 x1 x2 x3 (Int32.ofInt 0) σ w σ' → (¬ ((0 ≤ x1.toInt ∧ x1.toInt < 3) ∧ 0 ≤ x2.toInt ∧ x2.toInt < 5) ∧ w = .inr 0 ∧ σ' = σ) := by
    intro u hg
    rcases hg with ⟨σ2, _, q, _⟩ | ⟨b, q, hw⟩
    · rcases m0 q with ⟨t, _, _⟩ | ⟨_, z, _⟩
      · exact absurd z0 t
      · cases z
    · rcases m0 q with ⟨_, z, _⟩ | ⟨_, z, rfl⟩
      · cases z
      · cases z
        exact ⟨u, hw, rfl⟩
  rcases p166 p1 with ⟨y1, b1⟩ | ⟨y1, b1⟩
  · rcases hh with ⟨_, hj⟩ | ⟨z, _⟩
    · exact Or.inl (bad (fun z => b1 z.1) hj)
    · exact absurd y1 z
  rcases hh with ⟨z, _⟩ | ⟨_, v6, p6', hh⟩
  · exact absurd z y1
  rcases p164 p6' with ⟨y2, b2⟩ | ⟨y2, b2⟩
  · rcases hh with ⟨_, hj⟩ | ⟨z, _⟩
    · exact Or.inl (bad (fun z => b2 z.2) hj)
    · exact absurd y2 z
  rcases hh with ⟨z, _⟩ | ⟨_, hj⟩
  · exact absurd z y2
  refine Or.inr ⟨⟨b1, b2⟩, ?_⟩
  rcases hj with ⟨σ2, _, q, v5, p5, hj⟩ | ⟨b, q, hw⟩
  · rcases m0 q with ⟨_, _, rfl⟩ | ⟨_, z, _⟩
    · rcases hj with ⟨σ10, _, q1, v13, p13, hj⟩ | ⟨b, q1, hw⟩
      · rcases m1 q1 with ⟨t5, _, rfl⟩ | ⟨_, z, _⟩
        · rcases p168 p5 with y | ⟨_, b3⟩
          · exact absurd y.1 t5
          refine Or.inr ⟨b3, ?_⟩
          have ev := p90 h.1.1 (by decide) b1 p13
          have vI : v13.toInt = pI σ10 0 x1.toNatClampNeg := by rw [ev]
          have no : (pI σ10 0 x1.toNatClampNeg = 0 ∨ ¬ nfl σ10 x2) → J151_67 x1 x2 x3 (Int32.ofInt 0) σ10 w σ' → ((pI σ10 0 x1.toNatClampNeg = 0 ∨ ¬ nfl σ10 x2) ∧ w = .inr 2 ∧ σ' = σ10) := by
            intro u hg
            rcases hg with ⟨σ2, _, q, _⟩ | ⟨b, q, hw⟩
            · rcases m2 q with ⟨t, _, _⟩ | ⟨_, z, _⟩
              · exact absurd z0 t
              · cases z
            · rcases m2 q with ⟨_, z, _⟩ | ⟨_, z, rfl⟩
              · cases z
              · cases z
                exact ⟨u, hw, rfl⟩
          rcases hj with ⟨hz, hj⟩ | ⟨hz, v18, p18', hj⟩
          · rw [zl, vI] at hz
            exact Or.inl (no (Or.inl hz) hj)
          rw [zl, vI] at hz
          rcases p26 p18' b2 with ⟨y4, nf⟩ | ⟨y4, nf⟩
          · rcases hj with ⟨z, _⟩ | ⟨_, hg⟩
            · exact absurd y4 z
            rcases hg with ⟨σ2, _, q2, σ5, e5, σ8, _, p18, v11, σ12, _, p61, v15, σ16, F16, p158', hw, rfl⟩ | ⟨b, q2, hw⟩
            · rcases m2 q2 with ⟨t3, _, rfl⟩ | ⟨_, z, _⟩
              · right
                subst e5
                obtain ⟨g1, g2, g3, g4, g5, g6, g7⟩ := mk h.1 h.2 p18
                have k0' : (m_i σ8 1 (σ2.1 1) 0).toInt = 15 := by rw [g4]; decide
                have nf8 : nfl σ8 (m_i σ8 1 (σ2.1 1) 2) := by
                  rw [g6]
                  unfold nfl at nf ⊢
                  rw [(g3.2 6 _ 9 rfl).1]; exact nf
                obtain ⟨k1, k2, k3, k4, k5, k6, k7, k8⟩ := k15 g1 hn k0' (by rw [g5]; exact b1) (by rw [g6]; exact b2) (by rw [g7]; exact b3) nf8 p61
                rw [g5] at k5 k6 k7
                rw [g6] at k7
                have f12 := FY_fw g2 k2 rfl
                obtain ⟨r1, r2, r3⟩ := p158 k1 f12 hc F16 p158'
                have rec0 : (m_i σ12 1 (σ2.1 1) 0).toInt = 15 := by rw [(k2.2 1 _ 0 rfl).1]; exact k0'
                rcases r3 with ⟨y, _⟩ | r3
                · rw [rec0] at y; cases y
                have e14 : ∀ i j, m_l σ8 14 i j = m_l σ2 14 i j := fun i j => (g3.2 14 i j (by unfold fwh; rw [if_neg (by decide)]; rfl)).2.1
                have f14 : ∀ i j, m_l σ' 14 i j = m_l σ12 14 i j := fun i j => (F16.2 14 i j (by unfold fwh; rw [if_neg (by decide)]; rfl)).2.1
                refine ⟨hz, nf, v15, hw, ⟨r2, r3⟩, by rw [sm_fw F16 rfl, k3, sm_fw g3 rfl], fun j => by rw [ps_fw F16 rfl, k4, ps_fw g3 rfl], by rw [r1, k5, e14], ?_, by rw [f14, k7, e14, r1], fun i => ?_, ((wl_mono (wn_l g3) (by decide)).tr (wl_mono k2 (by decide))).tr (wl_mono F16 (by decide))⟩
                · show (m_l σ' 14 0 _).toInt = 0
                  rw [f14]; exact k6
                · rw [(F16.2 6 i 9 rfl).1, k8, (g3.2 6 i 9 rfl).1]
              · cases z
            · rcases m2 q2 with ⟨_, z, _⟩ | ⟨t, _, _⟩
              · cases z
              · rw [z1] at t; cases t
          · rcases hj with ⟨_, hg⟩ | ⟨z, _⟩
            · exact Or.inl (no (Or.inr nf) hg)
            · exact absurd y4 z
        · cases z
      · rcases m1 q1 with ⟨_, z, _⟩ | ⟨t5, z, rfl⟩
        · cases z
        · cases z
          rcases p168 p5 with ⟨_, y⟩ | y
          · exact Or.inl ⟨y, hw, rfl⟩
          · exact absurd t5 y.1
    · cases z
  · rcases m0 q with ⟨_, z, _⟩ | ⟨t, _, _⟩
    · cases z
    · rw [z1] at t; cases t
