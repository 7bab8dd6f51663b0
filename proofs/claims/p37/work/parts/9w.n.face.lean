/-! the face: funds, sales -/
theorem p22' {σ : mS} {x : Int32} {w : mR} (h : P22 σ x w) : (w = none ∧ ¬ (0 ≤ x.toInt ∧ x.toInt < 5)) ∨ (w = some (6, x.toNatClampNeg + 1) ∧ 0 ≤ x.toInt ∧ x.toInt < 5) := by
  rcases h with ⟨h1, e⟩ | ⟨h1, ⟨h2, _, e⟩ | ⟨h2, e⟩⟩
  · exact Or.inl ⟨e, by omega⟩
  · exact Or.inr ⟨e, by omega, by omega⟩
  · exact Or.inl ⟨e, by omega⟩
theorem p26' {σ : mS} {x w : Int32} (p : P26 σ x w) (hx : -1 ≤ x.toInt ∧ x.toInt < 5) : (w.toInt = 0 ∧ (x.toInt = -1 ∨ nfl σ x)) ∨ (w.toInt ≠ 0 ∧ x.toInt ≠ -1 ∧ ¬ nfl σ x) := by
  by_cases e : x.toInt = -1
  · obtain ⟨v1, p1, h⟩ := p
    rcases p22' p1 with ⟨e1, _⟩ | ⟨_, z, _⟩
    · rw [e1] at h
      rcases h with ⟨_, rfl⟩ | ⟨q, z, _⟩
      · exact Or.inl ⟨i_0, Or.inl e⟩
      · cases z
    · omega
  · rcases p26 p (by omega) with ⟨a, b⟩ | ⟨a, b⟩
    · exact Or.inl ⟨a, Or.inr b⟩
    · exact Or.inr ⟨a, e, b⟩
theorem a125 {n : Int} {N c : Nat} {k : Kt} {x1 x2 : Int32} {w : mX} {σ σ' : mS} (h : S n N c k σ) (hn : n + 11 ≤ 300) (hc : c ≤ 900000) (p : P125 σ x1 x2 w σ') :
    (¬ (-1 ≤ x1.toInt ∧ x1.toInt < 5) ∧ w = .inr 0 ∧ σ' = σ) ∨ ((-1 ≤ x1.toInt ∧ x1.toInt < 5) ∧ ¬ (1 ≤ x2.toInt ∧ x2.toInt ≤ 1000000) ∧ w = .inr 1 ∧ σ' = σ) ∨ ((-1 ≤ x1.toInt ∧ x1.toInt < 5) ∧ (1 ≤ x2.toInt ∧ x2.toInt ≤ 1000000) ∧ (x1.toInt ≠ -1 ∧ ¬ nfl σ x1) ∧ w = .inr 2 ∧ σ' = σ) ∨
    ((-1 ≤ x1.toInt ∧ x1.toInt < 5) ∧ (1 ≤ x2.toInt ∧ x2.toInt ≤ 1000000) ∧ (x1.toInt = -1 ∨ nfl σ x1) ∧ ∃ v, w = .inl (some (.inr (.inl v))) ∧ D (n + 1) N c k σ' ∧ fw_e (wl ((6, 4) :: (8, 7) :: LD)) σ σ' ∧ sm σ' = sm σ + x2.toInt64 ∧ v = m_l σ' 6 (hx x1) 4 ∧ x2.toInt ≤ v.toInt) := by
  obtain ⟨v1, p1, h1⟩ := p
  have ib : (Int32.ofInt 1).toInt = 1 := by decide
  have im : (Int32.ofInt 1000000).toInt = 1000000 := by decide
  have z0 := i_0
  rcases h1 with ⟨σ6, _, q6, v9, p9, h2⟩ | ⟨b, q6, hw⟩
  · rcases m0 q6 with ⟨t1, _, rfl⟩ | ⟨_, z, _⟩
    · rcases p165 p1 with y | ⟨_, x1b⟩
      · exact absurd y.1 t1
      rcases h2 with ⟨σ14, _, q14, v17, p17, h3⟩ | ⟨b, q14, hw⟩
      · rcases m1 q14 with ⟨t2, _, rfl⟩ | ⟨_, z, _⟩
        · rcases p163 p9 with y | ⟨_, x2b⟩
          · exact absurd y.1 t2
          rw [ib, im] at x2b
          have go : ∀ t0 : Int32, (t0.toInt = 0 → x1.toInt ≠ -1 ∧ ¬ nfl σ14 x1) → (t0.toInt ≠ 0 → x1.toInt = -1 ∨ nfl σ14 x1) → J125_36 x1 x2 t0 σ14 w σ' → ((-1 ≤ x1.toInt ∧ x1.toInt < 5) ∧ (1 ≤ x2.toInt ∧ x2.toInt ≤ 1000000) ∧ (x1.toInt ≠ -1 ∧ ¬ nfl σ14 x1) ∧ w = .inr 2 ∧ σ' = σ14) ∨ ((-1 ≤ x1.toInt ∧ x1.toInt < 5) ∧ (1 ≤ x2.toInt ∧ x2.toInt ≤ 1000000) ∧ (x1.toInt = -1 ∨ nfl σ14 x1) ∧ ∃ v, w = .inl (some (.inr (.inl v))) ∧ D (n + 1) N c k σ' ∧ fw_e (wl ((6, 4) :: (8, 7) :: LD)) σ14 σ' ∧ sm σ' = sm σ14 + x2.toInt64 ∧ v = m_l σ' 6 (hx x1) 4 ∧ x2.toInt ≤ v.toInt) := by
            intro t0 u1 u2 hj
            rcases hj with ⟨σ2, _, q2, σ5, e5, σ8, _, p18, v11, σ12, _, p61, v15, σ16, F16, p158', hw, rfl⟩ | ⟨b, q2, hw⟩
            · rcases m2 q2 with ⟨t3, _, rfl⟩ | ⟨_, z, _⟩
              · right
                subst e5
                obtain ⟨g1, g2, g3, g4, g5, g6, _⟩ := mk h.1 h.2 p18
                have k0' : (m_i σ8 1 (σ2.1 1) 0).toInt = 1 := by rw [g4]; exact ib
                obtain ⟨k1, k2, k3, k4, k5⟩ := k1 g1 hn k0' (by rw [g5]; exact x1b) (by rw [g6]; exact x2b) p61
                rw [g5] at k4
                rw [g6] at k3 k5
                have f12 := FY_fw g2 k2 rfl
                obtain ⟨r1, r2, r3⟩ := p158 k1 f12 hc F16 p158'
                have rec0 : (m_i σ12 1 (σ2.1 1) 0).toInt = 1 := by rw [(k2.2 1 _ 0 rfl).1]; exact k0'
                rcases r3 with ⟨y, _⟩ | r3
                · rw [rec0] at y; cases y
                have FA : fw_e (wl ((6, 4) :: (8, 7) :: LD)) σ2 σ' := ((wl_mono (wn_l g3) (by decide)).tr (wl_mono k2 (by decide))).tr (wl_mono F16 (by decide))
                refine ⟨x1b, x2b, u2 t3, v15, hw, ⟨r2, r3⟩, FA, ?_, ?_, by rw [r1]; exact k5⟩
                · rw [sm_fw F16 rfl, k3, sm_fw g3 rfl]
                · rw [r1, k4, (F16.2 6 _ 4 rfl).2.1]
              · cases z
            · rcases m2 q2 with ⟨_, z, _⟩ | ⟨t3, z, rfl⟩
              · cases z
              · cases z
                exact Or.inl ⟨x1b, x2b, u1 t3, hw, rfl⟩
          rcases p26' p17 x1b with ⟨y1, y2⟩ | ⟨y1, y2⟩
          · rcases h3 with ⟨z, _⟩ | ⟨_, h3⟩
            · exact absurd y1 z
            · exact Or.inr (Or.inr (go _ (fun z => by rw [ib] at z; cases z) (fun _ => y2) h3))
          · rcases h3 with ⟨_, h3⟩ | ⟨z, _⟩
            · exact Or.inr (Or.inr (go _ (fun _ => y2) (fun z => absurd z0 z) h3))
            · exact absurd y1 z
        · cases z
      · rcases m1 q14 with ⟨_, z, _⟩ | ⟨t2, z, rfl⟩
        · cases z
        · cases z
          rcases p163 p9 with ⟨_, y⟩ | y
          · rw [ib, im] at y
            exact Or.inr (Or.inl ⟨x1b, y, hw, rfl⟩)
          · exact absurd t2 y.1
    · cases z
  · rcases m0 q6 with ⟨_, z, _⟩ | ⟨t1, z, rfl⟩
    · cases z
    · cases z
      rcases p165 p1 with ⟨_, y⟩ | y
      · exact Or.inl ⟨y, hw, rfl⟩
      · exact absurd t1 y.1
