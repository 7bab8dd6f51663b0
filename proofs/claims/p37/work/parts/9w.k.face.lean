/-! the face: time, bands, dividends, halts -/
theorem a150 {n : Int} {N c : Nat} {k : Kt} {x1 : Int32} {w : mX} {σ σ' : mS} (h : S n N c k σ) (hn : n + 12 ≤ 300) (hc : c ≤ 900000) (p : P150 σ x1 w σ') :
    (¬ (1 ≤ x1.toInt ∧ x1.toInt ≤ 50) ∧ w = .inr 1 ∧ σ' = σ) ∨
    ((1 ≤ x1.toInt ∧ x1.toInt ≤ 50) ∧ ∃ v : Int64, w = .inl (some (.inl v.toInt32)) ∧ D n N c k σ' ∧ mO N σ σ' ∧ (∀ o k, k ≤ 5 → m_i σ' 7 o k = m_i σ 7 o k) ∧ sm σ' = sm σ ∧ (∀ j, ps σ' j = ps σ j) ∧ (∀ i, mi6 σ i 9 = 1 → mi6 σ' i 9 = 1) ∧ v.toInt = nF σ' ∧ fw_e (wl ((8, 7) :: (L76 ++ LD))) σ σ') := by
  obtain ⟨v1, p1, h1⟩ := p
  have ib : (Int32.ofInt 1).toInt = 1 := by decide
  have im : (Int32.ofInt 50).toInt = 50 := by decide
  rcases h1 with ⟨σ6, _, q6, σ9, e9, σ12, _, p18, v15, σ16, _, p61, v19, σ20, F20, p158', hw, rfl⟩ | ⟨b, q6, hw⟩
  · rcases m1 q6 with ⟨t1, _, rfl⟩ | ⟨_, z, _⟩
    · rcases p163 p1 with y | ⟨_, xb⟩
      · exact absurd y.1 t1
      rw [ib, im] at xb
      subst e9
      obtain ⟨g1, g2, g3, g4, g5, g6, _⟩ := mk h.1 h.2 p18
      have k0' : (m_i σ12 1 (σ6.1 1) 0).toInt = 14 := by rw [g4]; decide
      obtain ⟨k1, k2, k3, k4, k5, k6, k7⟩ := k14 g1 hn k0' p61
      have f16 := FY_fw g2 k2 rfl
      obtain ⟨r1, r2, r3⟩ := p158 k1 f16 hc F20 p158'
      have rec0 : (m_i σ16 1 (σ6.1 1) 0).toInt = 14 := by rw [(k2.2 1 _ 0 rfl).1]; exact k0'
      rcases r3 with ⟨y, _⟩ | r3
      · rw [rec0] at y; cases y
      have FA : fw_e (wl ((8, 7) :: (L76 ++ LD))) σ6 σ' := ((wl_mono (wn_l g3) (by decide)).tr (wl_mono k2 (by decide))).tr (wl_mono F20 (by decide))
      have sa : sO σ6 σ12 := sO_of g3 rfl
      have sb : sO σ16 σ' := sO_of F20 rfl
      refine Or.inr ⟨xb, v19, hw, ⟨r2, r3⟩, (sa.mO.tr k3).tr sb.mO, fun o k hk => (FA.2 7 o k ?_).1, ?_, fun j => ?_, fun i z => ?_, ?_, FA⟩
      · have : k = 0 ∨ k = 1 ∨ k = 2 ∨ k = 3 ∨ k = 4 ∨ k = 5 := by omega
        rcases this with rfl | rfl | rfl | rfl | rfl | rfl <;> rfl
      · rw [sm_fw F20 rfl, k4, sm_fw g3 rfl]
      · rw [ps_fw F20 rfl, k5, ps_fw g3 rfl]
      · show (m_i σ' 6 i 9).toInt = 1
        rw [(F20.2 6 i 9 rfl).1]
        refine k6 i ?_
        show (m_i σ12 6 i 9).toInt = 1
        rw [(g3.2 6 i 9 rfl).1]; exact z
      · rw [r1, k7]
        exact (nF_of (fun i => (F20.2 6 i 9 rfl).1)).symm
    · cases z
  · rcases m1 q6 with ⟨_, z, _⟩ | ⟨t1, z, rfl⟩
    · cases z
    · cases z
      rcases p163 p1 with ⟨_, y⟩ | y
      · rw [ib, im] at y
        exact Or.inl ⟨y, hw, rfl⟩
      · exact absurd t1 y.1
theorem a134 {n : Int} {N c : Nat} {k : Kt} {x1 x2 : Int32} {w : mX} {σ σ' : mS} (h : S n N c k σ) (hc : c ≤ 900000) (p : P134 σ x1 x2 w σ') :
    (¬ (0 ≤ x1.toInt ∧ x1.toInt < 3) ∧ w = .inr 0 ∧ σ' = σ) ∨ ((0 ≤ x1.toInt ∧ x1.toInt < 3) ∧ ¬ (0 ≤ x2.toInt ∧ x2.toInt ≤ 50) ∧ w = .inr 1 ∧ σ' = σ) ∨
    ((0 ≤ x1.toInt ∧ x1.toInt < 3) ∧ (0 ≤ x2.toInt ∧ x2.toInt ≤ 50) ∧ ∃ v : Int64, w = .inl (some (.inl v.toInt32)) ∧ (0 ≤ v.toInt ∧ v.toInt < 51) ∧ D n N c k σ' ∧ fw_e (wl ((8, 4) :: (8, 7) :: LD)) σ σ') := by
  obtain ⟨v1, p1, h1⟩ := p
  have ib : (Int32.ofInt 0).toInt = 0 := by decide
  have im : (Int32.ofInt 50).toInt = 50 := by decide
  rcases h1 with ⟨σ6, _, q6, v9, p9, h2⟩ | ⟨b, q6, hw⟩
  · rcases m0 q6 with ⟨t1, _, rfl⟩ | ⟨_, z, _⟩
    · rcases p166 p1 with y | ⟨_, x1b⟩
      · exact absurd y.1 t1
      have n1 := i_nat x1b.1
      rcases h2 with ⟨σ14, _, q14, σ17, e17, σ20, _, p18, v23, σ24, _, p61, v27, σ28, F28, p158', hw, rfl⟩ | ⟨b, q14, hw⟩
      · rcases m1 q14 with ⟨t2, _, rfl⟩ | ⟨_, z, _⟩
        · rcases p163 p9 with y | ⟨_, x2b⟩
          · exact absurd y.1 t2
          rw [ib, im] at x2b
          subst e17
          obtain ⟨g1, g2, g3, g4, g5, g6, _⟩ := mk h.1 h.2 p18
          have k0' : (m_i σ20 1 (σ14.1 1) 0).toInt = 7 := by rw [g4]; decide
          obtain ⟨k1, k2, k3⟩ := k7 (ip := x1.toNatClampNeg) g1 k0' (by rw [g5]; omega) (by omega) (by rw [g6]; exact x2b) p61
          have f24 := FY_fw g2 k3 rfl
          obtain ⟨r1, r2, r3⟩ := p158 k1 f24 hc F28 p158'
          have rec0 : (m_i σ24 1 (σ14.1 1) 0).toInt = 7 := by rw [(k3.2 1 _ 0 rfl).1]; exact k0'
          rcases r3 with ⟨y, _⟩ | r3
          · rw [rec0] at y; cases y
          exact Or.inr (Or.inr ⟨x1b, x2b, v27, hw, by rw [r1]; exact k2, ⟨r2, r3⟩, ((wl_mono (wn_l g3) (by decide)).tr (wl_mono k3 (by decide))).tr (wl_mono F28 (by decide))⟩)
        · cases z
      · rcases m1 q14 with ⟨_, z, _⟩ | ⟨t2, z, rfl⟩
        · cases z
        · cases z
          rcases p163 p9 with ⟨_, y⟩ | y
          · rw [ib, im] at y
            exact Or.inr (Or.inl ⟨x1b, y, hw, rfl⟩)
          · exact absurd t2 y.1
    · cases z
  · rcases m0 q6 with ⟨_, z, _⟩ | ⟨t1, z, rfl⟩
    · cases z
    · cases z
      rcases p166 p1 with ⟨_, y⟩ | y
      · exact Or.inl ⟨y, hw, rfl⟩
      · exact absurd t1 y.1
theorem a139 {n : Int} {N c : Nat} {k : Kt} {x1 x2 : Int32} {w : mX} {σ σ' : mS} (h : S n N c k σ) (hn : n + 11 ≤ 300) (hc : c ≤ 900000) (p : P139 σ x1 x2 w σ') :
    (¬ (0 ≤ x1.toInt ∧ x1.toInt < 3) ∧ w = .inr 0 ∧ σ' = σ) ∨ ((0 ≤ x1.toInt ∧ x1.toInt < 3) ∧ ¬ (1 ≤ x2.toInt ∧ x2.toInt ≤ 1000) ∧ w = .inr 1 ∧ σ' = σ) ∨
    ((0 ≤ x1.toInt ∧ x1.toInt < 3) ∧ (1 ≤ x2.toInt ∧ x2.toInt ≤ 1000) ∧ ∃ v : Int64, w = .inl (some (.inr (.inl v))) ∧ v = dS σ x1.toNatClampNeg x2.toInt64 6 ∧ D (n + 1) N c k σ' ∧ sm σ' = sm σ + ps σ x1.toNatClampNeg * x2.toInt64 ∧ fw_e (wl ((6, 2) :: (8, 7) :: LD)) σ σ') := by
  obtain ⟨v1, p1, h1⟩ := p
  have ib : (Int32.ofInt 1).toInt = 1 := by decide
  have im : (Int32.ofInt 1000).toInt = 1000 := by decide
  rcases h1 with ⟨σ6, _, q6, v9, p9, h2⟩ | ⟨b, q6, hw⟩
  · rcases m0 q6 with ⟨t1, _, rfl⟩ | ⟨_, z, _⟩
    · rcases p166 p1 with y | ⟨_, x1b⟩
      · exact absurd y.1 t1
      have n1 := i_nat x1b.1
      rcases h2 with ⟨σ14, _, q14, σ17, e17, σ20, _, p18, v23, σ24, _, p61, v27, σ28, F28, p158', hw, rfl⟩ | ⟨b, q14, hw⟩
      · rcases m1 q14 with ⟨t2, _, rfl⟩ | ⟨_, z, _⟩
        · rcases p163 p9 with y | ⟨_, x2b⟩
          · exact absurd y.1 t2
          rw [ib, im] at x2b
          subst e17
          obtain ⟨g1, g2, g3, g4, g5, g6, _⟩ := mk h.1 h.2 p18
          have k0' : (m_i σ20 1 (σ14.1 1) 0).toInt = 11 := by rw [g4]; decide
          obtain ⟨k1, k2, k3, k4⟩ := k11 (k := x1.toNatClampNeg) g1 hn k0' (by rw [g5]; omega) (by omega) (by rw [g6]; omega) p61
          rw [g6] at k3 k4
          have f24 := FY_fw g2 k2 rfl
          obtain ⟨r1, r2, r3⟩ := p158 k1 f24 hc F28 p158'
          have rec0 : (m_i σ24 1 (σ14.1 1) 0).toInt = 11 := by rw [(k2.2 1 _ 0 rfl).1]; exact k0'
          rcases r3 with ⟨y, _⟩ | r3
          · rw [rec0] at y; cases y
          have e14 : ∀ i j, m_l σ20 14 i j = m_l σ14 14 i j := fun i j => (g3.2 14 i j (by unfold fwh; rw [if_neg (by decide)]; rfl)).2.1
          have ed : ∀ m, dS σ20 x1.toNatClampNeg x2.toInt64 m = dS σ14 x1.toNatClampNeg x2.toInt64 m := by
            intro m
            induction m with
            | zero => rfl
            | succ m IH => unfold dS; rw [IH, e14]
          exact Or.inr (Or.inr ⟨x1b, x2b, v27, hw, by rw [r1, k3, ed], ⟨r2, r3⟩, by rw [sm_fw F28 rfl, k4, sm_fw g3 rfl, ps_fw g3 rfl], ((wl_mono (wn_l g3) (by decide)).tr (wl_mono k2 (by decide))).tr (wl_mono F28 (by decide))⟩)
        · cases z
      · rcases m1 q14 with ⟨_, z, _⟩ | ⟨t2, z, rfl⟩
        · cases z
        · cases z
          rcases p163 p9 with ⟨_, y⟩ | y
          · rw [ib, im] at y
            exact Or.inr (Or.inl ⟨x1b, y, hw, rfl⟩)
          · exact absurd t2 y.1
    · cases z
  · rcases m0 q6 with ⟨_, z, _⟩ | ⟨t1, z, rfl⟩
    · cases z
    · cases z
      rcases p166 p1 with ⟨_, y⟩ | y
      · exact Or.inl ⟨y, hw, rfl⟩
      · exact absurd t1 y.1
