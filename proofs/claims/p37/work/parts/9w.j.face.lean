/-! the face: what must be, and calls of the clearing -/
def LN : List (Nat × Nat) := [(1, 0), (1, 1), (1, 2), (1, 3), (1, 4), (1, 5), (1, 6), (1, 7), (1, 8), (1, 9), (1, 10), (1, 11), (1, 12), (1, 13), (1, 14), (1, 15)]
theorem wn_l {σ σ' : mS} (F : fw_e wn σ σ') : fw_e (wl LN) σ σ' := by
  refine ⟨F.1, fun c i k hk => F.2 c i k ?_⟩
  unfold fwh at hk ⊢
  by_cases e : c = 1
  · exfalso
    subst e
    rw [if_pos (by decide)] at hk
    have key : ∀ k, k < 16 → wl LN 1 k = false := by decide
    have : wl LN 1 (if k < 16 then k else 0) = false := key _ (by split <;> omega)
    rw [this] at hk
    cases hk
  · show (!(Nat.beq c 1)) = true
    cases g : Nat.beq c 1 with
    | false => rfl
    | true => exact absurd (Nat.eq_of_beq_eq_true g) e
theorem m0 {σ σ' : mS} {x : Int32} {w : mX} (p : P160 σ x w σ') : (x.toInt ≠ 0 ∧ w = .inl none ∧ σ' = σ) ∨ (x.toInt = 0 ∧ w = .inr 0 ∧ σ' = σ) := by
  rcases p with ⟨a, b, c⟩ | ⟨a, b, c⟩
  · exact Or.inl ⟨a, b, c⟩
  · exact Or.inr ⟨Decidable.of_not_not a, b, c⟩
theorem m1 {σ σ' : mS} {x : Int32} {w : mX} (p : P161 σ x w σ') : (x.toInt ≠ 0 ∧ w = .inl none ∧ σ' = σ) ∨ (x.toInt = 0 ∧ w = .inr 1 ∧ σ' = σ) := by
  rcases p with ⟨a, b, c⟩ | ⟨a, b, c⟩
  · exact Or.inl ⟨a, b, c⟩
  · exact Or.inr ⟨Decidable.of_not_not a, b, c⟩
theorem m2 {σ σ' : mS} {x : Int32} {w : mX} (p : P162 σ x w σ') : (x.toInt ≠ 0 ∧ w = .inl none ∧ σ' = σ) ∨ (x.toInt = 0 ∧ w = .inr 2 ∧ σ' = σ) := by
  rcases p with ⟨a, b, c⟩ | ⟨a, b, c⟩
  · exact Or.inl ⟨a, b, c⟩
  · exact Or.inr ⟨Decidable.of_not_not a, b, c⟩
theorem p163 {σ : mS} {x a b w : Int32} (p : P163 σ x a b w) : (w.toInt = 0 ∧ ¬ (a.toInt ≤ x.toInt ∧ x.toInt ≤ b.toInt)) ∨ (w.toInt ≠ 0 ∧ a.toInt ≤ x.toInt ∧ x.toInt ≤ b.toInt) := by
  have z0 := i_0
  have z1 := i_1
  rcases p with ⟨h, rfl⟩ | ⟨h, ⟨h2, rfl⟩ | ⟨h2, rfl⟩⟩ <;> omega
theorem p164 {σ : mS} {x w : Int32} (p : P164 σ x w) : (w.toInt = 0 ∧ ¬ (0 ≤ x.toInt ∧ x.toInt < 5)) ∨ (w.toInt ≠ 0 ∧ 0 ≤ x.toInt ∧ x.toInt < 5) := by
  obtain ⟨v, h, rfl⟩ := p
  have z0 := i_0
  have z4 : (Int32.ofInt 4).toInt = 4 := by decide
  rcases p163 h with h | h <;> omega
theorem p166 {σ : mS} {x w : Int32} (p : P166 σ x w) : (w.toInt = 0 ∧ ¬ (0 ≤ x.toInt ∧ x.toInt < 3)) ∨ (w.toInt ≠ 0 ∧ 0 ≤ x.toInt ∧ x.toInt < 3) := by
  obtain ⟨v, h, rfl⟩ := p
  have z0 := i_0
  have z2 := i_2
  rcases p163 h with h | h <;> omega
theorem p165 {σ : mS} {x w : Int32} (p : P165 σ x w) : (w.toInt = 0 ∧ ¬ (-1 ≤ x.toInt ∧ x.toInt < 5)) ∨ (w.toInt ≠ 0 ∧ -1 ≤ x.toInt ∧ x.toInt < 5) := by
  have z0 := i_0
  have z1 := i_1
  rcases p with ⟨h, rfl⟩ | ⟨h, v, h2, ⟨h3, rfl⟩ | ⟨h3, rfl⟩⟩
  · omega
  · rcases p164 h2 with h4 | h4 <;> omega
  · rcases p164 h2 with h4 | h4 <;> omega
theorem p26 {σ : mS} {x w : Int32} (p : P26 σ x w) (hx : 0 ≤ x.toInt ∧ x.toInt < 5) : (w.toInt = 0 ∧ nfl σ x) ∨ (w.toInt ≠ 0 ∧ ¬ nfl σ x) := by
  obtain ⟨v1, p1, h⟩ := p
  rw [p22 p1 hx] at h
  have z0 := i_0
  have z1 := i_1
  unfold nfl
  rcases h with ⟨z, _⟩ | ⟨q, e, i, e2, h⟩
  · cases z
  cases e; cases e2
  rcases h with ⟨h, rfl⟩ | ⟨h, rfl⟩
  · exact Or.inl ⟨z0, h⟩
  · exact Or.inr ⟨by omega, h⟩
/-- the hall between calls -/
def S (n : Int) (N c : Nat) (k : Kt) (σ : mS) : Prop := HI n N σ ∧ FY σ c k
/-- it was done, kept and told -/
def D (n : Int) (N c : Nat) (k : Kt) (σ' : mS) : Prop := HI n N σ' ∧ ∃ c', FO σ' c' c c k ∧ c ≤ c' ∧ c' ≤ c + 240
abbrev LD : List (Nat × Nat) := LN ++ L158
theorem a124 {n : Int} {N c : Nat} {k : Kt} {x1 x2 : Int32} {w : mX} {σ σ' : mS} (h : S n N c k σ) (hn : n + 11 ≤ 300) (hc : c ≤ 900000) (p : P124 σ x1 x2 w σ') :
    (¬ (0 ≤ x1.toInt ∧ x1.toInt < 5) ∧ w = .inr 0 ∧ σ' = σ) ∨ ((0 ≤ x1.toInt ∧ x1.toInt < 5) ∧ ¬ (1 ≤ x2.toInt ∧ x2.toInt ≤ 1000000) ∧ w = .inr 1 ∧ σ' = σ) ∨ ((0 ≤ x1.toInt ∧ x1.toInt < 5) ∧ (1 ≤ x2.toInt ∧ x2.toInt ≤ 1000000) ∧ ¬ nfl σ x1 ∧ w = .inr 2 ∧ σ' = σ) ∨
    ((0 ≤ x1.toInt ∧ x1.toInt < 5) ∧ (1 ≤ x2.toInt ∧ x2.toInt ≤ 1000000) ∧ nfl σ x1 ∧ ∃ v, w = .inl (some (.inr (.inl v))) ∧ D (n + 1) N c k σ' ∧ fw_e (wl ((6, 3) :: (8, 7) :: LD)) σ σ' ∧ sm σ' = sm σ + x2.toInt64 ∧ v = m_l σ' 6 (x1.toNatClampNeg + 1) 3 ∧ x2.toInt ≤ v.toInt) := by
  obtain ⟨v1, p1, h1⟩ := p
  have ib : (Int32.ofInt 1).toInt = 1 := by decide
  have im : (Int32.ofInt 1000000).toInt = 1000000 := by decide
  have z0 := i_0
  rcases h1 with ⟨σ6, _, q6, v9, p9, h2⟩ | ⟨b, q6, hw⟩
  · rcases m0 q6 with ⟨t1, _, rfl⟩ | ⟨_, z, _⟩
    · rcases p164 p1 with y | ⟨_, x1b⟩
      · exact absurd y.1 t1
      rcases h2 with ⟨σ14, _, q14, v17, p17, h3⟩ | ⟨b, q14, hw⟩
      · rcases m1 q14 with ⟨t2, _, rfl⟩ | ⟨_, z, _⟩
        · rcases p163 p9 with y | ⟨_, x2b⟩
          · exact absurd y.1 t2
          rw [ib, im] at x2b
          have go : ∀ t0 : Int32, (t0.toInt = 0 → ¬ nfl σ14 x1) → (t0.toInt ≠ 0 → nfl σ14 x1) → J124_36 x1 x2 t0 σ14 w σ' → ((0 ≤ x1.toInt ∧ x1.toInt < 5) ∧ (1 ≤ x2.toInt ∧ x2.toInt ≤ 1000000) ∧ ¬ nfl σ14 x1 ∧ w = .inr 2 ∧ σ' = σ14) ∨ ((0 ≤ x1.toInt ∧ x1.toInt < 5) ∧ (1 ≤ x2.toInt ∧ x2.toInt ≤ 1000000) ∧ nfl σ14 x1 ∧ ∃ v, w = .inl (some (.inr (.inl v))) ∧ D (n + 1) N c k σ' ∧ fw_e (wl ((6, 3) :: (8, 7) :: LD)) σ14 σ' ∧ sm σ' = sm σ14 + x2.toInt64 ∧ v = m_l σ' 6 (x1.toNatClampNeg + 1) 3 ∧ x2.toInt ≤ v.toInt) := by
            intro t0 u1 u2 hj
            rcases hj with ⟨σ2, _, q2, σ5, e5, σ8, _, p18, v11, σ12, _, p61, v15, σ16, F16, p158', hw, rfl⟩ | ⟨b, q2, hw⟩
            · rcases m2 q2 with ⟨t3, _, rfl⟩ | ⟨_, z, _⟩
              · right
                subst e5
                obtain ⟨g1, g2, g3, g4, g5, g6, _⟩ := mk h.1 h.2 p18
                have nf := u2 t3
                have nf8 : nfl σ8 (m_i σ8 1 (σ2.1 1) 1) := by
                  rw [g5]
                  unfold nfl at nf ⊢
                  rw [(g3.2 6 _ 9 rfl).1]; exact nf
                obtain ⟨k1, k2, k3, k4, k5⟩ := k0 g1 hn (by rw [g4]; exact z0) (by rw [g5]; exact x1b) (by rw [g6]; exact x2b) nf8 p61
                rw [g5] at k4
                rw [g6] at k3 k5
                have f12 := FY_fw g2 k2 rfl
                obtain ⟨r1, r2, r3⟩ := p158 k1 f12 hc F16 p158'
                have rec0 : (m_i σ12 1 (σ2.1 1) 0).toInt = 0 := by
                  rw [(k2.2 1 _ 0 rfl).1, g4]; exact z0
                rcases r3 with ⟨y, _⟩ | r3
                · rw [rec0] at y; cases y
                have FA : fw_e (wl ((6, 3) :: (8, 7) :: LD)) σ2 σ' := ((wl_mono (wn_l g3) (by decide)).tr (wl_mono k2 (by decide))).tr (wl_mono F16 (by decide))
                refine ⟨x1b, x2b, nf, v15, hw, ⟨r2, r3⟩, FA, ?_, ?_, by rw [r1]; exact k5⟩
                · rw [sm_fw F16 rfl, k3, sm_fw g3 rfl]
                · rw [r1, k4, (F16.2 6 _ 3 rfl).2.1]
              · cases z
            · rcases m2 q2 with ⟨_, z, _⟩ | ⟨t3, z, rfl⟩
              · cases z
              · cases z
                exact Or.inl ⟨x1b, x2b, u1 t3, hw, rfl⟩
          rcases p26 p17 x1b with ⟨y1, y2⟩ | ⟨y1, y2⟩
          · rcases h3 with ⟨z, _⟩ | ⟨_, h3⟩
            · exact absurd y1 z
            · exact Or.inr (Or.inr (go _ (fun z => by rw [ib] at z; cases z) (fun _ => y2) h3))
          · rcases h3 with ⟨_, h3⟩ | ⟨z, _⟩
            · exact Or.inr (Or.inr (go _ (fun _ => y2) (fun z => absurd z0 z) h3))
            · exact absurd y1 z
        · cases z
      · rcases m1 q14 with ⟨_, z, _⟩ | ⟨t2, z, rfl⟩
        · cases z
        · cases z
          rcases p163 p9 with ⟨_, y⟩ | y
          · rw [ib, im] at y
            exact Or.inr (Or.inl ⟨x1b, y, hw, rfl⟩)
          · exact absurd t2 y.1
    · cases z
  · rcases m0 q6 with ⟨_, z, _⟩ | ⟨t1, z, rfl⟩
    · cases z
    · cases z
      rcases p164 p1 with ⟨_, y⟩ | y
      · exact Or.inl ⟨y, hw, rfl⟩
      · exact absurd t1 y.1
