/-! the face: a long record; scenarios; a sale -/
theorem mk8 {n : Int} {N c i : Nat} {k : Kt} {a b1 b2 b3 : Int32} {v : mR} {σ σ' : mS} (h : HI n N σ) (hf : FY σ c k) (p : P19 σ i a b1 b2 b3 v σ') : v = some (1, i) ∧ HI n N σ' ∧ FY σ' c k ∧ fw_e wn σ σ' ∧ (∀ j, j < 4 → m_i σ' 1 i j = m_i σ 1 i j) ∧ m_i σ' 1 i 4 = a ∧ m_i σ' 1 i 5 = b1 ∧ m_i σ' 1 i 6 = b2 ∧ m_i σ' 1 i 7 = b3 := by
  obtain ⟨s2, e2, s5, e5, s8, e8, s11, e11, hv, rfl⟩ := p
  have F : fw_e wn σ σ' := by
    rw [e11, e8, e5, e2]
    exact ((wn_set.tr wn_set).tr wn_set).tr wn_set
  have hs : HS σ' := by
    rw [e11, e8, e5, e2]
    exact HS_set (HS_set (HS_set (HS_set h.1 rfl) rfl) rfl) rfl
  refine ⟨hv, HI_fw h hs F rfl, FY_fw hf F rfl, F, fun j hj => ?_, ?_, ?_, ?_, ?_⟩
  · rw [e11, mi_si, if_neg (fun z => by omega), e8, mi_si, if_neg (fun z => by omega), e5, mi_si, if_neg (fun z => by omega), e2, mi_si, if_neg (fun z => by omega)]
  · rw [e11, mi_si, if_neg (fun z => by cases z.2.2), e8, mi_si, if_neg (fun z => by cases z.2.2), e5, mi_si, if_neg (fun z => by cases z.2.2), e2, mi_si, if_pos ⟨rfl, rfl, rfl⟩]
  · rw [e11, mi_si, if_neg (fun z => by cases z.2.2), e8, mi_si, if_neg (fun z => by cases z.2.2), e5, mi_si, if_pos ⟨rfl, rfl, rfl⟩]
  · rw [e11, mi_si, if_neg (fun z => by cases z.2.2), e8, mi_si, if_pos ⟨rfl, rfl, rfl⟩]
  · rw [e11, mi_si, if_pos ⟨rfl, rfl, rfl⟩]
def pct (x : Int32) : Prop := -50 ≤ x.toInt ∧ x.toInt ≤ 50
theorem p169 {σ : mS} {x w : Int32} (p : P169 σ x w) : (w.toInt = 0 ∧ ¬ pct x) ∨ (w.toInt ≠ 0 ∧ pct x) := by
  obtain ⟨v, h, rfl⟩ := p
  have z0 : (Int32.ofInt (-50)).toInt = -50 := by decide
  have z1 : (Int32.ofInt 50).toInt = 50 := by decide
  unfold pct
  rcases p163 h with ⟨a, b⟩ | ⟨a, b⟩
  · rw [z0, z1] at b
    exact Or.inl ⟨a, b⟩
  · rw [z0, z1] at b
    exact Or.inr ⟨a, b⟩
theorem a146 {n : Int} {N c s : Nat} {k : Kt} {x1 x2 x3 : Int32} {w : mX} {σ σ' : mS} (h : S n N c k σ) (hc : c ≤ 900000) (hsc : (m_i σ 2 0 6).toInt = s) (p : P146 σ x1 x2 x3 w σ') :
    (¬ (pct x1 ∧ pct x2 ∧ pct x3) ∧ w = .inr 1 ∧ σ' = σ) ∨ ((pct x1 ∧ pct x2 ∧ pct x3) ∧ s = 4 ∧ w = .inr 2 ∧ σ' = σ) ∨
    ((pct x1 ∧ pct x2 ∧ pct x3) ∧ s < 4 ∧ ∃ v : Int64, w = .inl (some (.inl v.toInt32)) ∧ v.toInt = s + 1 ∧ ∃ k' : Kt, k'.1 = k.1 ∧ D n N c k' σ' ∧ (m_i σ' 2 0 6).toInt = s + 1 ∧ (∀ i j, i < 4 → i ≠ s → k'.2 i j = k.2 i j) ∧ (k'.2 s 0 = x1 ∧ k'.2 s 1 = x2 ∧ k'.2 s 2 = x3) ∧ fw_e (wl ((2, 6) :: (13, 0) :: (8, 7) :: LD)) σ σ') := by
  have z0 := i_0
  have z1 := i_1
  have h6 := h.1.2.2.2.2.2
  have bad : ¬ (pct x1 ∧ pct x2 ∧ pct x3) → J146_26 x1 x2 x3 (Int32.ofInt 0) σ w σ' → (¬ (pct x1 ∧ pct x2 ∧ pct x3) ∧ w = .inr 1 ∧ σ' = σ) := by
    intro u hj
    rcases hj with ⟨σ2, _, q, _⟩ | ⟨b, q, hw⟩
    · rcases m1 q with ⟨t, _, _⟩ | ⟨_, z, _⟩
      · exact absurd z0 t
      · cases z
    · rcases m1 q with ⟨_, z, _⟩ | ⟨_, z, rfl⟩
      · cases z
      · cases z
        exact ⟨u, hw, rfl⟩
  obtain ⟨v1, p1, hh⟩ := p
  rcases p169 p1 with ⟨y1, b1⟩ | ⟨y1, b1⟩
  · rcases hh with ⟨_, hj⟩ | ⟨z, _⟩
    · exact Or.inl (bad (fun z => b1 z.1) hj)
    · exact absurd y1 z
  rcases hh with ⟨z, _⟩ | ⟨_, v6, p6', hh⟩
  · exact absurd z y1
  rcases p169 p6' with ⟨y2, b2⟩ | ⟨y2, b2⟩
  · rcases hh with ⟨_, hj⟩ | ⟨z, _⟩
    · exact Or.inl (bad (fun z => b2 z.2.1) hj)
    · exact absurd y2 z
  rcases hh with ⟨z, _⟩ | ⟨_, v11, p11, hh⟩
  · exact absurd z y2
  rcases p169 p11 with ⟨y3, b3⟩ | ⟨y3, b3⟩
  · rcases hh with ⟨_, hj⟩ | ⟨z, _⟩
    · exact Or.inl (bad (fun z => b3 z.2.2) hj)
    · exact absurd y3 z
  rcases hh with ⟨z, _⟩ | ⟨_, hj⟩
  · exact absurd z y3
  have ok : pct x1 ∧ pct x2 ∧ pct x3 := ⟨b1, b2, b3⟩
  have go : ∀ (t0 : Int32) (τ : mS), τ = σ → (t0.toInt = 0 → s = 4) → (t0.toInt ≠ 0 → s < 4) → J146_48 x1 x2 x3 t0 τ w σ' → ((pct x1 ∧ pct x2 ∧ pct x3) ∧ s = 4 ∧ w = .inr 2 ∧ σ' = σ) ∨ ((pct x1 ∧ pct x2 ∧ pct x3) ∧ s < 4 ∧ ∃ v : Int64, w = .inl (some (.inl v.toInt32)) ∧ v.toInt = s + 1 ∧ ∃ k' : Kt, k'.1 = k.1 ∧ D n N c k' σ' ∧ (m_i σ' 2 0 6).toInt = s + 1 ∧ (∀ i j, i < 4 → i ≠ s → k'.2 i j = k.2 i j) ∧ (k'.2 s 0 = x1 ∧ k'.2 s 1 = x2 ∧ k'.2 s 2 = x3) ∧ fw_e (wl ((2, 6) :: (13, 0) :: (8, 7) :: LD)) σ σ') := by
    intro t0 τ eτ u1 u2 hg
    subst eτ
    rcases hg with ⟨σ2, _, q2, σ5, e5, σ8, _, p18, v11, σ12, _, p61, v15, σ16, F16, p158', hw, rfl⟩ | ⟨b, q2, hw⟩
    · rcases m2 q2 with ⟨t3, _, rfl⟩ | ⟨_, z, _⟩
      · right
        subst e5
        obtain ⟨g1, g2, g3, g4, g5, g6, g7⟩ := mk h.1 h.2 p18
        have k0' : (m_i σ8 1 (σ2.1 1) 0).toInt = 13 := by rw [g4]; decide
        obtain ⟨k1, k2, k3, k4, k5, k6, k7, k8⟩ := k13 (k := s) g1 k0' (by rw [(g3.2 2 0 6 rfl).1]; exact hsc) (u2 t3) p61
        have ne : ∀ i j, 4 ≤ i → m_i σ12 13 i j = m_i σ8 13 i j := fun i j hi => k8 i j (by have := u2 t3; omega)
        have f12 : FY σ12 c (k.1, fun i j => m_i σ12 13 i j) := FY_of g2 (k2.2 3 0 3 rfl).2.2 (k2.2 3 0 4 rfl).2.2 (k2.2 3 0 5 rfl).1 (fun i => (k2.2 5 i 2 rfl).1) (fun i => (k2.2 9 i 1 rfl).1) ne
        obtain ⟨r1, r2, r3⟩ := p158 k1 f12 hc F16 p158'
        have rec0 : (m_i σ12 1 (σ2.1 1) 0).toInt = 13 := by rw [(k2.2 1 _ 0 rfl).1]; exact k0'
        rcases r3 with ⟨y, _⟩ | r3
        · rw [rec0] at y; cases y
        exact ⟨ok, u2 t3, v15, hw, by rw [r1]; exact k4, (k.1, fun i j => m_i σ12 13 i j), rfl, ⟨r2, r3⟩, by rw [(F16.2 2 0 6 rfl).1]; exact k3, fun i j hi hs => (k8 i j hs).trans (FY_rw g2 i j hi), ⟨k5.trans g5, k6.trans g6, k7.trans g7⟩, ((wl_mono (wn_l g3) (by decide)).tr (wl_mono k2 (by decide))).tr (wl_mono F16 (by decide))⟩
      · cases z
    · rcases m2 q2 with ⟨_, z, _⟩ | ⟨t3, z, rfl⟩
      · cases z
      · cases z
        exact Or.inl ⟨ok, u1 t3, hw, rfl⟩
  rcases hj with ⟨σ2, _, q, hj⟩ | ⟨b, q, hw⟩
  · rcases m1 q with ⟨_, _, rfl⟩ | ⟨_, z, _⟩
    · rcases hj with ⟨hh, hj⟩ | ⟨hh, hj⟩
      · exact Or.inr (go _ _ rfl (fun _ => by omega) (fun z => absurd z0 z) hj)
      · exact Or.inr (go _ _ rfl (fun z => by rw [z1] at z; cases z) (fun _ => by omega) hj)
    · cases z
  · rcases m1 q with ⟨_, z, _⟩ | ⟨t, _, _⟩
    · cases z
    · rw [z1] at t; cases t
