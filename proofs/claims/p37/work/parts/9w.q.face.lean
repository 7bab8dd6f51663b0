/-! the face: a trade is broken -/
theorem p33 {σ : mS} {t : Nat} {w : Int32} (hT : tO σ) (ht : (t : Int) < (m_i σ 2 0 5).toInt) (p : P33 σ (some (10, t)) w) : w.toInt ≠ 0 → ti σ t 9 = 0 ∧ nfl σ (m_i σ 10 t 3) ∧ nfl σ (m_i σ 10 t 4) := by
  intro hw
  have z0 := i_0
  obtain ⟨_, _, _, g3, g4, _⟩ := hT.2 t ht
  have no : J33_47 σ w → False := fun h => by
    have h : w = Int32.ofInt 0 := h
    rw [h] at hw
    exact hw z0
  obtain ⟨i1, e1, h⟩ := p
  cases e1
  rcases h with ⟨_, h⟩ | ⟨y0, ⟨_, h⟩ | ⟨_, v5, p5, ⟨_, h⟩ | ⟨y1, v10, p10, ⟨_, h⟩ | ⟨y2, _⟩⟩⟩⟩
  · exact (no h).elim
  · exact (no h).elim
  · exact (no h).elim
  · exact (no h).elim
  · rcases p26 p5 g3 with ⟨_, a⟩ | ⟨a, _⟩
    · rcases p26 p10 g4 with ⟨_, b⟩ | ⟨b, _⟩
      · exact ⟨Decidable.of_not_not y0, a, b⟩
      · exact absurd b y2
    · exact absurd a y1
theorem a143 {n : Int} {N c : Nat} {k : Kt} {x1 : Int32} {w : mX} {σ σ' : mS} (h : S n N c k σ) (hn : n + 11 ≤ 300) (hc : c ≤ 900000) (p : P143 σ x1 w σ') :
    ((x1.toInt < 0 ∨ (m_i σ 2 0 5).toInt ≤ x1.toInt) ∧ w = .inr 0 ∧ σ' = σ) ∨ ∃ t : Nat, x1.toInt = t ∧ (t : Int) < (m_i σ 2 0 5).toInt ∧ ((w = .inr 2 ∧ σ' = σ) ∨
    ((ti σ t 9 = 0 ∧ nfl σ (m_i σ 10 t 3) ∧ nfl σ (m_i σ 10 t 4)) ∧ w = .inl none ∧ D (n + 1) N c k σ' ∧ sm σ' = sm σ ∧ (∀ j, ps σ' j = ps σ j) ∧ (∀ t' k, k ≤ 8 ∨ t' ≠ t → m_i σ' 10 t' k = m_i σ 10 t' k) ∧ ti σ' t 9 = 1 ∧ fw_e (wl ([(6, 2), (8, 7), (10, 9), (14, 0)] ++ LD)) σ σ')) := by
  obtain ⟨v1, p1, hh⟩ := p
  have hT := h.1.2.2.2.1.2.1
  rcases p25 hT p1 with ⟨e1, hx⟩ | ⟨x0, xN, e1⟩
  · rw [e1] at hh
    rcases hh with ⟨_, hw, e⟩ | ⟨q, z, _⟩
    · exact Or.inl ⟨hx, hw, e⟩
    · cases z
  · have na := i_nat x0
    right
    refine ⟨x1.toNatClampNeg, na.symm, by omega, ?_⟩
    rw [e1] at hh
    rcases hh with ⟨z, _⟩ | ⟨q6, e6, v9, p9, hh⟩
    · cases z
    cases e6
    have ok := p33 hT (by omega) p9
    rcases hh with ⟨σ14, _, q, σ17, e17, σ20, _, p18, v23, σ24, _, p61, v27, σ28, F28, p158', hw, rfl⟩ | ⟨b, q, hw⟩
    · rcases m2 q with ⟨t2, _, rfl⟩ | ⟨_, z, _⟩
      · right
        subst e17
        obtain ⟨o1, o2, o3⟩ := ok t2
        obtain ⟨g1, g2, g3, g4, g5, g6, _⟩ := mk h.1 h.2 p18
        have k0' : (m_i σ20 1 (σ14.1 1) 0).toInt = 12 := by rw [g4]; decide
        have e10 : ∀ i k, m_i σ20 10 i k = m_i σ14 10 i k := fun i k => (g3.2 10 i k (by unfold fwh; rfl)).1
        have nf : ∀ x, nfl σ14 x → nfl σ20 x := fun x y => by
          unfold nfl at y ⊢
          rw [(g3.2 6 _ 9 rfl).1]; exact y
        obtain ⟨k1, k2, k3, k4, k5, k6⟩ := k12 (t := x1.toNatClampNeg) g1 hn k0' (by rw [g5]; omega) (by rw [(g3.2 2 0 5 rfl).1]; omega) (by rw [e10]; exact nf _ o2) (by rw [e10]; exact nf _ o3) p61
        have f24 := FY_fw g2 k2 rfl
        obtain ⟨r1, r2, r3⟩ := p158 k1 f24 hc F28 p158'
        have rec0 : (m_i σ24 1 (σ14.1 1) 0).toInt = 12 := by rw [(k2.2 1 _ 0 rfl).1]; exact k0'
        rcases r3 with ⟨y, _⟩ | r3
        · rw [rec0] at y; cases y
        have f10 : ∀ i k, m_i σ' 10 i k = m_i σ24 10 i k := fun i k => (F28.2 10 i k (by unfold fwh; rfl)).1
        refine ⟨⟨o1, o2, o3⟩, hw, ⟨r2, r3⟩, by rw [sm_fw F28 rfl, k3, sm_fw g3 rfl], fun j => by rw [ps_fw F28 rfl, k4, ps_fw g3 rfl], fun t' k hk => by rw [f10, k5 t' k hk, e10], ?_, ((wl_mono (wn_l g3) (by decide)).tr (wl_mono k2 (by decide))).tr (wl_mono F28 (by decide))⟩
        show (m_i σ' 10 _ 9).toInt = 1
        rw [f10]; exact k6
      · cases z
    · rcases m2 q with ⟨_, z, _⟩ | ⟨_, z, rfl⟩
      · cases z
      · cases z
        exact Or.inl ⟨hw, rfl⟩
