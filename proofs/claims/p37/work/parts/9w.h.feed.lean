/-! the feed between calls: reader 1; what leaves the feed alone -/
theorem FY_of {σ σ' : mS} {c : Nat} {k : Kt} (h : FY σ c k) (e3 : m_r σ' 3 0 3 = m_r σ 3 0 3) (e4 : m_r σ' 3 0 4 = m_r σ 3 0 4) (e5 : m_i σ' 3 0 5 = m_i σ 3 0 5) (e2 : ∀ i, m_i σ' 5 i 2 = m_i σ 5 i 2) (e9 : ∀ i, m_i σ' 9 i 1 = m_i σ 9 i 1) (e13 : ∀ i j, 4 ≤ i → m_i σ' 13 i j = m_i σ 13 i j) : FY σ' c (k.1, fun i j => m_i σ' 13 i j) := by
  obtain ⟨f, t, n, MK, MQ, n0, n1, x1, h1, h2, h3, h4, h5, h6, h7, h8, h9⟩ := h
  have kk : ∀ i, 4 ≤ i → lK σ' i = lK σ i := fun i hi => funext fun j => congrArg Int32.toInt (e13 i j hi)
  have qq : ∀ i, 4 ≤ i → lQ σ' i = lQ σ i := fun i hi => funext fun j => congrArg Int32.toInt (e13 i j hi)
  refine ⟨f, t, n, MK, MQ, n0, n1, x1, FT_of h1 e3 e4 (fun i _ => e2 i) (fun i j a _ => e13 i j (by omega)), ms_of h2 e5 (fun i j a => e13 i j (by omega)), h3, rd_of h4 (e2 _) (fun i j a => e13 i j (by omega)) (e9 0), ?_, rd_of h6 (e2 _) (fun i j a => e13 i j (by omega)) (e9 1), h7, h8, fun i j _ => rfl⟩
  unfold rK rQ
  rw [kk _ (by omega), qq _ (by omega), kk _ (by omega), qq _ (by omega)]
  exact h5
theorem FY_rw {σ : mS} {c : Nat} {k : Kt} (h : FY σ c k) : rwK σ k := by
  obtain ⟨f, t, n, MK, MQ, n0, n1, x1, h1, h2, h3, h4, h5, h6, h7, h8, h9⟩ := h
  exact h9
theorem FY_re {σ : mS} {c : Nat} {k k' : Kt} (h : FY σ c k) (e1 : k.1 ≤ k'.1) (e2 : ∀ i j, i < 4 → k'.2 i j = k.2 i j) : FY σ c k' := by
  obtain ⟨f, t, n, MK, MQ, n0, n1, x1, h1, h2, h3, h4, h5, h6, h7, h8, h9⟩ := h
  exact ⟨f, t, n, MK, MQ, n0, n1, x1, h1, h2, h3, h4, h5, h6, h7, by omega, fun i j hi => (h9 i j hi).trans (e2 i j hi).symm⟩
theorem FO_rw {σ : mS} {c x c0 : Nat} {k : Kt} (h : FO σ c x c0 k) : rwK σ k := by
  obtain ⟨f, t, n, MK, MQ, n0, n1, x1, h1, h2, h3, h4, h5, h6, h7, h8, h9⟩ := h
  exact h9
theorem FY_fw {L : Nat → Nat → Bool} {σ σ' : mS} {c : Nat} {k : Kt} (h : FY σ c k) (F : fw_e L σ σ') (q : (fwh L 3 3 && (fwh L 3 4 && (fwh L 3 5 && (fwh L 5 2 && (fwh L 9 1 && fwh L 13 0))))) = true) : FY σ' c k := by
  simp only [Bool.and_eq_true] at q
  obtain ⟨q1, q2, q3, q4, q5, q6⟩ := q
  have E : ∀ i j, m_i σ' 13 i j = m_i σ 13 i j := fun i j => by
    refine (F.2 13 i j ?_).1
    have e : fwh L 13 j = fwh L 13 0 := by unfold fwh; rw [if_neg (by decide), if_neg (by decide)]
    rw [e]; exact q6
  refine FY_re (FY_of h (F.2 3 0 3 q1).2.2 (F.2 3 0 4 q2).2.2 (F.2 3 0 5 q3).1 (fun i => (F.2 5 i 2 q4).1) (fun i => (F.2 9 i 1 q5).1) (fun i j _ => E i j)) (Nat.le_refl _) (fun i j hi => (FY_rw h i j hi).symm.trans (E i j).symm)
theorem FY_r1 {σ σ' : mS} {c : Nat} {k : Kt} {w : Int32} (hs : HS σ) (h : FY σ c k) (hc : c ≤ 1000000) (hk : k.1 < 300) (F : fw_e w55 σ σ') (p : P55 σ (some (9, 1)) w σ') : FY σ' c (k.1 + 1, k.2) ∧ -2 ≤ w.toInt := by
  have h0 := h
  obtain ⟨f, t, n, MK, MQ, n0, n1, x1, h1, h2, h3, h4, h5, h6, h7, h8, h9⟩ := h
  have hft := h1.1
  rcases s55r hs (by decide) h2 h6 (by omega) h7 hc h3 p with ⟨a1, a2, a3⟩ | ⟨a1, a2, a3⟩ | ⟨a1, a2, a3, n', a4, a5, a6, a7, a8⟩
  · rw [a3]
    exact ⟨FY_re h0 (Nat.le_succ _) (fun _ _ _ => rfl), by rw [a2]; decide⟩
  · have e5 : ∀ i, m_i σ' 5 i 2 = m_i σ 5 i 2 := fun i => by rw [a3, mi_si, if_neg (fun z => by cases z.1)]
    have e13 : ∀ i j, m_i σ' 13 i j = m_i σ 13 i j := fun i j => by rw [a3, mi_si, if_neg (fun z => by cases z.1)]
    have e9 : m_i σ' 9 0 1 = m_i σ 9 0 1 := by rw [a3, mi_si, if_neg (fun z => by cases z.2.1)]
    have v9 : (m_i σ' 9 1 1).toInt = ((c - 30 : Nat) : Int) := by
      have := h2.1
      rw [a3, mi_si, if_pos ⟨rfl, rfl, rfl⟩, i_sub (by rw [i_30]; omega) (by rw [i_30]; omega), i_30]
      omega
    have kt : ∀ i, lK σ' i = lK σ i := fun i => funext fun j => congrArg Int32.toInt (e13 i j)
    have qt : ∀ i, lQ σ' i = lQ σ i := fun i => funext fun j => congrArg Int32.toInt (e13 i j)
    refine ⟨⟨f, t, n, MK, MQ, n0, n1, c - 30, FT_of h1 (F.2 3 0 3 rfl).2.2 (F.2 3 0 4 rfl).2.2 (fun i _ => e5 i) (fun i j _ _ => e13 i j), ms_of h2 (F.2 3 0 5 rfl).1 (fun i j _ => e13 i j), h3, rd_of h4 (e5 _) (fun i j _ => e13 i j) e9, by unfold rK rQ; rw [kt, qt, kt, qt]; exact h5, ⟨tb_of h6.1 (e5 _) (fun i => e13 _ i), fun i hi => ?_, v9⟩, by omega, by show n1 ≤ 120 + (k.1 + 1); omega, fun i j hi => (e13 i j).trans (h9 i j hi)⟩, by rw [a2]; decide⟩
    have := h6.2.1 i hi
    unfold lQ at this ⊢
    rw [e13]; exact this
  · have kt : lK σ' (6 + 2 * t) = lK σ (6 + 2 * t) := funext fun i => congrArg Int32.toInt (a6 _ i (by omega) (by omega))
    have qt : lQ σ' (7 + 2 * t) = lQ σ (7 + 2 * t) := funext fun i => congrArg Int32.toInt (a6 _ i (by omega) (by omega))
    have k0 : rK σ' 0 = rK σ 0 := funext fun i => congrArg Int32.toInt (a6 _ i (by omega) (by omega))
    have q0 : rQ σ' 0 = rQ σ 0 := funext fun i => congrArg Int32.toInt (a6 _ i (by omega) (by omega))
    have a51 := a5.1
    refine ⟨⟨f, t, n, MK, MQ, n0, n', x1 + 1, FT_of h1 (F.2 3 0 3 rfl).2.2 (F.2 3 0 4 rfl).2.2 (fun i hi => a7 i (by omega)) (fun i j _ _ => a6 i j (by omega) (by omega)), ms_of h2 (F.2 3 0 5 rfl).1 (fun i j _ => a6 i j (by omega) (by omega)), h3, rd_of h4 (a7 _ (by omega)) (fun i j _ => a6 i j (by omega) (by omega)) (a8 0 (by decide)), by rw [kt, qt, k0, q0]; exact h5, a4, by omega, by show n' ≤ 120 + (k.1 + 1); omega, fun i j hi => (a6 i j (by omega) (by omega)).trans (h9 i j hi)⟩, by rw [a3]; have := (h3 x1 a1).1; omega⟩
theorem FY_c1 {σ σ' : mS} {c : Nat} {k : Kt} {w : Int32} (hs : HS σ) (h : FY σ c k) (hc : c ≤ 1000000) (F : fw_e w57 σ σ') (p : P57 σ (some (9, 1)) w σ') : FY σ' c k ∧ 0 ≤ w.toInt ∧ (∀ w2 σ2, P87 σ' 3 (m_r σ' 3 0 4) w2 σ2 → w2 = Int32.ofInt 0 ∧ σ2 = σ') ∧ (∀ w3 σ3, P55 σ' (some (9, 1)) w3 σ3 → w3 = Int32.ofInt (-1) ∧ σ3 = σ') := by
  obtain ⟨f, t, n, MK, MQ, n0, n1, x1, h1, h2, h3, h4, h5, h6, h7, h8, h9⟩ := h
  have hft := h1.1
  have hm := h1.2.2.2.2.1
  have hs' := HS_w hs F (by decide)
  obtain ⟨a1, a2, a3, a6, a7, a8⟩ := c57 hs (by decide) (by omega) h1.2.2.1 h1.2.2.2.1 h1.2.2.2.2.2.1 h2.1 h6 p
  have kt : lK σ' (6 + 2 * t) = lK σ (6 + 2 * t) := funext fun i => congrArg Int32.toInt (a6 _ i (by omega) (by omega))
  have qt : lQ σ' (7 + 2 * t) = lQ σ (7 + 2 * t) := funext fun i => congrArg Int32.toInt (a6 _ i (by omega) (by omega))
  have k0 : rK σ' 0 = rK σ 0 := funext fun i => congrArg Int32.toInt (a6 _ i (by omega) (by omega))
  have q0 : rQ σ' 0 = rQ σ 0 := funext fun i => congrArg Int32.toInt (a6 _ i (by omega) (by omega))
  have g1 := FT_of h1 (F.2 3 0 3 rfl).2.2 (F.2 3 0 4 rfl).2.2 (fun i hi => a7 i (by omega)) (fun i j _ _ => a6 i j (by omega) (by omega))
  have g2 := ms_of h2 (F.2 3 0 5 rfl).1 (fun i j _ => a6 i j (by omega) (by omega))
  refine ⟨⟨f, t, n, MK, MQ, n0, n, c, g1, g2, h3, rd_of h4 (a7 _ (by omega)) (fun i j _ => a6 i j (by omega) (by omega)) (a8 0 (by decide)), by rw [kt, qt, k0, q0]; exact h5, a2, Nat.le_refl _, by omega, fun i j hi => (a6 i j (by omega) (by omega)).trans (h9 i j hi)⟩, by omega, fun w2 σ2 q => ?_, fun w3 σ3 q => ?_⟩
  · rw [g1.2.2.1] at q
    exact w0 hs' (by decide) (by omega) a2 g1.2.2.2.1 (by omega) (fun k _ v g => a3 k v (by rw [kt, qt] at g; exact g)) q
  · rcases s55r hs' (by decide) g2 a2 (by omega) (Nat.le_refl _) hc h3 q with ⟨_, b2, b3⟩ | ⟨b1, _⟩ | ⟨b1, _⟩
    · exact ⟨b2, b3⟩
    · omega
    · omega
theorem FY_l1 {σ σ' : mS} {c : Nat} {k : Kt} {w : Int32} (h : FY σ c k) (hc : c ≤ 900000) (hl : (m_i σ 9 1 1).toInt < (m_i σ 3 0 5).toInt) (p : P56 σ (some (9, 1)) w σ') : FY σ' c k ∧ 0 ≤ w.toInt := by
  obtain ⟨f, t, n, MK, MQ, n0, n1, x1, h1, h2, h3, h4, h5, h6, h7, h8, h9⟩ := h
  obtain ⟨i1, e1, σ4, e4, hw, rfl⟩ := p
  cases e1
  have v1 := h6.2.2
  have vc := h2.1
  have e5 : ∀ i, m_i σ' 5 i 2 = m_i σ 5 i 2 := fun i => by rw [e4, mi_si, if_neg (fun z => by cases z.1)]
  have e13 : ∀ i j, m_i σ' 13 i j = m_i σ 13 i j := fun i j => by rw [e4, mi_si, if_neg (fun z => by cases z.1)]
  have e9 : m_i σ' 9 0 1 = m_i σ 9 0 1 := by rw [e4, mi_si, if_neg (fun z => by cases z.2.1)]
  have e3 : m_i σ' 3 0 5 = m_i σ 3 0 5 := by rw [e4, mi_si, if_neg (fun z => by cases z.1)]
  have v9 : (m_i σ' 9 1 1).toInt = ((x1 + 1 : Nat) : Int) := by
    rw [e4, mi_si, if_pos ⟨rfl, rfl, rfl⟩, i_inc (by omega) (by omega)]; omega
  have kt : ∀ i, lK σ' i = lK σ i := fun i => funext fun j => congrArg Int32.toInt (e13 i j)
  have qt : ∀ i, lQ σ' i = lQ σ i := fun i => funext fun j => congrArg Int32.toInt (e13 i j)
  have r3 : ∀ k, m_r σ' 3 0 k = m_r σ 3 0 k := fun k => by rw [e4]; rfl
  refine ⟨⟨f, t, n, MK, MQ, n0, n1, x1 + 1, FT_of h1 (r3 3) (r3 4) (fun i _ => e5 i) (fun i j _ _ => e13 i j), ms_of h2 e3 (fun i j _ => e13 i j), h3, rd_of h4 (e5 _) (fun i j _ => e13 i j) e9, by unfold rK rQ; rw [kt, qt, kt, qt]; exact h5, ⟨tb_of h6.1 (e5 _) (fun i => e13 _ i), fun i hi => ?_, v9⟩, by omega, h8, fun i j hi => (e13 i j).trans (h9 i j hi)⟩, ?_⟩
  · have := h6.2.1 i hi
    unfold lQ at this ⊢
    rw [e13]; exact this
  · rw [hw, i_sub (by rw [e3]; omega) (by rw [e3]; omega), e3]; omega
