/-! settling, failing, selling keep what the clearing keeps -/
theorem tO_fw {L : Nat → Nat → Bool} {σ σ' : mS} (F : fw_e L σ σ') (h : tO σ) (c : (fwh L 2 5 && (fwh L 8 6 && [0, 1, 2, 3, 4, 5, 6, 9].all (fun k => fwh L 10 k))) = true) : tO σ' := by
  simp only [Bool.and_eq_true] at c
  obtain ⟨c1, c2, c3⟩ := c
  have c3 := List.all_eq_true.mp c3
  have e := (F.2 2 0 5 c1).1
  refine ⟨by rw [e]; exact h.1, fun t ht => ?_⟩
  rw [e] at ht
  refine tOK_of (h.2 t ht) (fun k hk => (F.2 10 t k (c3 k ?_)).1) (fun i => (F.2 8 i 6 c2).1)
  simp only [List.mem_cons, List.mem_nil_iff, or_false]
  omega
theorem pO_fw {L : Nat → Nat → Bool} {σ σ' : mS} (F : fw_e L σ σ') (h : pO σ) (c : (fwh L 8 1 && (fwh L 8 2 && (fwh L 8 4 && (fwh L 8 5 && fwh L 8 6)))) = true) : pO σ' := by
  simp only [Bool.and_eq_true] at c
  obtain ⟨c1, c2, c4, c5, c6⟩ := c
  exact pO_of h (fun i => Or.inl (F.2 8 i 1 c1).1) (fun i => Or.inl (F.2 8 i 2 c2).1) (fun i => (F.2 8 i 4 c4).1) (fun i => (F.2 8 i 5 c5).1) (fun i => (F.2 8 i 6 c6).1)
theorem s46 {n : Int} {σ σ' : mS} {m : Nat} {w : Int64} (h : CI n σ) (hn : n + 1 ≤ 300) (h1 : 1 ≤ m) (h6 : m < 6) (ht : m_r σ 2 0 9 = some (6, m)) (p : P46 σ w σ') : CI (n + 1) σ' ∧ sm σ' = sm σ ∧ (∀ j, ps σ' j = ps σ j) ∧ m_r σ' 2 0 9 = none ∧ mi6 σ' m 10 = 1 ∧ (0 ≤ w.toInt ∧ m_l σ' 6 0 3 = m_l σ 6 0 3 + w) ∧ (0 < w.toInt → (m_l σ' 6 m 2).toInt ≤ 0) ∧ fw_e (wl [(2, 9), (6, 2), (6, 3), (6, 4), (6, 10)]) σ σ' := by
  have hB := CI_sm h
  obtain ⟨g1, g2, g3, g4, g5, g6, g7, g8, F, gw, gc⟩ := lo46 h1 h6 hB ht p
  obtain ⟨n1, k2, k3, k4, k5, k6, a1, a2, a3, a4, a5, a6, a7, a8, a9⟩ := h
  have e : ∀ {c i k : Nat}, fwh (wl [(2, 9), (6, 2), (6, 3), (6, 4), (6, 10)]) c k = true → m_i σ' c i k = m_i σ c i k ∧ m_l σ' c i k = m_l σ c i k ∧ m_r σ' c i k = m_r σ c i k := fun h => F.2 _ _ _ h
  have one : (Int32.ofInt 1).toInt = 1 := by decide
  have p14 : ∀ i j, m_l σ' 14 i j = m_l σ 14 i j := fun i j => (F.2 14 i j (by unfold fwh; rw [if_neg (by decide)]; rfl)).2.1
  have v10 : ∀ i, mi6 σ' i 10 = if i = m then 1 else mi6 σ i 10 := fun i => by
    show (m_i σ' 6 i 10).toInt = _
    rw [g4]
    by_cases q : i = m
    · rw [if_pos q, if_pos q, one]
    · rw [if_neg q, if_neg q]
  have v9 : ∀ i, mi6 σ' i 9 = mi6 σ i 9 := fun i => congrArg Int32.toInt (e rfl).1
  have v7 : ∀ i, mi6 σ' i 7 = mi6 σ i 7 := fun i => congrArg Int32.toInt (e rfl).1
  obtain ⟨fm9, fm10, fo⟩ : mi6 σ m 9 = 1 ∧ mi6 σ m 10 = 0 ∧ ∀ i, 1 ≤ i → i < 6 → i ≠ m → mi6 σ i 9 = 1 → mi6 σ i 10 = 1 := by
    rcases k5 with ⟨z, _⟩ | ⟨m', b1, b2, b3, b4, b5, b6⟩
    · rw [ht] at z; cases z
    · rw [ht] at b3
      cases b3
      exact ⟨b4, b5, b6⟩
  have tce : tc σ' = tc σ := congrArg Int32.toInt (e rfl).1
  have l0 := l_0
  have nS1 : nSt σ' = nSt σ + 1 := by
    unfold nSt
    rw [v10, v10, v10, v10, v10]
    have c : m = 1 ∨ m = 2 ∨ m = 3 ∨ m = 4 ∨ m = 5 := by omega
    rcases c with rfl | rfl | rfl | rfl | rfl <;> (simp <;> omega)
  have nSb := nSt_b k4
  have cm := CS_m (σ := σ) h6
  have cs : CS σ ≤ 100000000000000 * n + 3000000000 * tc σ := a2
  have t200 := k2.1
  have cc0 := cc_0 σ
  have wb : w.toInt ≤ 70000000000000000 := by
    have : tc σ = (m_i σ 2 0 5).toInt := rfl
    omega
  refine ⟨⟨⟨by omega, hn⟩, tO_fw F k2 rfl, pO_fw F k3 rfl, fun i b1 b2 => ?_, Or.inl ⟨g3, fun i b1 b2 z => ?_⟩, ?_, fun j hj => ?_, ?_, fun i hi => ?_, ?_, fun i hi => ?_, fun i b1 hi => ?_, ?_, fun t ht => ?_, fun i b1 b2 => ?_⟩, g1, g2, g3, by rw [v10, if_pos rfl], ⟨g7.1, g7.2.2⟩, g8, F⟩
  · obtain ⟨f1, f2, f3, f4, f5, f6, f7⟩ := k4 i b1 b2
    unfold fl1
    rw [v7, v9, v10]
    refine ⟨f1, f2, ?_, ?_, f5, fun z j hj => ?_, ?_⟩
    · by_cases q : i = m
      · rw [if_pos q]; exact Or.inr rfl
      · rw [if_neg q]; exact f3
    · by_cases q : i = m
      · intro _; rw [q]; exact fm9
      · rw [if_neg q]; exact f4
    · show (m_l σ' 14 i j).toInt = 0
      rw [p14]; exact f6 z j hj
    · rw [g6 i b1]
      by_cases q : i = m
      · intro _; rw [if_pos q]; exact l0
      · rw [if_neg q, if_neg q]; exact f7
  · rw [v9] at z
    rw [v10]
    by_cases q : i = m
    · rw [if_pos q]
    · rw [if_neg q]; exact fo i b1 b2 q z
  · rw [(e rfl).1, nF_of (fun i => (e rfl).1)]; exact k6
  · have x := a1 j hj
    have y : pv σ' j 6 = pv σ j 6 := congrArg Int32.toInt (e rfl).1
    rw [SP_fw F rfl, y, tce]
    have f1 := (k3 j hj).2.2.2.2.1
    exact Int.le_trans x (Int.mul_le_mul_of_nonneg_left (by omega) (by omega))
  · rw [tce]; omega
  · rw [(e rfl).2.1]; have := a3 i hi; omega
  · rw [cc_of (fun i => (e rfl).2.1), (e rfl).2.1]; omega
  · have := g5.2 i hi; omega
  · rw [g6 i b1]
    by_cases q : i = m
    · rw [if_pos q, l0]; omega
    · rw [if_neg q]; have := a6 i b1 hi; omega
  · rw [nS1, g7.2.2, l_add (by omega) (by omega)]; omega
  · rw [tce] at ht
    have x := a8 t ht
    unfold fB at x ⊢
    rw [(e rfl).2.1, (e rfl).2.1]; exact x
  · have x : mi6 σ' i 6 = mi6 σ i 6 := congrArg Int32.toInt (e rfl).1
    rw [x]; have := a9 i b1 b2; omega
