/-! the feed between calls: reader 0 is right, or on its way; reader 1 is anywhere -/
theorem FT_of {σ σ' : mS} {f t n : Nat} (h : FT σ f t n) (e3 : m_r σ' 3 0 3 = m_r σ 3 0 3) (e4 : m_r σ' 3 0 4 = m_r σ 3 0 4) (e5 : ∀ i, i < 2 → m_i σ' 5 i 2 = m_i σ 5 i 2) (e13 : ∀ i j, 6 ≤ i → i < 10 → m_i σ' 13 i j = m_i σ 13 i j) : FT σ' f t n := by
  obtain ⟨h1, h2, h3, h4, h5, h6, h7⟩ := h
  refine ⟨h1, e3.trans h2, e4.trans h3, tb_of h4 (e5 t (by omega)) (fun i => e13 _ i (by omega) (by omega)), h5, fun i hi => ?_, by rw [e5 f (by omega)]; exact h7⟩
  have := h6 i hi
  unfold lQ at this ⊢
  rw [e13 _ i (by omega) (by omega)]; exact this
theorem rd_of {σ σ' : mS} {r n x : Nat} (h : rd σ r n x) (e5 : m_i σ' 5 (2 + r) 2 = m_i σ 5 (2 + r) 2) (e13 : ∀ i j, i = 6 + 2 * (2 + r) ∨ i = 7 + 2 * (2 + r) → m_i σ' 13 i j = m_i σ 13 i j) (e9 : m_i σ' 9 r 1 = m_i σ 9 r 1) : rd σ' r n x := by
  obtain ⟨h1, h2, h3⟩ := h
  refine ⟨tb_of h1 e5 (fun i => e13 _ i (Or.inl rfl)), fun i hi => ?_, by rw [e9]; exact h3⟩
  have := h2 i hi
  unfold lQ at this ⊢
  rw [e13 _ i (Or.inr rfl)]; exact this
theorem ms_of {σ σ' : mS} {c : Nat} {MK MQ : Nat → Int} (h : ms σ c MK MQ) (e5 : m_i σ' 3 0 5 = m_i σ 3 0 5) (e13 : ∀ i j, i = 4 ∨ i = 5 → m_i σ' 13 i j = m_i σ 13 i j) : ms σ' c MK MQ := by
  unfold ms
  simp only [e5, e13 4 _ (Or.inl rfl), e13 5 _ (Or.inr rfl)]
  exact h
def bK (c : Nat) (MK : Nat → Int) : Prop := ∀ j, j < c → 0 ≤ MK j ∧ MK j < 1000000
/-- what is kept along: how far reader 1's copy may be too long, and the scenarios' rows -/
abbrev Kt : Type := Nat × (Nat → Nat → Int32)
def rwK (σ : mS) (k : Kt) : Prop := ∀ i j, i < 4 → m_i σ 13 i j = k.2 i j
/-- reader 0 is right and behind nothing -/
def FY (σ : mS) (c : Nat) (k : Kt) : Prop := ∃ (f t n : Nat) (MK MQ : Nat → Int) (n0 n1 x1 : Nat), FT σ f t n ∧ ms σ c MK MQ ∧ bK c MK ∧ rd σ 0 n0 c ∧ (∀ k, -1 < k → ∀ v, pM n (lK σ (6 + 2 * t)) (lQ σ (7 + 2 * t)) k v → pM n0 (rK σ 0) (rQ σ 0) k v) ∧ rd σ 1 n1 x1 ∧ x1 ≤ c ∧ n1 ≤ 120 + k.1 ∧ rwK σ k
/-- reader 0 is on its way -/
def FO (σ : mS) (c x c0 : Nat) (k : Kt) : Prop := ∃ (f t n : Nat) (MK MQ : Nat → Int) (n0 n1 x1 : Nat), FT σ f t n ∧ ms σ c MK MQ ∧ bK c MK ∧ rd σ 0 n0 x ∧ ST n (lK σ (6 + 2 * t)) (lQ σ (7 + 2 * t)) c MK MQ n0 (rK σ 0) (rQ σ 0) x c0 ∧ rd σ 1 n1 x1 ∧ x1 ≤ c ∧ n1 ≤ 120 + k.1 ∧ rwK σ k
/-- reader 0 has lost something -/
def FL (σ : mS) (c : Nat) (k : Kt) : Prop := ∃ (f t n : Nat) (MK MQ : Nat → Int) (n0 x0 n1 x1 : Nat), FT σ f t n ∧ ms σ c MK MQ ∧ bK c MK ∧ rd σ 0 n0 x0 ∧ rd σ 1 n1 x1 ∧ x1 ≤ c ∧ n1 ≤ 120 + k.1 ∧ rwK σ k
theorem FY_n {σ : mS} {c : Nat} {k : Kt} {f t n n0 : Nat} (h : FT σ f t n) (hr : rd σ 0 n0 c) (ha : ∀ k, -1 < k → ∀ v, pM n (lK σ (6 + 2 * t)) (lQ σ (7 + 2 * t)) k v → pM n0 (rK σ 0) (rQ σ 0) k v) : n0 ≤ 120 := by
  have := cp_n hr.1.2.1 h.2.2.2.1.2.1 (fun i hi => (hr.1.2.2 i hi).1) hr.2.1 ha
  have := h.2.2.2.2.1
  omega
theorem FY_FO {σ : mS} {c : Nat} {k : Kt} (h : FY σ c k) : FO σ c c c k := by
  obtain ⟨f, t, n, MK, MQ, n0, n1, x1, h1, h2, h3, h4, h5, h6⟩ := h
  have hS := h1.2.2.2.1.2.1
  refine ⟨f, t, n, MK, MQ, n0, n1, x1, h1, h2, h3, h4, ST_0 hS (Nat.le_refl _) (fun j a b => by omega) (Or.inl ⟨rfl, fun k _ v w a b => pM_uni hS a b⟩) (FY_n (k := k) h1 h4 h5) h5, h6⟩
theorem FY_tell {σ σ' : mS} {N c : Nat} {k : Kt} (hs : HS σ) (hn : hN σ N) (ho : hO σ N) (hl : lB σ N) (h : FY σ c k) (hc : c ≤ 900000) (F : fw_e w53 σ σ') (p : P53 σ (some (0, 0)) σ') : ∃ c', FO σ' c' c c k ∧ c ≤ c' ∧ c' ≤ c + 240 := by
  obtain ⟨f, t, n, MK, MQ, n0, n1, x1, h1, h2, h3, h4, h5, h6, h7, h8, h9⟩ := h
  obtain ⟨m, c', MK', MQ', g1, g2, g3, g4, g5, g6, g7, g8, g9⟩ := s53 hs h1 hn ho hl h2 hc p
  have hft := h1.1
  have tr : ∀ {r n x : Nat}, r < 2 → rd σ r n x → rd σ' r n x := fun hr h => rd_of h (g9 _ (by omega)) (fun i j hi => g8 i j (by omega) (by omega) (by omega) (by omega)) (F.2 9 _ 1 rfl).1
  have k0 : rK σ' 0 = rK σ 0 := funext fun i => congrArg Int32.toInt (g8 _ i (by omega) (by omega) (by omega) (by omega))
  have q0 : rQ σ' 0 = rQ σ 0 := funext fun i => congrArg Int32.toInt (g8 _ i (by omega) (by omega) (by omega) (by omega))
  refine ⟨c', ⟨t, f, m, MK', MQ', n0, n1, x1, g1, g2, fun j hj => ?_, tr (by decide) h4, ?_, tr (by decide) h6, by omega, h8, fun i j hi => (g8 i j (by omega) (by omega) (by omega) (by omega)).trans (h9 i j hi)⟩, g3, g4⟩
  · by_cases y : j < c
    · rw [(g5 j y).1]; exact h3 j y
    · obtain ⟨u1, u2, _⟩ := g6 j (by omega) hj
      exact (nD_b u1 u2).2
  · rw [k0, q0]
    exact ST_0 h1.2.2.2.1.2.1 g3 g6 g7 (FY_n (k := k) h1 h4 h5) h5
theorem FO_end {σ : mS} {c c0 : Nat} {k : Kt} (h : FO σ c c c0 k) : FY σ c k := by
  obtain ⟨f, t, n, MK, MQ, n0, n1, x1, h1, h2, h3, h4, h5, h6⟩ := h
  exact ⟨f, t, n, MK, MQ, n0, n1, x1, h1, h2, h3, h4, ST_e h5, h6⟩
/-- reader 0 reads -/
theorem FO_read {σ σ' : mS} {c x c0 : Nat} {k : Kt} {w : Int32} (hs : HS σ) (h : FO σ c x c0 k) (hc : c ≤ 1000000) (hx : x ≤ c0 + 300) (F : fw_e w55 σ σ') (p : P55 σ (some (9, 0)) w σ') : (x = c ∧ w = Int32.ofInt (-1) ∧ σ' = σ) ∨ (x + 30 < c ∧ w = Int32.ofInt (-2) ∧ FL σ' c k) ∨ (x < c ∧ c ≤ x + 30 ∧ 0 ≤ w.toInt ∧ FO σ' c (x + 1) c0 k) := by
  obtain ⟨f, t, n, MK, MQ, n0, n1, x1, h1, h2, h3, h4, h5, h6, h7, h8, h9⟩ := h
  have hft := h1.1
  have b1 := h5.1
  have b2 := h5.2.1
  have b3 := h5.2.2.1
  rcases s55r hs (by decide) h2 h4 (by omega) (by omega) hc h3 p with ⟨a1, a2, a3⟩ | ⟨a1, a2, a3⟩ | ⟨a1, a2, a3, n', a4, a5, a6, a7, a8⟩
  · exact Or.inl ⟨a1, a2, a3⟩
  · refine Or.inr (Or.inl ⟨a1, a2, ?_⟩)
    have e5 : ∀ i, m_i σ' 5 i 2 = m_i σ 5 i 2 := fun i => by rw [a3, mi_si, if_neg (fun z => by cases z.1)]
    have e13 : ∀ i j, m_i σ' 13 i j = m_i σ 13 i j := fun i j => by rw [a3, mi_si, if_neg (fun z => by cases z.1)]
    have e9 : m_i σ' 9 1 1 = m_i σ 9 1 1 := by rw [a3, mi_si, if_neg (fun z => by cases z.2.1)]
    have v9 : (m_i σ' 9 0 1).toInt = ((c - 30 : Nat) : Int) := by
      have := h2.1
      rw [a3, mi_si, if_pos ⟨rfl, rfl, rfl⟩, i_sub (by rw [i_30]; omega) (by rw [i_30]; omega), i_30]
      omega
    refine ⟨f, t, n, MK, MQ, n0, c - 30, n1, x1, FT_of h1 (F.2 3 0 3 rfl).2.2 (F.2 3 0 4 rfl).2.2 (fun i _ => e5 i) (fun i j _ _ => e13 i j), ms_of h2 (F.2 3 0 5 rfl).1 (fun i j _ => e13 i j), h3, ?_, rd_of h6 (e5 _) (fun i j _ => e13 i j) e9, h7, h8, fun i j hi => (e13 i j).trans (h9 i j hi)⟩
    refine ⟨tb_of h4.1 (e5 _) (fun i => e13 _ i), fun i hi => ?_, v9⟩
    have := h4.2.1 i hi
    unfold lQ at this ⊢
    rw [e13]; exact this
  · refine Or.inr (Or.inr ⟨a1, a2, by rw [a3]; exact (h3 x a1).1, f, t, n, MK, MQ, n', n1, x1, FT_of h1 (F.2 3 0 3 rfl).2.2 (F.2 3 0 4 rfl).2.2 (fun i hi => a7 i (by omega)) (fun i j _ _ => a6 i j (by omega) (by omega)), ms_of h2 (F.2 3 0 5 rfl).1 (fun i j _ => a6 i j (by omega) (by omega)), h3, a4, ?_, rd_of h6 (a7 _ (by omega)) (fun i j _ => a6 i j (by omega) (by omega)) (a8 1 (by decide)), h7, h8, fun i j hi => (a6 i j (by omega) (by omega)).trans (h9 i j hi)⟩)
    have kt : lK σ' (6 + 2 * t) = lK σ (6 + 2 * t) := funext fun i => congrArg Int32.toInt (a6 _ i (by omega) (by omega))
    have qt : lQ σ' (7 + 2 * t) = lQ σ (7 + 2 * t) := funext fun i => congrArg Int32.toInt (a6 _ i (by omega) (by omega))
    rw [kt, qt]
    exact ST_s h1.2.2.2.1.2.1 h5 a1 a5
/-- reader 0 is right: no difference -/
theorem FY_w {σ σ' : mS} {c : Nat} {k : Kt} {w : Int32} (hs : HS σ) (h : FY σ c k) (p : P87 σ 2 (m_r σ 3 0 4) w σ') : w = Int32.ofInt 0 ∧ σ' = σ := by
  obtain ⟨f, t, n, MK, MQ, n0, n1, x1, h1, h2, h3, h4, h5, h6⟩ := h
  have hft := h1.1
  have hm := h1.2.2.2.2.1
  have := FY_n (k := k) h1 h4 h5
  rw [h1.2.2.1] at p
  exact w0 hs (by decide) (by omega) h4 h1.2.2.2.1 (by omega) h5 p
/-- reader 0 copies: it is right -/
theorem FL_copy {σ σ' : mS} {c : Nat} {k : Kt} {w : Int32} (hs : HS σ) (h : FL σ c k) (F : fw_e w57 σ σ') (p : P57 σ (some (9, 0)) w σ') : FY σ' c k ∧ 0 ≤ w.toInt := by
  obtain ⟨f, t, n, MK, MQ, n0, x0, n1, x1, h1, h2, h3, h4, h6, h7, h8, h9⟩ := h
  have hft := h1.1
  obtain ⟨a1, a2, a3, a6, a7, a8⟩ := c57 hs (by decide) (by omega) h1.2.2.1 h1.2.2.2.1 h1.2.2.2.2.2.1 h2.1 h4 p
  have kt : lK σ' (6 + 2 * t) = lK σ (6 + 2 * t) := funext fun i => congrArg Int32.toInt (a6 _ i (by omega) (by omega))
  have qt : lQ σ' (7 + 2 * t) = lQ σ (7 + 2 * t) := funext fun i => congrArg Int32.toInt (a6 _ i (by omega) (by omega))
  exact ⟨⟨f, t, n, MK, MQ, n, n1, x1, FT_of h1 (F.2 3 0 3 rfl).2.2 (F.2 3 0 4 rfl).2.2 (fun i hi => a7 i (by omega)) (fun i j _ _ => a6 i j (by omega) (by omega)), ms_of h2 (F.2 3 0 5 rfl).1 (fun i j _ => a6 i j (by omega) (by omega)), h3, a2, fun k _ v g => a3 k v (by rw [kt, qt] at g; exact g), rd_of h6 (a7 _ (by omega)) (fun i j _ => a6 i j (by omega) (by omega)) (a8 1 (by decide)), h7, h8, fun i j hi => (a6 i j (by omega) (by omega)).trans (h9 i j hi)⟩, by omega⟩
