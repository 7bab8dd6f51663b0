/-! a split -/
/-- positions of one holder in one paper times a factor -/
theorem q36_s {k : Nat} {c2 : Int32} {β : mS} (hk : k < 3) (hsβ : HS β) : ∀ n (u5 : Int32) (τ σ' : mS), Q36_17 k c2 (Int32.ofInt 5) n u5 τ σ' → 0 ≤ u5.toInt → u5.toInt ≤ 5 → fw_e (wl [(6, 2), (14, 0)]) β τ → (∀ i, i ≠ 0 → i < u5.toNatClampNeg + 1 → m_l τ 14 i k = m_l β 14 i k + m_l β 14 i k * (c2 - Int32.ofInt 1).toInt64) → (∀ i, i = 0 ∨ u5.toNatClampNeg + 1 ≤ i → m_l τ 14 i k = m_l β 14 i k) → (∀ i j, j ≠ k → m_l τ 14 i j = m_l β 14 i j) → (∀ i, m_l τ 6 i 2 = m_l β 6 i 2) → fw_e (wl [(6, 2), (14, 0)]) β σ' ∧ (∀ i, i < 6 → m_l σ' 14 i k = m_l β 14 i k + m_l β 14 i k * (c2 - Int32.ofInt 1).toInt64) ∧ (∀ i j, j ≠ k → m_l σ' 14 i j = m_l β 14 i j) ∧ (∀ i, m_l σ' 6 i 2 = m_l β 6 i 2) := by
  intro n
  induction n with
  | zero => intro u5 τ σ' h; exact h.elim
  | succ n IH =>
    intro u5 τ σ' h p0 p5 F I1 I2 I3 I4
    have h : B36_17 k c2 (Int32.ofInt 5) (Q36_17 k c2 (Int32.ofInt 5) n) u5 τ σ' := h
    have n5 := i_nat p0
    have i5 : (Int32.ofInt 5).toInt = 5 := by decide
    have hsτ := HS_w hsβ F (by decide)
    have num := pn hsτ hk
    have ink : (Int32.ofNat k).toInt = k := i_ofNat (by omega)
    have knc : (Int32.ofNat k).toNatClampNeg = k := by have := i_nat (a := Int32.ofNat k) (by omega); omega
    have zz : ∀ x : Int64, x + Int64.ofNat 0 = x := fun x => by
      have : (Int64.ofNat 0 : Int64) = 0 := rfl
      rw [this]; grind
    have one : ∀ (m : Nat) (v : Int64) (σX : mS), m < 6 → P90 τ m (m_i τ 8 k 0) v → P91 τ m (m_i τ 8 k 0) (v * (c2 - Int32.ofInt 1).toInt64) (Int64.ofNat 0) σX → (∀ i j, m_l σX 14 i j = if i = m ∧ j = k then m_l τ 14 m k + m_l τ 14 m k * (c2 - Int32.ofInt 1).toInt64 else m_l τ 14 i j) ∧ ∀ i, m_l σX 6 i 2 = m_l τ 6 i 2 := by
      intro m v σX hm p90' p91'
      have ev := p90 hsτ hm (by rw [num, ink]; omega) p90'
      rw [num, knc] at ev
      have e := t91 hsτ hm (by rw [num, ink]; omega) p91'
      rw [num, knc, zz] at e
      refine ⟨fun i j => ?_, fun i => ?_⟩
      · rw [e, ml_sl, if_neg (fun z => by cases z.1), ml_sl]
        by_cases q : i = m ∧ j = k
        · rw [if_pos ⟨rfl, q.1, q.2⟩, if_pos q, ev]
        · rw [if_neg (fun z => q z.2), if_neg q]
      · rw [e, ml_sl]
        by_cases q : i = m
        · rw [if_pos ⟨rfl, q, rfl⟩, q]
        · rw [if_neg (fun z => q z.2.1), ml_sl, if_neg (fun z => by cases z.1)]
    rcases h with ⟨hh, v2, p2, σ7, F7, p7, rfl⟩ | ⟨_, hr, v11, p11, σ16, F16, p16, h⟩
    · obtain ⟨a1, a2⟩ := one 0 v2 σ' (by decide) p2 p7
      refine ⟨F.tr (wl_mono F7 (by decide)), fun i hi => ?_, fun i j hj => ?_, fun i => (a2 i).trans (I4 i)⟩
      · rw [a1]
        by_cases q : i = 0
        · rw [if_pos ⟨q, rfl⟩, I2 0 (Or.inl rfl), q]
        · rw [if_neg (fun z => q z.1)]
          exact I1 i q (by omega)
      · rw [a1, if_neg (fun z => hj z.2)]; exact I3 i j hj
    · obtain ⟨a1, a2⟩ := one (u5.toNatClampNeg + 1) v11 σ16 (by omega) p11 p16
      have e1 : (u5 + Int32.ofInt 1).toInt = u5.toInt + 1 := i_inc p0 (by omega)
      have n6 := i_nat (a := u5 + Int32.ofInt 1) (by omega)
      have ek : (u5 + Int32.ofInt 1).toNatClampNeg = u5.toNatClampNeg + 1 := by omega
      refine IH _ _ σ' h (by omega) (by omega) (F.tr (wl_mono F16 (by decide))) (fun i hi hl => ?_) (fun i hi => ?_) (fun i j hj => ?_) (fun i => (a2 i).trans (I4 i))
      · rw [a1]
        by_cases q : i = u5.toNatClampNeg + 1
        · rw [if_pos ⟨q, rfl⟩, I2 _ (Or.inr (Nat.le_refl _)), q]
        · rw [if_neg (fun z => q z.1)]
          exact I1 i hi (by omega)
      · rw [a1, if_neg (fun z => by omega)]
        exact I2 i (by omega)
      · rw [a1, if_neg (fun z => hj z.2)]; exact I3 i j hj
theorem i_div {a b : Int32} (h0 : 0 ≤ a.toInt) (h1 : 1 ≤ b.toInt) : (a / b).toInt = a.toInt / b.toInt := by
  have hb := i_b a
  rw [Int32.toInt_div, Int.tdiv_eq_ediv_of_nonneg h0]
  have q0 : 0 ≤ a.toInt / b.toInt := Int.ediv_nonneg h0 (by omega)
  have q1 : a.toInt / b.toInt ≤ a.toInt := Int.ediv_le_self _ h0
  rw [Int.bmod_def]
  split <;> omega
theorem p117 {x1 x2 w : Int32} {σ : mS} (h : P117 σ x1 x2 w) (h1 : 1 ≤ x2.toInt) (h0 : 0 ≤ x1.toInt) : w.toInt = (if 1 ≤ x1.toInt / x2.toInt then x1.toInt / x2.toInt else 1) := by
  rcases h with ⟨_, rfl⟩ | ⟨z, _⟩
  · have e : (x1 / x2).toInt = x1.toInt / x2.toInt := i_div h0 h1
    have one := i_1
    rcases jmax_c (Int32.ofInt 1) (x1 / x2) with ⟨a, b⟩ | ⟨a, b⟩
    · rw [a, e]
      rw [if_pos (by omega)]
    · rw [a, one]
      by_cases q : 1 ≤ x1.toInt / x2.toInt
      · rw [if_pos q]; omega
      · rw [if_neg q]
  · omega
