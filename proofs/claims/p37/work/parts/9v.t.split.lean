/-! a split -/
/-- positions of one holder in one paper times a factor -/
theorem q36_s {k : Nat} {c2 : Int32} {β : mS} (hk : k < 3) (hsβ : HS β) : ∀ n (u5 : Int32) (τ σ' : mS), Q36_17 k c2 (Int32.ofInt 5) n u5 τ σ' → 0 ≤ u5.toInt → u5.toInt ≤ 5 → fw_e (wl [(6, 2), (14, 0)]) β τ → (∀ i, i ≠ 0 → i < u5.toNatClampNeg + 1 → m_l τ 14 i k = m_l β 14 i k + m_l β 14 i k * (c2 - Int32.ofInt 1).toInt64) → (∀ i, i = 0 ∨ u5.toNatClampNeg + 1 ≤ i → m_l τ 14 i k = m_l β 14 i k) → (∀ i j, j ≠ k → m_l τ 14 i j = m_l β 14 i j) → (∀ i, m_l τ 6 i 2 = m_l β 6 i 2) → fw_e (wl [(6, 2), (14, 0)]) β σ' ∧ (∀ i, i < 6 → m_l σ' 14 i k = m_l β 14 i k + m_l β 14 i k * (c2 - Int32.ofInt 1).toInt64) ∧ (∀ i j, j ≠ k → m_l σ' 14 i j = m_l β 14 i j) ∧ (∀ i, m_l σ' 6 i 2 = m_l β 6 i 2) := by
  intro n
  induction n with
  | zero => intro u5 τ σ' h; exact h.elim
  | succ n IH =>
    intro u5 τ σ' h p0 p5 F I1 I2 I3 I4
    have h : B36_17 k c2 (Int32.ofInt 5) (Q36_17 k c2 (Int32.ofInt 5) n) u5 τ σ' := h
    have n5 := i_nat p0
    have i5 : (Int32.ofInt 5).toInt = 5 := by decide
    have hsτ := HS_w hsβ F (by decide)
    have num := pn hsτ hk
    have ink : (Int32.ofNat k).toInt = k := i_ofNat (by omega)
    have knc : (Int32.ofNat k).toNatClampNeg = k := by have := i_nat (a := Int32.ofNat k) (by omega); omega
    have zz : ∀ x : Int64, x + Int64.ofNat 0 = x := fun x => by
      have : (Int64.ofNat 0 : Int64) = 0 := rfl
      rw [this]; grind
    have one : ∀ (m : Nat) (v : Int64) (σX : mS), m < 6 → P90 τ m (m_i τ 8 k 0) v → P91 τ m (m_i τ 8 k 0) (v * (c2 - Int32.ofInt 1).toInt64) (Int64.ofNat 0) σX → (∀ i j, m_l σX 14 i j = if i = m ∧ j = k then m_l τ 14 m k + m_l τ 14 m k * (c2 - Int32.ofInt 1).toInt64 else m_l τ 14 i j) ∧ ∀ i, m_l σX 6 i 2 = m_l τ 6 i 2 := by
      intro m v σX hm p90' p91'
      have ev := p90 hsτ hm (by rw [num, ink]; omega) p90'
      rw [num, knc] at ev
      have e := t91 hsτ hm (by rw [num, ink]; omega) p91'
      rw [num, knc, zz] at e
      refine ⟨fun i j => ?_, fun i => ?_⟩
      · rw [e, ml_sl, if_neg (fun z => by cases z.1), ml_sl]
        by_cases q : i = m ∧ j = k
        · rw [if_pos ⟨rfl, q.1, q.2⟩, if_pos q, ev]
        · rw [if_neg (fun z => q z.2), if_neg q]
      · rw [e, ml_sl]
        by_cases q : i = m
        · rw [if_pos ⟨rfl, q, rfl⟩, q]
        · rw [if_neg (fun z => q z.2.1), ml_sl, if_neg (fun z => by cases z.1)]
    rcases h with ⟨hh, v2, p2, σ7, F7, p7, rfl⟩ | ⟨_, hr, v11, p11, σ16, F16, p16, h⟩
    · obtain ⟨a1, a2⟩ := one 0 v2 σ' (by decide) p2 p7
      refine ⟨F.tr (wl_mono F7 (by decide)), fun i hi => ?_, fun i j hj => ?_, fun i => (a2 i).trans (I4 i)⟩
      · rw [a1]
        by_cases q : i = 0
        · rw [if_pos ⟨q, rfl⟩, I2 0 (Or.inl rfl), q]
        · rw [if_neg (fun z => q z.1)]
          exact I1 i q (by omega)
      · rw [a1, if_neg (fun z => hj z.2)]; exact I3 i j hj
    · obtain ⟨a1, a2⟩ := one (u5.toNatClampNeg + 1) v11 σ16 (by omega) p11 p16
      have e1 : (u5 + Int32.ofInt 1).toInt = u5.toInt + 1 := i_inc p0 (by omega)
      have n6 := i_nat (a := u5 + Int32.ofInt 1) (by omega)
      have ek : (u5 + Int32.ofInt 1).toNatClampNeg = u5.toNatClampNeg + 1 := by omega
      refine IH _ _ σ' h (by omega) (by omega) (F.tr (wl_mono F16 (by decide))) (fun i hi hl => ?_) (fun i hi => ?_) (fun i j hj => ?_) (fun i => (a2 i).trans (I4 i))
      · rw [a1]
        by_cases q : i = u5.toNatClampNeg + 1
        · rw [if_pos ⟨q, rfl⟩, I2 _ (Or.inr (Nat.le_refl _)), q]
        · rw [if_neg (fun z => q z.1)]
          exact I1 i hi (by omega)
      · rw [a1, if_neg (fun z => by omega)]
        exact I2 i (by omega)
      · rw [a1, if_neg (fun z => hj z.2)]; exact I3 i j hj
theorem i_div {a b : Int32} (h0 : 0 ≤ a.toInt) (h1 : 1 ≤ b.toInt) : (a / b).toInt = a.toInt / b.toInt := by
  have hb := i_b a
  rw [Int32.toInt_div, Int.tdiv_eq_ediv_of_nonneg h0]
  have q0 : 0 ≤ a.toInt / b.toInt := Int.ediv_nonneg h0 (by omega)
  have q1 : a.toInt / b.toInt ≤ a.toInt := Int.ediv_le_self _ h0
  rw [Int.bmod_def]
  split <;> omega
theorem p117 {x1 x2 w : Int32} {σ : mS} (h : P117 σ x1 x2 w) (h1 : 1 ≤ x2.toInt) (h0 : 0 ≤ x1.toInt) : w.toInt = (if 1 ≤ x1.toInt / x2.toInt then x1.toInt / x2.toInt else 1) := by
  rcases h with ⟨_, rfl⟩ | ⟨z, _⟩
  · have e : (x1 / x2).toInt = x1.toInt / x2.toInt := i_div h0 h1
    have one := i_1
    rcases jmax_c (Int32.ofInt 1) (x1 / x2) with ⟨a, b⟩ | ⟨a, b⟩
    · rw [a, e]
      rw [if_pos (by omega)]
    · rw [a, one]
      by_cases q : 1 ≤ x1.toInt / x2.toInt
      · rw [if_pos q]; omega
      · rw [if_neg q]
  · omega
theorem g116 {σ σ' : mS} {a : Nat} {x : Int32} (h1 : 1 ≤ x.toInt) (h2 : 0 ≤ pv σ a 2 ∧ pv σ a 2 ≤ 9999) (p : P116 σ a x σ') : ∃ t0 t3 : Int32, (0 ≤ t0.toInt ∧ t0.toInt ≤ 9999) ∧ ∀ i j, m_i σ' 8 i j = if i = a ∧ j = 3 then t3 else if i = a ∧ j = 2 then t0 else if i = a ∧ j = 6 then m_i σ 8 a 6 * x else if i = a ∧ j = 5 then m_i σ 8 a 5 + Int32.ofInt 1 else m_i σ 8 i j := by
  obtain ⟨σ2, e2, σ5, e5, h⟩ := p
  have c5 : ∀ i j, m_i σ5 8 i j = if i = a ∧ j = 6 then m_i σ 8 a 6 * x else if i = a ∧ j = 5 then m_i σ 8 a 5 + Int32.ofInt 1 else m_i σ 8 i j := fun i j => by
    rw [e5, e2]; simp only [mi_si, true_and]; grind
  have j63 : ∀ {t : Int32} {τ τ' : mS}, J116_63 t (some (8, a)) τ τ' → ∀ i j, m_i τ' 8 i j = if i = a ∧ j = 3 then t else m_i τ 8 i j := by
    rintro t τ τ' ⟨i1, e1, σ4, e4, rfl⟩
    cases e1
    intro i j
    rw [e4, mi_si]; simp only [true_and]
  have j40 : ∀ {t : Int32} {τ τ' : mS}, J116_40 a x t a τ τ' → ∃ t3 : Int32, ∀ i j, m_i τ' 8 i j = if i = a ∧ j = 3 then t3 else if i = a ∧ j = 2 then t else m_i τ 8 i j := by
    rintro t τ τ' ⟨s2, e, ⟨_, v5, _, h⟩ | ⟨_, h⟩⟩
    · exact ⟨v5, fun i j => by rw [j63 h, e, mi_si]; simp only [true_and]⟩
    · exact ⟨Int32.ofInt 0, fun i j => by rw [j63 h, e, mi_si]; simp only [true_and]⟩
  have v2 : (m_i σ5 8 a 2).toInt = pv σ a 2 := by rw [c5, if_neg (fun z => by cases z.2), if_neg (fun z => by cases z.2)]
  rcases h with ⟨q, v8, p8, h⟩ | ⟨_, h⟩
  · obtain ⟨t3, h⟩ := j40 h
    refine ⟨v8, t3, ?_, fun i j => by rw [h, c5]⟩
    have e := p117 p8 h1 (by omega)
    have d0 : 0 ≤ (m_i σ5 8 a 2).toInt / x.toInt := Int.ediv_nonneg (by omega) (by omega)
    have d1 : (m_i σ5 8 a 2).toInt / x.toInt ≤ (m_i σ5 8 a 2).toInt := Int.ediv_le_self _ (by omega)
    rw [e]
    by_cases c : 1 ≤ (m_i σ5 8 a 2).toInt / x.toInt
    · rw [if_pos c]; omega
    · rw [if_neg c]; omega
  · obtain ⟨t3, h⟩ := j40 h
    exact ⟨_, t3, by rw [i_0]; omega, fun i j => by rw [h, c5]⟩
/-- an order's numbers behind a split -/
def so (x : Int) (σ σ' : mS) (o : Nat) : Prop := oi σ' o 4 = (if 1 ≤ oi σ o 4 / x then oi σ o 4 / x else 1) ∧ oi σ' o 5 = oi σ o 5 * x ∧ oi σ' o 6 = oi σ o 6 * x ∧ oi σ' o 7 = oi σ o 7 * x
theorem g107 {σ σ' : mS} {a : Nat} {x : Int32} (h1 : 1 ≤ x.toInt ∧ x.toInt ≤ 5) (h4 : 1 ≤ oi σ a 4) (h5 : 0 ≤ oi σ a 5 ∧ oi σ a 5 ≤ 1000000) (h6 : 0 ≤ oi σ a 6 ∧ oi σ a 6 ≤ 1000000) (h7 : 0 ≤ oi σ a 7 ∧ oi σ a 7 ≤ 1000000) (p : P107 σ a x σ') : so x.toInt σ σ' a ∧ (∀ o k, o ≠ a ∨ k < 4 ∨ 8 < k → m_i σ' 7 o k = m_i σ 7 o k) ∧ fw_e (wl [(7, 4), (7, 5), (7, 6), (7, 7), (7, 8)]) σ σ' := by
  obtain ⟨v1, p1, σ6, e6, v8, p8, σ13, e13, σ16, e16, σ19, e19, σ22, e22, rfl⟩ := p
  have c : ∀ o k, m_i σ' 7 o k = if o = a ∧ k = 7 then m_i σ 7 a 7 * x else if o = a ∧ k = 6 then m_i σ 7 a 6 * x else if o = a ∧ k = 5 then m_i σ 7 a 5 * x else if o = a ∧ k = 8 then v8 else if o = a ∧ k = 4 then v1 else m_i σ 7 o k := fun o k => by
    rw [e22, e19, e16, e13, e6]; simp only [mi_si, true_and]; grind
  have mu : ∀ {y : Int32}, 0 ≤ y.toInt → y.toInt ≤ 1000000 → (y * x).toInt = y.toInt * x.toInt := fun {y} a b => by
    have m0 : 0 ≤ y.toInt * x.toInt := Int.mul_nonneg a (by omega)
    have m1 : y.toInt * x.toInt ≤ 1000000 * 5 := Int.mul_le_mul b (by omega) (by omega) (by omega)
    exact i_mul (by omega) (by omega)
  refine ⟨⟨?_, ?_, ?_, ?_⟩, fun o k hk => ?_, ?_⟩
  · have e := p117 p1 h1.1 (by have : 1 ≤ (m_i σ 7 a 4).toInt := h4; omega)
    show (m_i σ' 7 a 4).toInt = _
    rw [c, if_neg (fun z => by cases z.2), if_neg (fun z => by cases z.2), if_neg (fun z => by cases z.2), if_neg (fun z => by cases z.2), if_pos ⟨rfl, rfl⟩]
    exact e
  · show (m_i σ' 7 a 5).toInt = _
    rw [c, if_neg (fun z => by cases z.2), if_neg (fun z => by cases z.2), if_pos ⟨rfl, rfl⟩]
    exact mu h5.1 h5.2
  · show (m_i σ' 7 a 6).toInt = _
    rw [c, if_neg (fun z => by cases z.2), if_pos ⟨rfl, rfl⟩]
    exact mu h6.1 h6.2
  · show (m_i σ' 7 a 7).toInt = _
    rw [c, if_pos ⟨rfl, rfl⟩]
    exact mu h7.1 h7.2
  · rw [c, if_neg (fun z => by omega), if_neg (fun z => by omega), if_neg (fun z => by omega), if_neg (fun z => by omega), if_neg (fun z => by omega)]
  · rw [e22, e19, e16, e13, e6]
    exact (((fw_e.tr (fw_set rfl) (fw_set rfl)).tr (fw_set rfl)).tr (fw_set rfl)).tr (fw_set rfl)
/-- all orders of a paper -/
theorem q15_s {N : Nat} {c1 c2 : Int32} {β : mS} (hn : hN β N) (h2 : 1 ≤ c2.toInt ∧ c2.toInt ≤ 5) (hb : ∀ o, o < N → 1 ≤ oi β o 4 ∧ (0 ≤ oi β o 5 ∧ oi β o 5 ≤ 1000000) ∧ (0 ≤ oi β o 6 ∧ oi β o 6 ≤ 1000000) ∧ (0 ≤ oi β o 7 ∧ oi β o 7 ≤ 1000000)) : ∀ n (u3 : Int32) (τ σ' : mS), Q15_2 c1 c2 n u3 τ σ' → 0 ≤ u3.toInt → u3.toInt ≤ N → fw_e (wl [(7, 4), (7, 5), (7, 6), (7, 7), (7, 8)]) β τ → (∀ o, o < N → o < u3.toNatClampNeg → oi β o 2 = c1.toInt → so c2.toInt β τ o) → (∀ o k, (o < N → oi β o 2 = c1.toInt → u3.toNatClampNeg ≤ o) → m_i τ 7 o k = m_i β 7 o k) → fw_e (wl [(7, 4), (7, 5), (7, 6), (7, 7), (7, 8)]) β σ' ∧ (∀ o, o < N → oi β o 2 = c1.toInt → so c2.toInt β σ' o) ∧ (∀ o k, o < N → oi β o 2 ≠ c1.toInt → m_i σ' 7 o k = m_i β 7 o k) := by
  intro n
  induction n with
  | zero => intro u3 τ σ' h; exact h.elim
  | succ n IH =>
    intro u3 τ σ' h p0 pN F I1 I2
    have h : B15_2 c1 c2 (Q15_2 c1 c2 n) u3 τ σ' := h
    have hN1 := hn.1
    have hN2 := hn.2
    have n3 := i_nat p0
    have eN : (m_i τ 0 0 1).toInt = N := by rw [(F.2 0 0 1 rfl).1]; exact hN1
    have fin : (N : Int) ≤ u3.toInt → fw_e (wl [(7, 4), (7, 5), (7, 6), (7, 7), (7, 8)]) β τ ∧ (∀ o, o < N → oi β o 2 = c1.toInt → so c2.toInt β τ o) ∧ (∀ o k, o < N → oi β o 2 ≠ c1.toInt → m_i τ 7 o k = m_i β 7 o k) := fun hh => ⟨F, fun o ho z => I1 o ho (by omega) z, fun o k ho z => I2 o k (fun _ y => absurd y z)⟩
    rcases h with ⟨hh, rfl⟩ | ⟨_, ⟨hh, rfl⟩ | ⟨_, hr, h⟩⟩
    · exact fin (by omega)
    · exact fin (by omega)
    have e1 : (u3 + Int32.ofInt 1).toInt = u3.toInt + 1 := i_inc p0 (by omega)
    have n4 := i_nat (a := u3 + Int32.ofInt 1) (by omega)
    have o2 : ∀ o, oi τ o 2 = oi β o 2 := fun o => congrArg Int32.toInt (F.2 7 o 2 rfl).1
    rcases h with ⟨hne, h⟩ | ⟨heq, _, σ7, _, p7, h⟩
    · have hne' : oi β u3.toNatClampNeg 2 ≠ c1.toInt := by rw [← o2]; exact hne
      refine IH _ _ _ h (by omega) (by omega) F (fun o ho hl z => ?_) (fun o k z => I2 o k (fun a b => by have := z a b; omega))
      by_cases q : o = u3.toNatClampNeg
      · rw [q] at z; exact absurd z hne'
      · exact I1 o ho (by omega) z
    · have same : ∀ k, m_i τ 7 u3.toNatClampNeg k = m_i β 7 u3.toNatClampNeg k := fun k => I2 _ k (fun _ _ => Nat.le_refl _)
      have so_of : ∀ k, oi τ u3.toNatClampNeg k = oi β u3.toNatClampNeg k := fun k => congrArg Int32.toInt (same k)
      have hlt : u3.toNatClampNeg < N := by omega
      obtain ⟨b4, b5, b6, b7⟩ := hb _ hlt
      obtain ⟨G1, G2, G3⟩ := g107 h2 (by rw [so_of]; exact b4) (by rw [so_of]; exact b5) (by rw [so_of]; exact b6) (by rw [so_of]; exact b7) p7
      refine IH _ _ _ h (by omega) (by omega) (F.tr G3) (fun o ho hl z => ?_) (fun o k z => ?_)
      · by_cases q : o = u3.toNatClampNeg
        · rw [q]
          unfold so at G1 ⊢
          rw [so_of, so_of, so_of, so_of] at G1
          exact G1
        · have := I1 o ho (by omega) z
          have e : ∀ k, oi σ7 o k = oi τ o k := fun k => congrArg Int32.toInt (G2 o k (Or.inl q))
          unfold so at this ⊢
          rw [e, e, e, e]
          exact this
      · by_cases q : o = u3.toNatClampNeg
        · have : oi β o 2 = c1.toInt := by rw [q, ← o2]; exact Decidable.of_not_not heq
          have := z (by omega) this
          omega
        · rw [G2 o k (Or.inl q)]
          exact I2 o k (fun a b => by have := z a b; omega)
