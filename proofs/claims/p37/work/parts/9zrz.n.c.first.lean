/-! a new hall holds all that is held between calls -/
/-- a hall's own things -/
def lmh (c : Nat) : Nat := match c with
  | 13 => 14
  | 14 => 6
  | c => lm c
theorem lmh_lm {c j : Nat} (h : j < lmh c) : j < lm c := by
  unfold lmh at h
  split at h
  · exact Nat.lt_trans h (by decide)
  · exact Nat.lt_trans h (by decide)
  · exact h
section HXL
theorem l0_6 {m : Nat} (h : m < 6) : 0 + m < lmh 6 := by show 0 + m < 6; omega
theorem l0_7 {m : Nat} (h : m < 120) : 0 + m < lmh 7 := by show 0 + m < 120; omega
theorem l0_8 {m : Nat} (h : m < 3) : 0 + m < lmh 8 := by show 0 + m < 3; omega
theorem l0_13 {m : Nat} (h : m < 4) : 0 + m < lmh 13 := by show 0 + m < 14; omega
theorem l0_14 {m : Nat} (h : m < 6) : 0 + m < lmh 14 := by show 0 + m < 6; omega
theorem hxs_lm {τ τ' : mS} (h : hxs (fun _ => 0) τ) (hm : ∀ c j k, c ≠ 11 → j < lmh c → m_get τ' c j k = m_get τ c j k) (hl : ∀ c j, 13 ≤ c → j < lmh c → τ'.2.1 c j = τ.2.1 c j) : hxs (fun _ => 0) τ' := by
  obtain ⟨⟨h1, h2⟩, h3, h4, ⟨h5, h6⟩, h7, ⟨x1, x2, x3, x4, x5⟩, y, u, v, r, t, ⟨l1, l2, l3, l4, l5, l6⟩⟩ := h
  unfold hxs cl_X
  have A : ∀ {c j k : Nat} {x : mV}, m_get τ c j k = x → c ≠ 11 → j < lmh c → m_get τ' c j k = x := fun e a b => (hm _ _ _ a b).trans e
  have Q : ∀ {c j l : Nat}, τ.2.1 c j = l → 13 ≤ c → j < lmh c → τ'.2.1 c j = l := fun e a b => (hl _ _ a b).trans e
  refine ⟨⟨A h1 (by decide) (by decide), fun f hf => A (h2 f hf) (by decide) (by decide)⟩, Q h3 (by decide) (by decide), fun k hk => ⟨A (h4 k hk).1 (by decide) (by decide), A (h4 k hk).2 (by decide) (l0_7 hk)⟩, ⟨A h5 (by decide) (by decide), A h6 (by decide) (by decide)⟩, fun f hf => A (h7 f hf) (by decide) (by decide), ⟨A x1 (by decide) (by decide), A x2 (by decide) (by decide), A x3 (by decide) (by decide), A x4 (by decide) (by decide), A x5 (by decide) (by decide)⟩, fun m hm' => ?_, fun k hk => A (u k hk) (by decide) (by decide), fun k hk => ?_, fun k hk => A (r k hk) (by decide) (by decide), fun k hk => A (t k hk) (by decide) (by decide), ⟨Q l1 (by decide) (by decide), Q l2 (by decide) (by decide), Q l3 (by decide) (by decide), Q l4 (by decide) (by decide), fun k hk => Q (l5 k hk) (by decide) (l0_13 hk), fun m hm' => Q (l6 m hm') (by decide) (l0_14 hm')⟩⟩
  · obtain ⟨a, b, d, e⟩ := y m hm'
    exact ⟨A a (by decide) (l0_6 hm'), A b (by decide) (l0_6 hm'), fun f f0 f1 => A (d f f0 f1) (by decide) (l0_6 hm'), fun f hf => A (e f hf) (by decide) (l0_14 hm')⟩
  · obtain ⟨a, b, d, e⟩ := v k hk
    exact ⟨A a (by decide) (by decide), A b (by decide) (l0_8 hk), A d (by decide) (l0_8 hk), fun f f0 f1 => A (e f f0 f1) (by decide) (l0_8 hk)⟩
end HXL
theorem NH_S {σ τ ρ : mS} (h : NHp σ τ) (ha : ∀ c j k, ¬ (c = 11 ∧ k = 2) → j < lmh c → m_get ρ c j k = m_get τ c j k) (hl : ∀ c j, 13 ≤ c → j < lmh c → ρ.2.1 c j = τ.2.1 c j) : S 1 0 0 (0, fun i j => m_i ρ 13 i j) ρ ∧ (tc ρ = 0 ∧ m_i ρ 2 0 6 = 0 ∧ nF ρ = 0 ∧ sm ρ = 0 ∧ (∀ j, j < 3 → ps ρ j = 0) ∧ ∀ i, i < 3 → pv ρ i 5 = 0) := by
  obtain ⟨hX, ⟨t1, t2, _⟩, _, s4, z35, s5, ⟨_, ⟨f0, f1, f2, f3, f4, f5⟩, ⟨a0, a1⟩, ⟨r0, r1, r2, r3⟩, ⟨v00, v01, v02, v10, v11, v12, v20, v21, v22, v30, v31, v32⟩, ⟨l19, l4, l5, l6, l7, l8, l9, l10, l11, l12, l13⟩, _, _⟩, gs, ls⟩ := h
  have g : ∀ {c j k : Nat} {x : mV}, m_get s5 c j k = x → c ≠ 11 → j < lmh c → True → m_get ρ c j k = x := fun e a b _ => (ha _ _ _ (fun z => a z.1) b).trans ((gs _ _ _ a).trans e)
  have L : ∀ {c j l : Nat}, s5.2.1 c j = l → 13 ≤ c → j < lmh c → ρ.2.1 c j = l := fun e b a => (hl _ _ b a).trans ((congrFun (congrFun ls _) _).trans e)
  have hR := hxs_lm (τ' := ρ) hX (fun c j k a b => ha c j k (fun z => a z.1) b) hl
  have g11 : m_get ρ 11 0 0 = rf 4 0 := (ha _ _ _ (by decide) (by decide)).trans t1
  have g12 : m_get ρ 11 0 1 = rf 3 0 := (ha _ _ _ (by decide) (by decide)).trans t2
  replace f0 := g f0 (by decide) (by decide) (by decide)
  replace f1 := g f1 (by decide) (by decide) (by decide)
  replace f2 := g f2 (by decide) (by decide) (by decide)
  replace f3 := g f3 (by decide) (by decide) (by decide)
  replace f4 := g f4 (by decide) (by decide) (by decide)
  replace f5 := (g f5 (by decide) (by decide) (by decide)).trans z35
  replace a0 := g a0 (by decide) (by decide) (by decide)
  replace a1 := g a1 (by decide) (by decide) (by decide)
  replace r0 := g r0 (by decide) (by decide) (by decide)
  replace r1 := g r1 (by decide) (by decide) (by decide)
  replace r2 := g r2 (by decide) (by decide) (by decide)
  replace r3 := g r3 (by decide) (by decide) (by decide)
  replace v00 := g v00 (by decide) (by decide) (by decide)
  replace v01 := g v01 (by decide) (by decide) (by decide)
  replace v02 := g v02 (by decide) (by decide) (by decide)
  replace v10 := g v10 (by decide) (by decide) (by decide)
  replace v11 := g v11 (by decide) (by decide) (by decide)
  replace v12 := g v12 (by decide) (by decide) (by decide)
  replace v20 := g v20 (by decide) (by decide) (by decide)
  replace v21 := g v21 (by decide) (by decide) (by decide)
  replace v22 := g v22 (by decide) (by decide) (by decide)
  replace v30 := g v30 (by decide) (by decide) (by decide)
  replace v31 := g v31 (by decide) (by decide) (by decide)
  replace v32 := g v32 (by decide) (by decide) (by decide)
  obtain ⟨⟨b0, b0z⟩, b17, bO, ⟨b4, b4'⟩, b2, ⟨x0, x1, x2, x3, x4⟩, y6, y16, y18, y20, y21, ⟨k16, k18, k20, k21, k13, k14⟩⟩ := hR
  simp only [Nat.zero_add] at bO y6 y16 y18 y20 y21 k13 k14
  have hs : HS ρ := by
    refine ⟨⟨b0, x0, x1, x2, x3, x4, f0, f1, f2, b4, b4', g11, g12⟩, ⟨fun k hk => (y16 k hk).trans (by rw [Nat.add_comm]), fun k hk => (bO k hk).1, fun k hk => (y18 k hk).1, fun k hk => ?_, y20, y21⟩, ⟨k16, b17, k18, L l19 (by decide) (by decide), k20, k21, L l4 (by decide) (by decide), L l5 (by decide) (by decide), k13, k14, fun k hk => ?_⟩, ⟨fun k hk => (y6 k hk).2.1, ?_, fun k hk => ?_, fun k hk => (bO k hk).2, fun k hk => (y18 k hk).2.1, fun k hk => ?_, fun k hk => ?_, fun k hk => ?_⟩⟩
    · have : k = 0 ∨ k = 1 := by omega
      rcases this with rfl | rfl
      · exact a0
      · exact a1
    · have : k = 0 ∨ k = 1 ∨ k = 2 ∨ k = 3 := by omega
      rcases this with rfl | rfl | rfl | rfl
      · exact ⟨L l6 (by decide) (by decide), L l7 (by decide) (by decide)⟩
      · exact ⟨L l8 (by decide) (by decide), L l9 (by decide) (by decide)⟩
      · exact ⟨L l10 (by decide) (by decide), L l11 (by decide) (by decide)⟩
      · exact ⟨L l12 (by decide) (by decide), L l13 (by decide) (by decide)⟩
    · have := (y6 0 (by decide)).1
      rw [if_pos rfl] at this
      exact this
    · have := (y6 (k + 1) (by omega)).1
      rw [if_neg (by omega)] at this
      exact this
    · have : k = 0 ∨ k = 1 := by omega
      rcases this with rfl | rfl
      · exact r0
      · exact r2
    · have : k = 0 ∨ k = 1 ∨ k = 2 ∨ k = 3 := by omega
      rcases this with rfl | rfl | rfl | rfl
      · exact v00
      · exact v10
      · exact v20
      · exact v30
    · have : k = 0 ∨ k = 1 ∨ k = 2 ∨ k = 3 := by omega
      rcases this with rfl | rfl | rfl | rfl
      · exact v01
      · exact v11
      · exact v21
      · exact v31
  have J : ∀ {a b : Int32}, (Sum.inl a : mV) = .inl b → a = b := fun e => Sum.inl.inj e
  have JL : ∀ {a b : Int64}, (Sum.inr (Sum.inl a) : mV) = .inr (.inl b) → a = b := fun e => Sum.inl.inj (Sum.inr.inj e)
  have JR : ∀ {a b : mR}, (Sum.inr (Sum.inr a) : mV) = .inr (.inr b) → a = b := fun e => Sum.inr.inj (Sum.inr.inj e)
  have i01 : m_i ρ 0 0 1 = 0 := J (b0z 1 (by decide))
  have i25 : m_i ρ 2 0 5 = 0 := J (b2 5 (by decide))
  have i26 : m_i ρ 2 0 6 = 0 := J (b2 6 (by decide))
  have i28 : m_i ρ 2 0 8 = 0 := J (b2 8 (by decide))
  have r29 : m_r ρ 2 0 9 = none := JR (b2 9 (by decide))
  have l210 : m_l ρ 2 0 10 = 0 := JL (b2 10 (by decide))
  have i66 : ∀ m, m < 6 → m_i ρ 6 m 6 = 0 := fun m hm => J ((y6 m hm).2.2.1 6 (by decide) (by decide))
  have i67 : ∀ m, m < 6 → m_i ρ 6 m 7 = 0 := fun m hm => J ((y6 m hm).2.2.1 7 (by decide) (by decide))
  have i69 : ∀ m, m < 6 → m_i ρ 6 m 9 = 0 := fun m hm => J ((y6 m hm).2.2.1 9 (by decide) (by decide))
  have i610 : ∀ m, m < 6 → m_i ρ 6 m 10 = 0 := fun m hm => J ((y6 m hm).2.2.1 10 (by decide) (by decide))
  have l62 : ∀ m, m < 6 → m_l ρ 6 m 2 = 0 := fun m hm => JL ((y6 m hm).2.2.1 2 (by decide) (by decide))
  have l63 : ∀ m, m < 6 → m_l ρ 6 m 3 = 0 := fun m hm => JL ((y6 m hm).2.2.1 3 (by decide) (by decide))
  have l64 : ∀ m, m < 6 → m_l ρ 6 m 4 = 0 := fun m hm => JL ((y6 m hm).2.2.1 4 (by decide) (by decide))
  have p14 : ∀ m j, m < 6 → j < 3 → m_l ρ 14 m j = 0 := fun m j hm hj => JL ((y6 m hm).2.2.2 j hj)
  have i8 : ∀ i, i < 3 → m_i ρ 8 i 1 = 0 ∧ m_i ρ 8 i 2 = 0 ∧ m_i ρ 8 i 4 = 0 ∧ m_i ρ 8 i 5 = 0 ∧ m_i ρ 8 i 6 = 1 ∧ m_i ρ 8 i 7 = 0 ∧ m_l ρ 8 i 8 = 0 := fun i hi => ⟨J ((y18 i hi).2.2.2 1 (by decide) (by decide)), J ((y18 i hi).2.2.2 2 (by decide) (by decide)), J ((y18 i hi).2.2.2 4 (by decide) (by decide)), J ((y18 i hi).2.2.2 5 (by decide) (by decide)), J (y18 i hi).2.2.1, J ((y18 i hi).2.2.2 7 (by decide) (by decide)), JL ((y18 i hi).2.2.2 8 (by decide) (by decide))⟩
  have z32 : (0 : Int32).toInt = 0 := rfl
  have o32 : (1 : Int32).toInt = 1 := rfl
  have z64 : (0 : Int64).toInt = 0 := rfl
  have ia0 : ia 0 = 0 := rfl
  have nF0 : nF ρ = 0 := by
    unfold nF mi6
    rw [i69 1 (by decide), i69 2 (by decide), i69 3 (by decide), i69 4 (by decide), i69 5 (by decide)]
    rfl
  have nS0 : nSt ρ = 0 := by
    unfold nSt mi6
    rw [i610 1 (by decide), i610 2 (by decide), i610 3 (by decide), i610 4 (by decide), i610 5 (by decide)]
    rfl
  have tc0 : tc ρ = 0 := by
    show (m_i ρ 2 0 5).toInt = 0
    rw [i25]; rfl
  refine ⟨?_, tc0, i26, nF0, ?_, fun j hj => ?_, fun i hi => ?_⟩
  rotate_left
  · unfold sm
    rw [l62 0 (by decide), l62 1 (by decide), l62 2 (by decide), l62 3 (by decide), l62 4 (by decide), l62 5 (by decide), l63 1 (by decide), l63 2 (by decide), l63 3 (by decide), l63 4 (by decide), l63 5 (by decide), l64 0 (by decide), l64 1 (by decide), l64 2 (by decide), l64 3 (by decide), l64 4 (by decide), l64 5 (by decide)]
    decide
  · unfold ps
    rw [p14 0 j (by decide) hj, p14 1 j (by decide) hj, p14 2 j (by decide) hj, p14 3 j (by decide) hj, p14 4 j (by decide) hj, p14 5 j (by decide) hj]
    decide
  · unfold pv
    rw [(i8 i hi).2.2.2.1]
    rfl
  refine ⟨⟨hs, ⟨by rw [i01]; rfl, by decide⟩, fun o ho => absurd ho (Nat.not_lt_zero o), ?_, fun i hi => ?_, by rw [i26]; decide, by rw [i26]; decide⟩, ?_⟩
  · rw [nF0]
    refine ⟨⟨by decide, by decide⟩, ⟨⟨by rw [i25]; decide, by rw [i25]; decide⟩, fun t ht => ?_⟩, fun i hi => ?_, fun m h1 h6 => ?_, Or.inl ⟨r29, fun m h1 h6 e => ?_⟩, by rw [i28, nF0]; rfl, ?_⟩
    · rw [i25] at ht
      rw [z32] at ht
      omega
    · obtain ⟨c1, c2, c4, c5, c6, c7, c8⟩ := i8 i hi
      unfold pv
      rw [c1, c2, c4, c5, c6]
      decide
    · unfold fl1 mi6 pI
      rw [i67 m h6, i69 m h6, i610 m h6, l63 m h6]
      exact ⟨Or.inl rfl, Or.inl rfl, Or.inl rfl, (fun z => absurd z (by decide)), (fun z => absurd z (by decide)), (fun z => absurd z (by decide)), (fun _ => rfl)⟩
    · unfold mi6 at e
      rw [i69 m h6] at e
      cases e
    · refine ⟨fun j hj => ?_, ?_, fun i hi => ?_, ?_, fun m hm => ?_, fun m h1 h6 => ?_, ?_, fun t ht => ?_, fun m h1 h6 => ?_⟩
      · unfold SP pI pv
        rw [p14 0 j (by decide) hj, p14 1 j (by decide) hj, p14 2 j (by decide) hj, p14 3 j (by decide) hj, p14 4 j (by decide) hj, p14 5 j (by decide) hj, (i8 j hj).2.2.2.2.1, tc0]
        decide
      · unfold CS cI
        rw [l62 0 (by decide), l62 1 (by decide), l62 2 (by decide), l62 3 (by decide), l62 4 (by decide), l62 5 (by decide), tc0]
        decide
      · rw [(i8 i hi).2.2.2.2.2.2]
        decide
      · unfold cc
        rw [l210, (i8 0 (by decide)).2.2.2.2.2.2, (i8 1 (by decide)).2.2.2.2.2.2, (i8 2 (by decide)).2.2.2.2.2.2]
        decide
      · rw [l64 m hm]
        decide
      · rw [l63 m h6]
        decide
      · rw [l63 0 (by decide), nS0]
        decide
      · rw [tc0] at ht
        omega
      · unfold mi6
        rw [i66 m h6]
        decide
  · show (m_i ρ 8 i 7).toInt = 0
    rw [(i8 i hi).2.2.2.2.2.1]
    rfl
  · have tb0 : ∀ a, m_i ρ 5 a 2 = 0 → tb ρ a 0 := fun a e => ⟨⟨by rw [e]; rfl, by decide⟩, fun i j _ hj => absurd hj (Nat.not_lt_zero j), fun i hi => absurd hi (Nat.not_lt_zero i)⟩
    have q0 : m_i ρ 5 0 2 = 0 := J v02
    have q1 : m_i ρ 5 1 2 = 0 := J v12
    have q2 : m_i ρ 5 2 2 = 0 := J v22
    have q3 : m_i ρ 5 3 2 = 0 := J v32
    have w0 : m_i ρ 9 0 1 = 0 := J r1
    have w1 : m_i ρ 9 1 1 = 0 := J r3
    have w3 : m_i ρ 3 0 5 = 0 := J f5
    have m3 : m_r ρ 3 0 3 = some (5, 0) := JR f3
    have m4 : m_r ρ 3 0 4 = some (5, 1) := JR f4
    refine ⟨0, 1, 0, fun _ => 0, fun _ => 0, 0, 0, 0, ⟨Or.inl ⟨rfl, rfl⟩, m3, m4, tb0 1 q1, by decide, fun i hi => absurd hi (Nat.not_lt_zero i), by rw [q0]; decide⟩, ⟨by rw [w3]; rfl, fun j hj => absurd hj (Nat.not_lt_zero j)⟩, fun j hj => absurd hj (Nat.not_lt_zero j), ⟨tb0 2 q2, fun i hi => absurd hi (Nat.not_lt_zero i), by rw [w0]; rfl⟩, fun k _ v hv => ?_, ⟨tb0 3 q3, fun i hi => absurd hi (Nat.not_lt_zero i), by rw [w1]; rfl⟩, Nat.le_refl _, Nat.zero_le _, fun i j _ => rfl⟩
    rcases hv with ⟨i, hi, _⟩ | ⟨_, hv⟩
    · exact absurd hi (Nat.not_lt_zero i)
    · exact Or.inr ⟨fun i hi => absurd hi (Nat.not_lt_zero i), hv⟩
theorem LI_0 {k : Kt} {ρ : mS} (gh : gH ρ) (a17 : ∀ b, b < 8 → m_i ρ 13 17 b = 0) (t0 : m_l ρ 14 6 0 = 0) (f : tc ρ = 0 ∧ m_i ρ 2 0 6 = 0 ∧ nF ρ = 0 ∧ sm ρ = 0 ∧ (∀ j, j < 3 → ps ρ j = 0) ∧ ∀ i, i < 3 → pv ρ i 5 = 0) : LI 0 k (tc ρ) 0 ρ := by
  obtain ⟨f1, f2, f3, f4, f5, f6⟩ := f
  refine ⟨gh, ?_, by decide, fun o ho => absurd ho (Nat.not_lt_zero o), ?_, ?_, fun i hi => ?_, ?_, f5, fun o ho => absurd ho (Nat.not_lt_zero o), ?_, fun s j hs hj => ?_, fun o ho => absurd ho (Nat.not_lt_zero o)⟩
  · rw [a17 0 (by decide)]; rfl
  · rw [a17 3 (by decide), f1]; rfl
  · rw [a17 4 (by decide), f3]; decide
  · rw [a17 (5 + i) (by omega), f6 i hi]; rfl
  · rw [t0, f4]; decide
  · rw [a17 1 (by decide), f2]
  · rw [f2] at hs
    have : (0 : Int32).toInt = 0 := rfl
    rw [this] at hs
    omega
