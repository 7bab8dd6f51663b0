/-! the face: a stop, a spread -/
def R127 (n : Int) (N c : Nat) (k : Kt) (σ : mS) (x1 x2 x3 x4 x5 : Int32) (w : mX) (σ' : mS) : Prop := ∃ v : Int64, w = .inl (some (.inl v.toInt32)) ∧ v.toInt = N ∧ D n (N + 1) c k σ' ∧ fw_e (wl (LR ++ LD)) σ σ' ∧ kT σ σ' ∧ (∀ o k, o < N → k = 1 ∨ k = 2 ∨ k = 3 ∨ k = 4 → m_i σ' 7 o k = m_i σ 7 o k) ∧ mO N σ σ' ∧ (m_i σ' 7 N 1 = x1 ∧ m_i σ' 7 N 2 = x2 ∧ m_i σ' 7 N 3 = x3 ∧ m_i σ' 7 N 4 = x4) ∧ oi σ' N 6 = x5.toInt ∧ oi σ' N 9 = 2 ∧ tc σ' = tc σ
def B127 (x3 x4 x5 x6 : Int32) : Prop := sd x3 ∧ pr x4 ∧ qy x5 ∧ pr x6
def C127 (σ : mS) (N : Nat) (x1 : Int32) : Prop := nfl σ x1 ∧ N < 120
theorem s127_81 {n : Int} {N c : Nat} {k : Kt} {x1 x2 x3 x4 x5 x6 t0 : Int32} {w : mX} {σ σ' : mS} (h : S n N c k σ) (hc : c ≤ 900000) (g : t0.toInt ≠ 0 → mb x1 ∧ ik x2 ∧ B127 x3 x4 x5 x6 ∧ C127 σ N x1) (p : J127_81 x1 x2 x3 x4 x5 x6 t0 σ w σ') : (t0.toInt = 0 ∧ w = .inr 2 ∧ σ' = σ) ∨ (t0.toInt ≠ 0 ∧ R127 n N c k σ x1 x2 x3 x4 x5 w σ') := by
  rcases c2 p with ⟨t1, σ5, e5, σ8, _, p18, v11, σ12, _, p19, v15, σ16, F16, p61, v19, σ20, F20, p158', hw, rfl⟩ | y
  · right
    subst e5
    obtain ⟨a1, a2, ⟨a3, a4, a5, a6⟩, a7, a8⟩ := g t1
    obtain ⟨e1, g1, g3, ⟨b0, b1, b2, b3⟩, b4, b5, b6, b7⟩ := mkk h p18 p19
    subst e1
    have k0' : (m_i σ12 1 (σ.1 1) 0).toInt = 3 := by rw [b0]; decide
    have nf : nfl σ12 (m_i σ12 1 (σ.1 1) 1) := by
      rw [b1]
      show (m_i σ12 6 _ 9).toInt = 0
      rw [(g3.2 6 _ 9 rfl).1]; exact a7
    have sa : sO σ σ12 := sO_of g3 rfl
    refine ⟨t1, v19, hw, ?_⟩
    obtain ⟨⟨w1, H, R, KT, old, m, new, le⟩, w2, w3, w4, w5⟩ := k3 g1.1 k0' a8 (by rw [b1]; exact a1) (by rw [b2]; exact a2) (by rw [b3]; exact a3) (by rw [b4]; exact a4) (by rw [b5]; exact a5) nf p61
    have FR := RT_fw R
    have f16 := FY_fw g1.2 FR rfl
    obtain ⟨r1, r2, r3⟩ := p158 H f16 hc F20 p158'
    have sb : sO σ16 σ' := sO_of F20 rfl
    rcases r3 with ⟨_, z, _⟩ | r3
    · rw [w1] at z
      omega
    rw [b1, b2, b3, b4] at new
    rw [b5] at w2
    have ek : ∀ o k, k < 12 → oi σ' o k = oi σ16 o k := fun o k hk => congrArg Int32.toInt (sb.1 o k hk)
    rw [← ek _ _ (by decide)] at w2 w3
    refine ⟨by rw [r1]; exact w1, ⟨r2, r3⟩, ((wl_mono (wn_l g3) (by decide)).tr (wl_mono FR (by decide))).tr (wl_mono F20 (by decide)), ((kT_fw g3 rfl).tr KT).tr (kT_fw F20 rfl), fun o k ho hk => ?_, (sa.mO.tr m).tr sb.mO, ?_, w2, w3, by show (m_i σ' 2 0 5).toInt = _; rw [(F20.2 2 0 5 rfl).1, w5, (g3.2 2 0 5 rfl).1]⟩
    · rw [sb.1 o k (by omega), old o k ho hk, sa.1 o k (by omega)]
    · rw [sb.1 _ _ (by decide), sb.1 _ _ (by decide), sb.1 _ _ (by decide), sb.1 _ _ (by decide)]
      exact new
  · exact Or.inl y
theorem s127_46 {n : Int} {N c : Nat} {k : Kt} {x1 x2 x3 x4 x5 x6 t0 : Int32} {w : mX} {σ σ' : mS} (h : S n N c k σ) (hc : c ≤ 900000) (h1 : mb x1) (h2 : ik x2) (g : t0.toInt ≠ 0 → B127 x3 x4 x5 x6) (p : J127_46 x1 x2 x3 x4 x5 x6 t0 σ w σ') : (t0.toInt = 0 ∧ w = .inr 1 ∧ σ' = σ) ∨ (t0.toInt ≠ 0 ∧ ((¬ C127 σ N x1 ∧ w = .inr 2 ∧ σ' = σ) ∨ (C127 σ N x1 ∧ R127 n N c k σ x1 x2 x3 x4 x5 w σ'))) := by
  have z0 := i_0
  have z1 := i_1
  rcases c1 p with ⟨t1, v5, p5, p⟩ | ⟨t1, y⟩
  · have B := g t1
    have no : (¬ C127 σ N x1) → J127_80 x1 x2 x3 x4 x5 x6 σ w σ' → (t0.toInt ≠ 0 ∧ ((¬ C127 σ N x1 ∧ w = .inr 2 ∧ σ' = σ) ∨ (C127 σ N x1 ∧ R127 n N c k σ x1 x2 x3 x4 x5 w σ'))) := fun u q => by
      rcases s127_81 h hc (fun z => absurd z0 z) q with ⟨_, y⟩ | ⟨z, _⟩
      · exact ⟨t1, Or.inl ⟨u, y⟩⟩
      · exact absurd z0 z
    right
    rcases p with ⟨e, q⟩ | ⟨e, v10, p10, ⟨e10, q⟩ | ⟨e10, q⟩⟩
    · rcases p26 p5 h1 with ⟨a, _⟩ | ⟨_, b⟩
      · exact absurd a e
      · exact no (fun z => b z.1) q
    · rcases p2' h.1.2.1 p10 with ⟨_, b⟩ | ⟨a, _⟩
      · exact no (fun z => by have := z.2; omega) q
      · exact absurd e10 a
    · rcases p2' h.1.2.1 p10 with ⟨a, _⟩ | ⟨_, b⟩
      · exact absurd a e10
      · rcases p26 p5 h1 with ⟨_, nf⟩ | ⟨a, _⟩
        · refine ⟨t1, ?_⟩
          rcases s127_81 h hc (fun _ => ⟨h1, h2, B, nf, b⟩) q with ⟨u, y⟩ | ⟨_, y⟩
          · rw [z1] at u; cases u
          · exact Or.inr ⟨⟨nf, b⟩, y⟩
        · exact absurd (Decidable.of_not_not e) a
  · exact Or.inl ⟨t1, y⟩
theorem s127_19 {n : Int} {N c : Nat} {k : Kt} {x1 x2 x3 x4 x5 x6 t0 : Int32} {w : mX} {σ σ' : mS} (h : S n N c k σ) (hc : c ≤ 900000) (g : t0.toInt ≠ 0 → mb x1 ∧ ik x2) (p : J127_19 x1 x2 x3 x4 x5 x6 t0 σ w σ') : (t0.toInt = 0 ∧ w = .inr 0 ∧ σ' = σ) ∨ (t0.toInt ≠ 0 ∧ ((¬ B127 x3 x4 x5 x6 ∧ w = .inr 1 ∧ σ' = σ) ∨ (B127 x3 x4 x5 x6 ∧ ((¬ C127 σ N x1 ∧ w = .inr 2 ∧ σ' = σ) ∨ (C127 σ N x1 ∧ R127 n N c k σ x1 x2 x3 x4 x5 w σ'))))) := by
  have z0 := i_0
  have z1 := i_1
  rcases c0 p with ⟨t1, v5, p5, p⟩ | ⟨t1, y⟩
  · obtain ⟨h1, h2⟩ := g t1
    refine Or.inr ⟨t1, ?_⟩
    have no : (¬ B127 x3 x4 x5 x6) → J127_45 x1 x2 x3 x4 x5 x6 σ w σ' → ((¬ B127 x3 x4 x5 x6 ∧ w = .inr 1 ∧ σ' = σ) ∨ (B127 x3 x4 x5 x6 ∧ ((¬ C127 σ N x1 ∧ w = .inr 2 ∧ σ' = σ) ∨ (C127 σ N x1 ∧ R127 n N c k σ x1 x2 x3 x4 x5 w σ')))) := fun u q => by
      rcases s127_46 h hc h1 h2 (fun z => absurd z0 z) q with ⟨_, y⟩ | ⟨z, _⟩
      · exact Or.inl ⟨u, y⟩
      · exact absurd z0 z
    rcases p with ⟨e, q⟩ | ⟨e, v10, p10, ⟨e10, q⟩ | ⟨e10, q⟩⟩
    · rcases p170 p5 with ⟨_, b⟩ | ⟨a, _⟩
      · exact no (fun z => b ⟨z.1, z.2.1, z.2.2.1⟩) q
      · exact absurd e a
    · rcases p168 p10 with ⟨_, b⟩ | ⟨a, _⟩
      · exact no (fun z => b z.2.2.2) q
      · exact absurd e10 a
    · rcases p170 p5 with ⟨a, _⟩ | ⟨_, b⟩
      · exact absurd a e
      rcases p168 p10 with ⟨a, _⟩ | ⟨_, b2⟩
      · exact absurd a e10
      have B : B127 x3 x4 x5 x6 := ⟨b.1, b.2.1, b.2.2, b2⟩
      rcases s127_46 h hc h1 h2 (fun _ => B) q with ⟨z, _⟩ | ⟨_, y⟩
      · rw [z1] at z; cases z
      · exact Or.inr ⟨B, y⟩
  · exact Or.inl ⟨t1, y⟩
theorem a127 {n : Int} {N c : Nat} {k : Kt} {x1 x2 x3 x4 x5 x6 : Int32} {w : mX} {σ σ' : mS} (h : S n N c k σ) (hc : c ≤ 900000) (p : P127 σ x1 x2 x3 x4 x5 x6 w σ') : (¬ (mb x1 ∧ ik x2) ∧ w = .inr 0 ∧ σ' = σ) ∨ ((mb x1 ∧ ik x2) ∧ ((¬ B127 x3 x4 x5 x6 ∧ w = .inr 1 ∧ σ' = σ) ∨ (B127 x3 x4 x5 x6 ∧ ((¬ C127 σ N x1 ∧ w = .inr 2 ∧ σ' = σ) ∨ (C127 σ N x1 ∧ R127 n N c k σ x1 x2 x3 x4 x5 w σ'))))) := by
  have z0 := i_0
  have z1 := i_1
  have no : (¬ (mb x1 ∧ ik x2)) → J127_18 x1 x2 x3 x4 x5 x6 σ w σ' → (¬ (mb x1 ∧ ik x2) ∧ w = .inr 0 ∧ σ' = σ) := fun u q => by
    rcases s127_19 h hc (fun z => absurd z0 z) q with ⟨_, y⟩ | ⟨z, _⟩
    · exact ⟨u, y⟩
    · exact absurd z0 z
  obtain ⟨v1, p1, hh⟩ := p
  rcases p164 p1 with ⟨y1, b1⟩ | ⟨y1, b1⟩
  · rcases hh with ⟨_, q⟩ | ⟨z, _⟩
    · exact Or.inl (no (fun z => b1 z.1) q)
    · exact absurd y1 z
  rcases hh with ⟨z, _⟩ | ⟨_, v6, p6', hh⟩
  · exact absurd z y1
  rcases p166 p6' with ⟨y2, b2⟩ | ⟨y2, b2⟩
  · rcases hh with ⟨_, q⟩ | ⟨z, _⟩
    · exact Or.inl (no (fun z => b2 z.2) q)
    · exact absurd y2 z
  rcases hh with ⟨z, _⟩ | ⟨_, q⟩
  · exact absurd z y2
  rcases s127_19 h hc (fun _ => ⟨b1, b2⟩) q with ⟨z, _⟩ | ⟨_, y⟩
  · rw [z1] at z; cases z
  · exact Or.inr ⟨⟨b1, b2⟩, y⟩
/-! a spread -/
def R130 (n : Int) (N c : Nat) (k : Kt) (σ : mS) (x4 : Int32) (w : mX) (σ' : mS) : Prop := ∃ v : Int64, w = .inl (some (.inl v.toInt32)) ∧ 0 ≤ v.toInt ∧ v.toInt ≤ x4.toInt ∧ D n N c k σ' ∧ mO N σ σ' ∧ (∀ o k, o < N → 1 ≤ k → k ≤ 5 → m_i σ' 7 o k = m_i σ 7 o k) ∧ kT σ σ' ∧ fw_e (wl (LR ++ LD)) σ σ'
def A130 (x1 x2 x3 : Int32) : Prop := mb x1 ∧ ik x2 ∧ ik x3
def B130 (x2 x3 x4 x5 : Int32) : Prop := x2.toInt ≠ x3.toInt ∧ qy x4 ∧ -9998 ≤ x5.toInt ∧ x5.toInt ≤ 9998
def C130 (σ : mS) (x1 x2 x3 : Int32) : Prop := nfl σ x1 ∧ pv σ x2.toNatClampNeg 1 = 0 ∧ pv σ x3.toNatClampNeg 1 = 0
theorem s130_123 {n : Int} {N c : Nat} {k : Kt} {x1 x2 x3 x4 x5 t0 : Int32} {w : mX} {σ σ' : mS} (h : S n N c k σ) (hc : c ≤ 900000) (g : t0.toInt ≠ 0 → A130 x1 x2 x3 ∧ B130 x2 x3 x4 x5 ∧ C130 σ x1 x2 x3) (p : J130_123 x1 x2 x3 x4 x5 t0 σ w σ') : (t0.toInt = 0 ∧ w = .inr 2 ∧ σ' = σ) ∨ (t0.toInt ≠ 0 ∧ R130 n N c k σ x4 w σ') := by
  rcases c2 p with ⟨t1, σ5, e5, σ8, _, p18, v11, σ12, _, p19, v15, σ16, F16, p61, v19, σ20, F20, p158', hw, rfl⟩ | y
  · right
    subst e5
    obtain ⟨⟨a1, a2, a3⟩, ⟨a4, a5, a6⟩, a7, a8⟩ := g t1
    obtain ⟨e1, g1, g3, ⟨b0, b1, b2, b3⟩, b4, b5, b6, b7⟩ := mkk h p18 p19
    subst e1
    have k0' : (m_i σ12 1 (σ.1 1) 0).toInt = 6 := by rw [b0]; decide
    have nf : nfl σ12 (m_i σ12 1 (σ.1 1) 1) := by
      rw [b1]
      show (m_i σ12 6 _ 9).toInt = 0
      rw [(g3.2 6 _ 9 rfl).1]; exact a7
    have sa : sO σ σ12 := sO_of g3 rfl
    refine ⟨t1, v19, hw, ?_⟩
    obtain ⟨H, X, KT, w1, w2⟩ := k6 g1.1 k0' (by rw [b1]; exact a1) nf (by rw [b2, b3]; exact a4) (by rw [b4]; have := a5.1; omega) p61
    rw [b4] at w2
    have FR := RT_fw X.2.2.2.2
    have f16 := FY_fw g1.2 FR rfl
    obtain ⟨r1, r2, r3⟩ := p158 H f16 hc F20 p158'
    have rec0 : (m_i σ16 1 (σ.1 1) 0).toInt = 6 := by rw [(FR.2 1 _ 0 rfl).1]; exact k0'
    rcases r3 with ⟨y, _⟩ | r3
    · rw [rec0] at y; cases y
    have sb : sO σ16 σ' := sO_of F20 rfl
    refine ⟨by rw [r1]; exact w1, by rw [r1]; exact w2, ⟨r2, r3⟩, (sa.mO.tr X.2.2.1).tr sb.mO, fun o k _ k1 k5 => ?_, ((kT_fw g3 rfl).tr KT).tr (kT_fw F20 rfl), ((wl_mono (wn_l g3) (by decide)).tr (wl_mono FR (by decide))).tr (wl_mono F20 (by decide))⟩
    rw [sb.1 o k (by omega), X.2.1.1 o k (by omega), sa.1 o k (by omega)]
  · exact Or.inl y
theorem s130_87 {n : Int} {N c : Nat} {k : Kt} {x1 x2 x3 x4 x5 t0 : Int32} {w : mX} {σ σ' : mS} (h : S n N c k σ) (hc : c ≤ 900000) (hA : A130 x1 x2 x3) (hB : B130 x2 x3 x4 x5) (g : t0.toInt ≠ 0 ↔ nfl σ x1) (p : J130_87 x1 x2 x3 x4 x5 t0 σ w σ') : (¬ C130 σ x1 x2 x3 ∧ w = .inr 2 ∧ σ' = σ) ∨ (C130 σ x1 x2 x3 ∧ R130 n N c k σ x4 w σ') := by
  have z0 := i_0
  have z1 := i_1
  rcases c2 p with ⟨t1, v5, p5, p⟩ | ⟨t1, y⟩
  · have nf := g.mp t1
    have no : (¬ C130 σ x1 x2 x3) → J130_122 x1 x2 x3 x4 x5 σ w σ' → ((¬ C130 σ x1 x2 x3 ∧ w = .inr 2 ∧ σ' = σ) ∨ (C130 σ x1 x2 x3 ∧ R130 n N c k σ x4 w σ')) := fun u q => by
      rcases s130_123 h hc (fun z => absurd z0 z) q with ⟨_, y⟩ | ⟨z, _⟩
      · exact Or.inl ⟨u, y⟩
      · exact absurd z0 z
    rcases p with ⟨e, q⟩ | ⟨e, v10, p10, ⟨e10, q⟩ | ⟨e10, q⟩⟩
    · rcases p27 p5 hA.2.1 with ⟨_, b⟩ | ⟨a, _⟩
      · exact no (fun z => b z.2.1) q
      · exact absurd e a
    · rcases p27 p10 hA.2.2 with ⟨_, b⟩ | ⟨a, _⟩
      · exact no (fun z => b z.2.2) q
      · exact absurd e10 a
    · rcases p27 p5 hA.2.1 with ⟨a, _⟩ | ⟨_, b⟩
      · exact absurd a e
      rcases p27 p10 hA.2.2 with ⟨a, _⟩ | ⟨_, b2⟩
      · exact absurd a e10
      rcases s130_123 h hc (fun _ => ⟨hA, hB, nf, b, b2⟩) q with ⟨z, _⟩ | ⟨_, y⟩
      · rw [z1] at z; cases z
      · exact Or.inr ⟨⟨nf, b, b2⟩, y⟩
  · exact Or.inl ⟨fun z => (g.mpr z.1) t1, y⟩
theorem s130_51 {n : Int} {N c : Nat} {k : Kt} {x1 x2 x3 x4 x5 t0 : Int32} {w : mX} {σ σ' : mS} (h : S n N c k σ) (hc : c ≤ 900000) (hA : A130 x1 x2 x3) (g : t0.toInt ≠ 0 ↔ (x2.toInt ≠ x3.toInt ∧ qy x4)) (p : J130_51 x1 x2 x3 x4 x5 t0 σ w σ') : (¬ B130 x2 x3 x4 x5 ∧ w = .inr 1 ∧ σ' = σ) ∨ (B130 x2 x3 x4 x5 ∧ ((¬ C130 σ x1 x2 x3 ∧ w = .inr 2 ∧ σ' = σ) ∨ (C130 σ x1 x2 x3 ∧ R130 n N c k σ x4 w σ'))) := by
  have z0 := i_0
  have z1 := i_1
  have zm : (Int32.ofInt (-9998)).toInt = -9998 := by decide
  have zp : (Int32.ofInt 9998).toInt = 9998 := by decide
  rcases c1 p with ⟨t1, v5, p5, p⟩ | ⟨t1, y⟩
  · have b := g.mp t1
    rcases c1 p with ⟨t2, v13, p13, p⟩ | ⟨t2, y⟩
    · rcases p163 p5 with ⟨a, _⟩ | ⟨_, b2⟩
      · exact absurd a t2
      rw [zm, zp] at b2
      have B : B130 x2 x3 x4 x5 := ⟨b.1, b.2, b2⟩
      refine Or.inr ⟨B, ?_⟩
      rcases p26 p13 hA.1 with ⟨a, nf⟩ | ⟨a, nf⟩
      · rcases p with ⟨e, _⟩ | ⟨_, q⟩
        · exact absurd a e
        · exact s130_87 h hc hA B ⟨fun _ => nf, fun _ => by rw [z1]; decide⟩ q
      · rcases p with ⟨_, q⟩ | ⟨e, _⟩
        · exact s130_87 h hc hA B ⟨fun z => absurd z0 z, fun z => absurd z nf⟩ q
        · exact absurd a e
    · rcases p163 p5 with ⟨_, b2⟩ | ⟨a, _⟩
      · rw [zm, zp] at b2
        exact Or.inl ⟨fun z => b2 z.2.2, y⟩
      · exact absurd t2 a
  · exact Or.inl ⟨fun z => (g.mpr ⟨z.1, z.2.1⟩) t1, y⟩
theorem s130_26 {n : Int} {N c : Nat} {k : Kt} {x1 x2 x3 x4 x5 t0 : Int32} {w : mX} {σ σ' : mS} (h : S n N c k σ) (hc : c ≤ 900000) (g : t0.toInt ≠ 0 ↔ A130 x1 x2 x3) (p : J130_26 x1 x2 x3 x4 x5 t0 σ w σ') : (¬ A130 x1 x2 x3 ∧ w = .inr 0 ∧ σ' = σ) ∨ (A130 x1 x2 x3 ∧ ((¬ B130 x2 x3 x4 x5 ∧ w = .inr 1 ∧ σ' = σ) ∨ (B130 x2 x3 x4 x5 ∧ ((¬ C130 σ x1 x2 x3 ∧ w = .inr 2 ∧ σ' = σ) ∨ (C130 σ x1 x2 x3 ∧ R130 n N c k σ x4 w σ'))))) := by
  have z0 := i_0
  have z1 := i_1
  have zm : (Int32.ofInt 1000).toInt = 1000 := by decide
  rcases c0 p with ⟨t1, p⟩ | ⟨t1, y⟩
  · have hA := g.mp t1
    refine Or.inr ⟨hA, ?_⟩
    rcases p with ⟨e, q⟩ | ⟨e, v6, p6', ⟨e6, q⟩ | ⟨e6, q⟩⟩
    · exact s130_51 h hc hA ⟨fun z => absurd z0 z, fun z => absurd e z.1⟩ q
    · rcases p163 p6' with ⟨_, b⟩ | ⟨a, _⟩
      · rw [z1, zm] at b
        exact s130_51 h hc hA ⟨fun z => absurd z0 z, fun z => absurd z.2 b⟩ q
      · exact absurd e6 a
    · rcases p163 p6' with ⟨a, _⟩ | ⟨_, b⟩
      · exact absurd a e6
      · rw [z1, zm] at b
        exact s130_51 h hc hA ⟨fun _ => ⟨e, b⟩, fun _ => by rw [z1]; decide⟩ q
  · exact Or.inl ⟨fun z => (g.mpr z) t1, y⟩
theorem a130 {n : Int} {N c : Nat} {k : Kt} {x1 x2 x3 x4 x5 : Int32} {w : mX} {σ σ' : mS} (h : S n N c k σ) (hc : c ≤ 900000) (p : P130 σ x1 x2 x3 x4 x5 w σ') : (¬ A130 x1 x2 x3 ∧ w = .inr 0 ∧ σ' = σ) ∨ (A130 x1 x2 x3 ∧ ((¬ B130 x2 x3 x4 x5 ∧ w = .inr 1 ∧ σ' = σ) ∨ (B130 x2 x3 x4 x5 ∧ ((¬ C130 σ x1 x2 x3 ∧ w = .inr 2 ∧ σ' = σ) ∨ (C130 σ x1 x2 x3 ∧ R130 n N c k σ x4 w σ'))))) := by
  have z0 := i_0
  have z1 := i_1
  obtain ⟨v1, p1, hh⟩ := p
  rcases p164 p1 with ⟨y1, b1⟩ | ⟨y1, b1⟩
  · rcases hh with ⟨_, q⟩ | ⟨z, _⟩
    · exact s130_26 h hc ⟨fun z => absurd z0 z, fun z => absurd z.1 b1⟩ q
    · exact absurd y1 z
  rcases hh with ⟨z, _⟩ | ⟨_, v6, p6', hh⟩
  · exact absurd z y1
  rcases p166 p6' with ⟨y2, b2⟩ | ⟨y2, b2⟩
  · rcases hh with ⟨_, q⟩ | ⟨z, _⟩
    · exact s130_26 h hc ⟨fun z => absurd z0 z, fun z => absurd z.2.1 b2⟩ q
    · exact absurd y2 z
  rcases hh with ⟨z, _⟩ | ⟨_, v11, p11, hh⟩
  · exact absurd z y2
  rcases p166 p11 with ⟨y3, b3⟩ | ⟨y3, b3⟩
  · rcases hh with ⟨_, q⟩ | ⟨z, _⟩
    · exact s130_26 h hc ⟨fun z => absurd z0 z, fun z => absurd z.2.2 b3⟩ q
    · exact absurd y3 z
  rcases hh with ⟨z, _⟩ | ⟨_, q⟩
  · exact absurd z y3
  exact s130_26 h hc ⟨fun _ => ⟨b1, b2, b3⟩, fun _ => by rw [z1]; decide⟩ q
