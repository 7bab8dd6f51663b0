/-! the face: an order -/
theorem c0 {W : mS → mS → Prop} {τ σ' : mS} {t : Int32} {w : mX} {X : mS → Prop} (h : (∃ σ2, W τ σ2 ∧ P160 τ t (.inl none) σ2 ∧ X σ2) ∨ (∃ b, P160 τ t (.inr b) σ' ∧ w = .inr b)) : (t.toInt ≠ 0 ∧ X τ) ∨ (t.toInt = 0 ∧ w = .inr 0 ∧ σ' = τ) := by
  rcases h with ⟨σ2, _, q, x⟩ | ⟨b, q, hw⟩
  · rcases m0 q with ⟨t1, _, rfl⟩ | ⟨_, z, _⟩
    · exact Or.inl ⟨t1, x⟩
    · cases z
  · rcases m0 q with ⟨_, z, _⟩ | ⟨t1, z, rfl⟩
    · cases z
    · cases z
      exact Or.inr ⟨t1, hw, rfl⟩
theorem c1 {W : mS → mS → Prop} {τ σ' : mS} {t : Int32} {w : mX} {X : mS → Prop} (h : (∃ σ2, W τ σ2 ∧ P161 τ t (.inl none) σ2 ∧ X σ2) ∨ (∃ b, P161 τ t (.inr b) σ' ∧ w = .inr b)) : (t.toInt ≠ 0 ∧ X τ) ∨ (t.toInt = 0 ∧ w = .inr 1 ∧ σ' = τ) := by
  rcases h with ⟨σ2, _, q, x⟩ | ⟨b, q, hw⟩
  · rcases m1 q with ⟨t1, _, rfl⟩ | ⟨_, z, _⟩
    · exact Or.inl ⟨t1, x⟩
    · cases z
  · rcases m1 q with ⟨_, z, _⟩ | ⟨t1, z, rfl⟩
    · cases z
    · cases z
      exact Or.inr ⟨t1, hw, rfl⟩
theorem c2 {W : mS → mS → Prop} {τ σ' : mS} {t : Int32} {w : mX} {X : mS → Prop} (h : (∃ σ2, W τ σ2 ∧ P162 τ t (.inl none) σ2 ∧ X σ2) ∨ (∃ b, P162 τ t (.inr b) σ' ∧ w = .inr b)) : (t.toInt ≠ 0 ∧ X τ) ∨ (t.toInt = 0 ∧ w = .inr 2 ∧ σ' = τ) := by
  rcases h with ⟨σ2, _, q, x⟩ | ⟨b, q, hw⟩
  · rcases m2 q with ⟨t1, _, rfl⟩ | ⟨_, z, _⟩
    · exact Or.inl ⟨t1, x⟩
    · cases z
  · rcases m2 q with ⟨_, z, _⟩ | ⟨t1, z, rfl⟩
    · cases z
    · cases z
      exact Or.inr ⟨t1, hw, rfl⟩
def mb (x : Int32) : Prop := 0 ≤ x.toInt ∧ x.toInt < 5
def ik (x : Int32) : Prop := 0 ≤ x.toInt ∧ x.toInt < 3
def sd (x : Int32) : Prop := 0 ≤ x.toInt ∧ x.toInt ≤ 1
def pr (x : Int32) : Prop := 1 ≤ x.toInt ∧ x.toInt ≤ 9999
def qy (x : Int32) : Prop := 1 ≤ x.toInt ∧ x.toInt ≤ 1000
theorem p167 {σ : mS} {x w : Int32} (p : P167 σ x w) : (w.toInt = 0 ∧ ¬ sd x) ∨ (w.toInt ≠ 0 ∧ sd x) := by
  have z0 := i_0
  have z1 := i_1
  unfold sd
  rcases p with ⟨h, rfl⟩ | ⟨h, ⟨h2, rfl⟩ | ⟨h2, rfl⟩⟩
  · exact Or.inr ⟨by omega, by omega⟩
  · exact Or.inl ⟨by omega, by omega⟩
  · exact Or.inr ⟨by omega, by omega⟩
theorem p170 {σ : mS} {x y z w : Int32} (p : P170 σ x y z w) : (w.toInt = 0 ∧ ¬ (sd x ∧ pr y ∧ qy z)) ∨ (w.toInt ≠ 0 ∧ sd x ∧ pr y ∧ qy z) := by
  have z0 := i_0
  have z1 := i_1
  have zm : (Int32.ofInt 1000).toInt = 1000 := by decide
  obtain ⟨v1, p1, hh⟩ := p
  rcases p167 p1 with ⟨y1, b1⟩ | ⟨y1, b1⟩
  · rcases hh with ⟨_, rfl⟩ | ⟨zz, _⟩
    · exact Or.inl ⟨z0, fun q => b1 q.1⟩
    · exact absurd y1 zz
  rcases hh with ⟨zz, _⟩ | ⟨_, v6, p6', hh⟩
  · exact absurd zz y1
  rcases p168 p6' with ⟨y2, b2⟩ | ⟨y2, b2⟩
  · rcases hh with ⟨_, rfl⟩ | ⟨zz, _⟩
    · exact Or.inl ⟨z0, fun q => b2 q.2.1⟩
    · exact absurd y2 zz
  rcases hh with ⟨zz, _⟩ | ⟨_, v11, p11, hh⟩
  · exact absurd zz y2
  rcases p163 p11 with ⟨y3, b3⟩ | ⟨y3, b3⟩
  · rw [z1, zm] at b3
    rcases hh with ⟨_, rfl⟩ | ⟨zz, _⟩
    · exact Or.inl ⟨z0, fun q => b3 q.2.2⟩
    · exact absurd y3 zz
  rw [z1, zm] at b3
  rcases hh with ⟨zz, _⟩ | ⟨_, rfl⟩
  · exact absurd zz y3
  exact Or.inr ⟨by omega, b1, b2, b3⟩
theorem p2' {σ : mS} {N : Nat} {w : Int32} (hn : hN σ N) (p : P2 σ w) : (w.toInt = 0 ∧ 120 ≤ N) ∨ (w.toInt ≠ 0 ∧ N < 120) := by
  have z0 := i_0
  have z1 := i_1
  have := hn.1
  rcases p with ⟨h, rfl⟩ | ⟨h, rfl⟩
  · exact Or.inl ⟨z0, by omega⟩
  · exact Or.inr ⟨by omega, by omega⟩
/-- a long record, from nothing -/
theorem mkk {n : Int} {N c : Nat} {k : Kt} {a b1 b2 b3 b4 b5 b6 b7 : Int32} {v : mR} {σ σ8 σ' : mS} (h : S n N c k σ) (p : P18 (m_nu σ 1 0) (σ.1 1) a b1 b2 b3 σ8) (q : P19 σ8 (σ.1 1) b4 b5 b6 b7 v σ') :
    v = some (1, σ.1 1) ∧ S n N c k σ' ∧ fw_e wn σ σ' ∧ (m_i σ' 1 (σ.1 1) 0 = a ∧ m_i σ' 1 (σ.1 1) 1 = b1 ∧ m_i σ' 1 (σ.1 1) 2 = b2 ∧ m_i σ' 1 (σ.1 1) 3 = b3) ∧ m_i σ' 1 (σ.1 1) 4 = b4 ∧ m_i σ' 1 (σ.1 1) 5 = b5 ∧ m_i σ' 1 (σ.1 1) 6 = b6 ∧ m_i σ' 1 (σ.1 1) 7 = b7 := by
  obtain ⟨g1, g2, g3, g4, g5, g6, g7⟩ := mk h.1 h.2 p
  obtain ⟨e1, e2, e3, e4, e5, e6⟩ := mk8 g1 g2 q
  exact ⟨e1, ⟨e2, e3⟩, g3.tr e4, ⟨by rw [e5 0 (by omega), g4], by rw [e5 1 (by omega), g5], by rw [e5 2 (by omega), g6], by rw [e5 3 (by omega), g7]⟩, e6⟩
/-- what an order asks -/
def A126 (σ : mS) (N : Nat) (x1 x2 x3 x4 x5 x6 : Int32) : Prop := mb x1 ∧ ik x2 ∧ sd x3 ∧ pr x4 ∧ qy x5 ∧ (0 ≤ x6.toInt ∧ x6.toInt ≤ x5.toInt) ∧ nfl σ x1 ∧ N < 120
/-- what it does -/
def R126 (n : Int) (N c : Nat) (k : Kt) (σ : mS) (x1 x2 x3 x4 x5 x7 : Int32) (w : mX) (σ' : mS) : Prop := ∃ v : Int64, w = .inl (some (.inl v.toInt32)) ∧ ((v.toInt = -1 ∧ (x7.toInt = 2 ∨ x7.toInt = 3) ∧ pv σ x2.toNatClampNeg 1 = 0 ∧ S n N c k σ' ∧ fw_e (wl ((8, 7) :: LN)) σ σ') ∨
  (v.toInt = N ∧ D n (N + 1) c k σ' ∧ fw_e (wl (LR ++ LD)) σ σ' ∧ kT σ σ' ∧ (∀ o k, o < N → k = 1 ∨ k = 2 ∨ k = 3 ∨ k = 4 → m_i σ' 7 o k = m_i σ 7 o k) ∧ mO N σ σ' ∧ (m_i σ' 7 N 1 = x1 ∧ m_i σ' 7 N 2 = x2 ∧ m_i σ' 7 N 3 = x3 ∧ m_i σ' 7 N 4 = x4) ∧ oi σ' N 6 ≤ x5.toInt ∧ (oi σ' N 9 = 0 ∨ oi σ' N 9 = 1) ∧ (x7.toInt ≠ 0 → x7.toInt ≠ 3 → oi σ' N 9 = 0) ∧ (x7.toInt = 3 → pv σ x2.toNatClampNeg 1 = 0 → oi σ' N 9 = 1 ∧ oi σ' N 6 = x5.toInt)))
theorem s126_127 {n : Int} {N c : Nat} {k : Kt} {x1 x2 x3 x4 x5 x6 x7 t0 : Int32} {w : mX} {σ σ' : mS} (h : S n N c k σ) (hc : c ≤ 900000) (g : t0.toInt ≠ 0 → A126 σ N x1 x2 x3 x4 x5 x6) (p : J126_127 x1 x2 x3 x4 x5 x6 x7 t0 σ w σ') : (t0.toInt = 0 ∧ w = .inr 2 ∧ σ' = σ) ∨ (t0.toInt ≠ 0 ∧ R126 n N c k σ x1 x2 x3 x4 x5 x7 w σ') := by
  rcases c2 p with ⟨t1, σ5, e5, σ8, _, p18, v11, σ12, _, p19, v15, σ16, F16, p61, v19, σ20, F20, p158', hw, rfl⟩ | y
  · right
    subst e5
    obtain ⟨a1, a2, a3, a4, a5, a6, a7, a8⟩ := g t1
    obtain ⟨e1, g1, g3, ⟨b0, b1, b2, b3⟩, b4, b5, b6, b7⟩ := mkk h p18 p19
    subst e1
    have k0' : (m_i σ12 1 (σ.1 1) 0).toInt = 2 := by rw [b0]; decide
    have nf : nfl σ12 (m_i σ12 1 (σ.1 1) 1) := by
      rw [b1]
      show (m_i σ12 6 _ 9).toInt = 0
      rw [(g3.2 6 _ 9 rfl).1]; exact a7
    have e1 : ∀ i, pv σ12 i 1 = pv σ i 1 := fun i => congrArg Int32.toInt (g3.2 8 i 1 rfl).1
    have sa : sO σ σ12 := sO_of g3 rfl
    refine ⟨t1, v19, hw, ?_⟩
    rcases k2 g1.1 k0' a8 (by rw [b1]; exact a1) (by rw [b2]; exact a2) (by rw [b3]; exact a3) (by rw [b4]; exact a4) (by rw [b5]; exact a5) (by rw [b6]; have := a5.2; omega) nf p61 with ⟨w1, H, F, w2, w3⟩ | ⟨⟨w1, H, R, KT, old, m, new, le⟩, w2, w3, w4⟩
    · have f16 := FY_fw g1.2 F rfl
      rw [b7] at w2
      rw [b2, e1] at w3
      obtain ⟨i1, q1, hh⟩ := p158'
      cases q1
      have kk : (m_i σ16 1 (σ.1 1) 0).toInt = 2 := by rw [(F.2 1 _ 0 rfl).1]; exact k0'
      have em : (Int64.ofInt (-1)).toInt = -1 := by decide
      rcases hh with ⟨z, _⟩ | ⟨_, ⟨z, _⟩ | ⟨_, rfl, rfl⟩⟩
      · exact absurd kk z
      · exact absurd (by rw [em]; exact w1) z
      · exact Or.inl ⟨w1, w2, w3, ⟨H, f16⟩, (wl_mono (wn_l g3) (by decide)).tr (wl_mono F (by decide))⟩
    · have FR := RT_fw R
      have f16 := FY_fw g1.2 FR rfl
      obtain ⟨r1, r2, r3⟩ := p158 H f16 hc F20 p158'
      have sb : sO σ16 σ' := sO_of F20 rfl
      rcases r3 with ⟨_, z, _⟩ | r3
      · rw [w1] at z
        omega
      rw [b1, b2, b3, b4] at new
      rw [b5] at le w4
      rw [b7] at w3 w4
      rw [b2, e1] at w4
      have ek : ∀ o k, k < 12 → oi σ' o k = oi σ16 o k := fun o k hk => congrArg Int32.toInt (sb.1 o k hk)
      rw [← ek _ _ (by decide)] at le w2
      rw [← ek _ 9 (by decide)] at w3
      rw [← ek _ 9 (by decide), ← ek _ 6 (by decide)] at w4
      refine Or.inr ⟨by rw [r1]; exact w1, ⟨r2, r3⟩, ((wl_mono (wn_l g3) (by decide)).tr (wl_mono FR (by decide))).tr (wl_mono F20 (by decide)), ((kT_fw g3 rfl).tr KT).tr (kT_fw F20 rfl), fun o k ho hk => ?_, (sa.mO.tr m).tr sb.mO, ?_, le, w2, w3, w4⟩
      · rw [sb.1 o k (by omega), old o k ho hk, sa.1 o k (by omega)]
      · rw [sb.1 _ _ (by decide), sb.1 _ _ (by decide), sb.1 _ _ (by decide), sb.1 _ _ (by decide)]
        exact new
  · exact Or.inl y
theorem s126_94 {n : Int} {N c : Nat} {k : Kt} {x1 x2 x3 x4 x5 x6 x7 t0 : Int32} {w : mX} {σ σ' : mS} (h : S n N c k σ) (hc : c ≤ 900000) (g : t0.toInt ≠ 0 → A126 σ N x1 x2 x3 x4 x5 x6) (hi : ik x2) (p : J126_94 x1 x2 x3 x4 x5 x6 x7 t0 σ w σ') : ((t0.toInt = 0 ∨ (x7.toInt ≠ 0 ∧ x7.toInt ≠ 3 ∧ pv σ x2.toNatClampNeg 1 ≠ 0)) ∧ w = .inr 2 ∧ σ' = σ) ∨ ((t0.toInt ≠ 0 ∧ (x7.toInt = 0 ∨ x7.toInt = 3 ∨ pv σ x2.toNatClampNeg 1 = 0)) ∧ R126 n N c k σ x1 x2 x3 x4 x5 x7 w σ') := by
  have z0 := i_0
  have z1 := i_1
  rcases c2 p with ⟨t1, p⟩ | ⟨t1, y⟩
  · have ok : J126_122 x1 x2 x3 x4 x5 x6 x7 σ w σ' → R126 n N c k σ x1 x2 x3 x4 x5 x7 w σ' := fun q => by
      rcases s126_127 h hc (fun _ => g t1) q with ⟨z, _⟩ | ⟨_, y⟩
      · rw [z1] at z; cases z
      · exact y
    rcases p with ⟨e, q⟩ | ⟨e, ⟨e3, q⟩ | ⟨e3, v7, p7, ⟨e7, q⟩ | ⟨e7, q⟩⟩⟩
    · exact Or.inr ⟨⟨t1, Or.inl e⟩, ok q⟩
    · exact Or.inr ⟨⟨t1, Or.inr (Or.inl e3)⟩, ok q⟩
    · rcases p27 p7 hi with ⟨_, b⟩ | ⟨a, _⟩
      · rcases s126_127 h hc (fun z => absurd z0 z) q with ⟨_, y⟩ | ⟨z, _⟩
        · exact Or.inl ⟨Or.inr ⟨e, e3, b⟩, y⟩
        · exact absurd z0 z
      · exact absurd e7 a
    · rcases p27 p7 hi with ⟨a, _⟩ | ⟨_, b⟩
      · exact absurd a e7
      · exact Or.inr ⟨⟨t1, Or.inr (Or.inr b)⟩, ok q⟩
  · exact Or.inl ⟨Or.inl t1, y⟩
def B126 (x1 x2 x3 x4 x5 x6 x7 : Int32) : Prop := sd x3 ∧ pr x4 ∧ qy x5 ∧ (0 ≤ x6.toInt ∧ x6.toInt ≤ x5.toInt) ∧ 0 ≤ x7.toInt ∧ x7.toInt ≤ 3
def C126 (σ : mS) (N : Nat) (x1 x2 x7 : Int32) : Prop := nfl σ x1 ∧ N < 120 ∧ (x7.toInt = 0 ∨ x7.toInt = 3 ∨ pv σ x2.toNatClampNeg 1 = 0)
theorem s126_59 {n : Int} {N c : Nat} {k : Kt} {x1 x2 x3 x4 x5 x6 x7 t0 : Int32} {w : mX} {σ σ' : mS} (h : S n N c k σ) (hc : c ≤ 900000) (h1 : mb x1) (h2 : ik x2) (g : t0.toInt ≠ 0 → B126 x1 x2 x3 x4 x5 x6 x7) (p : J126_59 x1 x2 x3 x4 x5 x6 x7 t0 σ w σ') : (t0.toInt = 0 ∧ w = .inr 1 ∧ σ' = σ) ∨ (t0.toInt ≠ 0 ∧ ((¬ C126 σ N x1 x2 x7 ∧ w = .inr 2 ∧ σ' = σ) ∨ (C126 σ N x1 x2 x7 ∧ R126 n N c k σ x1 x2 x3 x4 x5 x7 w σ'))) := by
  have z0 := i_0
  have z1 := i_1
  rcases c1 p with ⟨t1, v5, p5, p⟩ | ⟨t1, y⟩
  · have B := g t1
    have no : (¬ C126 σ N x1 x2 x7) → J126_93 x1 x2 x3 x4 x5 x6 x7 σ w σ' → (t0.toInt ≠ 0 ∧ ((¬ C126 σ N x1 x2 x7 ∧ w = .inr 2 ∧ σ' = σ) ∨ (C126 σ N x1 x2 x7 ∧ R126 n N c k σ x1 x2 x3 x4 x5 x7 w σ'))) := fun u q => by
      rcases s126_94 h hc (fun z => absurd z0 z) h2 q with ⟨_, y⟩ | ⟨⟨z, _⟩, _⟩
      · exact ⟨t1, Or.inl ⟨u, y⟩⟩
      · exact absurd z0 z
    right
    rcases p with ⟨e, q⟩ | ⟨e, v10, p10, ⟨e10, q⟩ | ⟨e10, q⟩⟩
    · rcases p26 p5 h1 with ⟨a, _⟩ | ⟨_, b⟩
      · exact absurd a e
      · exact no (fun z => b z.1) q
    · rcases p2' h.1.2.1 p10 with ⟨_, b⟩ | ⟨a, _⟩
      · exact no (fun z => by have := z.2.1; omega) q
      · exact absurd e10 a
    · rcases p2' h.1.2.1 p10 with ⟨a, _⟩ | ⟨_, b⟩
      · exact absurd a e10
      · rcases p26 p5 h1 with ⟨_, nf⟩ | ⟨a, _⟩
        · refine ⟨t1, ?_⟩
          rcases s126_94 h hc (fun _ => ⟨h1, h2, B.1, B.2.1, B.2.2.1, B.2.2.2.1, nf, b⟩) h2 q with ⟨u, y⟩ | ⟨⟨_, u⟩, y⟩
          · exact Or.inl ⟨fun z => by
              rcases u with u | ⟨u1, u2, u3⟩
              · rw [z1] at u; cases u
              · rcases z.2.2 with z | z | z
                · exact u1 z
                · exact u2 z
                · exact u3 z, y⟩
          · exact Or.inr ⟨⟨nf, b, u⟩, y⟩
        · exact absurd (Decidable.of_not_not e) a
  · exact Or.inl ⟨t1, y⟩
theorem s126_19 {n : Int} {N c : Nat} {k : Kt} {x1 x2 x3 x4 x5 x6 x7 t0 : Int32} {w : mX} {σ σ' : mS} (h : S n N c k σ) (hc : c ≤ 900000) (g : t0.toInt ≠ 0 → mb x1 ∧ ik x2) (p : J126_19 x1 x2 x3 x4 x5 x6 x7 t0 σ w σ') : (t0.toInt = 0 ∧ w = .inr 0 ∧ σ' = σ) ∨ (t0.toInt ≠ 0 ∧ ((¬ B126 x1 x2 x3 x4 x5 x6 x7 ∧ w = .inr 1 ∧ σ' = σ) ∨ (B126 x1 x2 x3 x4 x5 x6 x7 ∧ ((¬ C126 σ N x1 x2 x7 ∧ w = .inr 2 ∧ σ' = σ) ∨ (C126 σ N x1 x2 x7 ∧ R126 n N c k σ x1 x2 x3 x4 x5 x7 w σ'))))) := by
  have z0 := i_0
  have z1 := i_1
  have z3 : (Int32.ofInt 3).toInt = 3 := by decide
  rcases c0 p with ⟨t1, v5, p5, p⟩ | ⟨t1, y⟩
  · obtain ⟨h1, h2⟩ := g t1
    refine Or.inr ⟨t1, ?_⟩
    have no : (¬ B126 x1 x2 x3 x4 x5 x6 x7) → J126_58 x1 x2 x3 x4 x5 x6 x7 σ w σ' → ((¬ B126 x1 x2 x3 x4 x5 x6 x7 ∧ w = .inr 1 ∧ σ' = σ) ∨ (B126 x1 x2 x3 x4 x5 x6 x7 ∧ ((¬ C126 σ N x1 x2 x7 ∧ w = .inr 2 ∧ σ' = σ) ∨ (C126 σ N x1 x2 x7 ∧ R126 n N c k σ x1 x2 x3 x4 x5 x7 w σ')))) := fun u q => by
      rcases s126_59 h hc h1 h2 (fun z => absurd z0 z) q with ⟨_, y⟩ | ⟨z, _⟩
      · exact Or.inl ⟨u, y⟩
      · exact absurd z0 z
    rcases p with ⟨e, q⟩ | ⟨e, v10, p10, ⟨e10, q⟩ | ⟨e10, v15, p15, ⟨e15, q⟩ | ⟨e15, q⟩⟩⟩
    · rcases p170 p5 with ⟨_, b⟩ | ⟨a, _⟩
      · exact no (fun z => b ⟨z.1, z.2.1, z.2.2.1⟩) q
      · exact absurd e a
    · rcases p163 p10 with ⟨_, b⟩ | ⟨a, _⟩
      · rw [z0] at b
        exact no (fun z => b z.2.2.2.1) q
      · exact absurd e10 a
    · rcases p163 p15 with ⟨_, b⟩ | ⟨a, _⟩
      · rw [z0, z3] at b
        exact no (fun z => b z.2.2.2.2) q
      · exact absurd e15 a
    · rcases p170 p5 with ⟨a, _⟩ | ⟨_, b⟩
      · exact absurd a e
      rcases p163 p10 with ⟨a, _⟩ | ⟨_, b2⟩
      · exact absurd a e10
      rcases p163 p15 with ⟨a, _⟩ | ⟨_, b3⟩
      · exact absurd a e15
      rw [z0] at b2
      rw [z0, z3] at b3
      have B : B126 x1 x2 x3 x4 x5 x6 x7 := ⟨b.1, b.2.1, b.2.2, b2, b3⟩
      rcases s126_59 h hc h1 h2 (fun _ => B) q with ⟨z, _⟩ | ⟨_, y⟩
      · rw [z1] at z; cases z
      · exact Or.inr ⟨B, y⟩
  · exact Or.inl ⟨t1, y⟩
theorem a126 {n : Int} {N c : Nat} {k : Kt} {x1 x2 x3 x4 x5 x6 x7 : Int32} {w : mX} {σ σ' : mS} (h : S n N c k σ) (hc : c ≤ 900000) (p : P126 σ x1 x2 x3 x4 x5 x6 x7 w σ') : (¬ (mb x1 ∧ ik x2) ∧ w = .inr 0 ∧ σ' = σ) ∨ ((mb x1 ∧ ik x2) ∧ ((¬ B126 x1 x2 x3 x4 x5 x6 x7 ∧ w = .inr 1 ∧ σ' = σ) ∨ (B126 x1 x2 x3 x4 x5 x6 x7 ∧ ((¬ C126 σ N x1 x2 x7 ∧ w = .inr 2 ∧ σ' = σ) ∨ (C126 σ N x1 x2 x7 ∧ R126 n N c k σ x1 x2 x3 x4 x5 x7 w σ'))))) := by
  have z0 := i_0
  have z1 := i_1
  have no : (¬ (mb x1 ∧ ik x2)) → J126_18 x1 x2 x3 x4 x5 x6 x7 σ w σ' → (¬ (mb x1 ∧ ik x2) ∧ w = .inr 0 ∧ σ' = σ) := fun u q => by
    rcases s126_19 h hc (fun z => absurd z0 z) q with ⟨_, y⟩ | ⟨z, _⟩
    · exact ⟨u, y⟩
    · exact absurd z0 z
  obtain ⟨v1, p1, hh⟩ := p
  rcases p164 p1 with ⟨y1, b1⟩ | ⟨y1, b1⟩
  · rcases hh with ⟨_, q⟩ | ⟨z, _⟩
    · exact Or.inl (no (fun z => b1 z.1) q)
    · exact absurd y1 z
  rcases hh with ⟨z, _⟩ | ⟨_, v6, p6', hh⟩
  · exact absurd z y1
  rcases p166 p6' with ⟨y2, b2⟩ | ⟨y2, b2⟩
  · rcases hh with ⟨_, q⟩ | ⟨z, _⟩
    · exact Or.inl (no (fun z => b2 z.2) q)
    · exact absurd y2 z
  rcases hh with ⟨z, _⟩ | ⟨_, q⟩
  · exact absurd z y2
  rcases s126_19 h hc (fun _ => ⟨b1, b2⟩) q with ⟨z, _⟩ | ⟨_, y⟩
  · rw [z1] at z; cases z
  · exact Or.inr ⟨⟨b1, b2⟩, y⟩
