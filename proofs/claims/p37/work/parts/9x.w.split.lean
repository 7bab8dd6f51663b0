/-! the law: splits, and all of an instrument -/
/-- as it was but the law's prices -/
def wA4 (β τ : mS) : Prop := (∀ c a b, (c, a) ≠ (13, 14) → m_i τ c a b = m_i β c a b) ∧ (∀ c a b, m_l τ c a b = m_l β c a b) ∧ (gH β → gH τ)
theorem wA4.rf {σ : mS} : wA4 σ σ := ⟨fun _ _ _ _ => rfl, fun _ _ _ => rfl, fun h => h⟩
theorem wA4.set {β τ : mS} {j : Nat} {v : Int32} (h : wA4 β τ) : wA4 β (m_set τ 13 14 j (.inl v)) := ⟨fun c a b hc => by rw [mi_si, if_neg (fun z => hc (by rw [z.1, z.2.1]))]; exact h.1 c a b hc, fun c a b => h.2.1 c a b, fun g => ⟨(h.2.2 g).1, (h.2.2 g).2⟩⟩
/-- a price behind a split -/
def np (by' p : Int) : Int := if 1 ≤ p / by' then p / by' else 1
theorem q187_470' {n : Int} {N c : Nat} {k : Kt} {c1 c2 c4 : Int32} {c3 : Int64} {β : mS} (hN : (m_i β 13 17 0).toInt = N) (N60 : N ≤ 60) (h2 : 1 ≤ c2.toInt) (hm : ∀ o, o < N → (m_i β 13 15 o).toInt = oi β o 1 + 10 * oi β o 2 + 100 * oi β o 3) (ho : hO β N) (hp : ∀ o, o < N → 0 ≤ (m_i β 13 14 o).toInt) (he : c3.toInt = c4.toInt64.toInt) : ∀ m (u13 : Int32) (τ : mS) (w : mX) (σ' : mS), Q187_470 c1 c2 c3 c4 m u13 τ w σ' → wA4 β τ → D n N c k τ → 0 ≤ u13.toInt → u13.toInt ≤ N → (∀ o, o < N → (m_i τ 13 14 o).toInt = if (o : Int) < u13.toInt ∧ oi β o 2 = c1.toInt then np c2.toInt (m_i β 13 14 o).toInt else (m_i β 13 14 o).toInt) → OKw w ∧ wA4 β σ' ∧ D n N c k σ' ∧ ∀ o, o < N → (m_i σ' 13 14 o).toInt = if oi β o 2 = c1.toInt then np c2.toInt (m_i β 13 14 o).toInt else (m_i β 13 14 o).toInt := by
  have i1 := i_1
  intro m
  induction m with
  | zero => intro u13 τ w σ' q; exact q.elim
  | succ m IH =>
    intro u13 τ w σ' qq W hD p0 p1 hI
    replace qq : B187_470 c1 c2 c3 c4 (Q187_470 c1 c2 c3 c4 m) u13 τ w σ' := qq
    obtain ⟨_, qq⟩ := qq
    rw [n_0] at qq
    have e0 : m_i τ 13 17 0 = m_i β 13 17 0 := W.1 13 17 0 (fun z => by cases z)
    have e15 : ∀ j, m_i τ 13 15 j = m_i β 13 15 j := fun j => W.1 13 15 j (fun z => by cases z)
    rw [e0, hN] at qq
    have nn := i_nat p0
    rcases qq with ⟨a, ⟨x, _⟩ | ⟨_, hw, e⟩⟩ | ⟨a, _, qq⟩
    · exact absurd he x
    · subst e
      refine ⟨by rw [hw]; exact ok1, W, hD, fun o ho => ?_⟩
      rw [hI o ho]
      by_cases y : oi β o 2 = c1.toInt
      · rw [if_pos ⟨by omega, y⟩, if_pos y]
      · rw [if_neg (fun z => y z.2), if_neg y]
    · have inc : (u13 + Int32.ofInt 1).toInt = u13.toInt + 1 := i_inc p0 (by omega)
      obtain ⟨o1, o2, o3, _⟩ := ho u13.toNatClampNeg (by omega)
      have lm := hm u13.toNatClampNeg (by omega)
      have d10 : (m_i β 13 15 u13.toNatClampNeg / Int32.ofInt 10).toInt = oi β u13.toNatClampNeg 2 + 10 * oi β u13.toNatClampNeg 3 := by
        rw [dv32 (by omega) (by rw [i_10]; decide), i_10, lm]
        omega
      have md : (m_i β 13 15 u13.toNatClampNeg / Int32.ofInt 10 - m_i β 13 15 u13.toNatClampNeg / Int32.ofInt 10 / Int32.ofInt 10 * Int32.ofInt 10).toInt = oi β u13.toNatClampNeg 2 := by
        rw [md32 (by omega) (by rw [i_10]; decide), i_10, d10]
        omega
      rw [e15, md] at qq
      have now : (m_i τ 13 14 u13.toNatClampNeg).toInt = (m_i β 13 14 u13.toNatClampNeg).toInt := by
        rw [hI _ (by omega), if_neg (fun z => by omega)]
      have pp := hp u13.toNatClampNeg (by omega)
      rcases qq with ⟨x, q⟩ | ⟨x, _, qq⟩
      · refine IH _ _ _ _ q W hD (by omega) (by omega) (fun o ho => ?_)
        rw [hI o ho, inc]
        by_cases y : o = u13.toNatClampNeg
        · rw [if_neg (fun z => by omega), if_neg (fun z => by rw [y] at z; exact x z.2)]
        · by_cases y2 : (o : Int) < u13.toInt ∧ oi β o 2 = c1.toInt
          · rw [if_pos y2, if_pos ⟨by omega, y2.2⟩]
          · rw [if_neg y2, if_neg (fun z => y2 ⟨by omega, z.2⟩)]
      · have x : oi β u13.toNatClampNeg 2 = c1.toInt := Decidable.of_not_not x
        have dp : (m_i τ 13 14 u13.toNatClampNeg / c2).toInt = (m_i β 13 14 u13.toNatClampNeg).toInt / c2.toInt := by
          rw [dv32 (by omega) (by omega), now]
        have step : ∀ v : Int32, v.toInt = np c2.toInt (m_i β 13 14 u13.toNatClampNeg).toInt → Q187_470 c1 c2 c3 c4 m (u13 + Int32.ofInt 1) (m_set τ 13 14 u13.toNatClampNeg (.inl v)) w σ' → OKw w ∧ wA4 β σ' ∧ D n N c k σ' ∧ ∀ o, o < N → (m_i σ' 13 14 o).toInt = if oi β o 2 = c1.toInt then np c2.toInt (m_i β 13 14 o).toInt else (m_i β 13 14 o).toInt := by
          intro v hv q
          refine IH _ _ _ _ q W.set (D_13 hD (by omega)) (by omega) (by omega) (fun o ho => ?_)
          rw [inc, mi_si]
          by_cases y : o = u13.toNatClampNeg
          · rw [if_pos ⟨rfl, rfl, y⟩, if_pos ⟨by omega, by rw [y]; exact x⟩, y]
            exact hv
          · rw [if_neg (fun z => y z.2.2), hI o ho]
            by_cases y2 : (o : Int) < u13.toInt ∧ oi β o 2 = c1.toInt
            · rw [if_pos y2, if_pos ⟨by omega, y2.2⟩]
            · rw [if_neg y2, if_neg (fun z => y2 ⟨by omega, z.2⟩)]
        rw [dp] at qq
        rcases qq with ⟨y, _, σ14, e14, _, q⟩ | ⟨y, σ17, e17, _, q⟩
        · subst e14
          exact step _ (by rw [dp]; unfold np; rw [if_pos y]) q
        · subst e17
          exact step _ (by rw [i1]; unfold np; rw [if_neg y]) q
theorem s187_447 {t0 t1 : Int64} {w : mX} {σ σ' : mS} (e : t1.toInt = t0.toInt) (p : J187_447 t0 t1 σ w σ') : OKw w ∧ σ' = σ := by
  rcases p with ⟨a, _⟩ | ⟨_, hw, e2⟩
  · exact absurd e a
  · exact ⟨by rw [hw]; exact ok1, e2⟩
theorem s187_363 {n : Int} {N c : Nat} {k : Kt} {u7 u8 t0 : Int32} {w : mX} {σ σ' : mS} (h : S n N c k σ) (hc : c ≤ 900000) (l : LI N k (tc σ) 0 σ) (b7 : 0 ≤ u7.toInt ∧ u7.toInt ≤ 3) (b8 : 1 ≤ u8.toInt ∧ u8.toInt ≤ 6) (ht : u7.toInt < 3 → t0.toInt = pv σ u7.toNatClampNeg 5) (ht3 : u7.toInt = 3 → t0.toInt = 0) (p : J187_363 u7 u8 t0 σ w σ') : RES n N c k w σ' := by
  have i0 := i_0
  have i1 := i_1
  have i5 := i_5
  have im2 : (Int32.ofInt (-2)).toInt = -2 := by decide
  have zg : (Int64.ofInt 1000000000).toInt = 1000000000 := by decide
  obtain ⟨v1, σ2, gf, _, p172, p⟩ := p
  obtain ⟨y, p138, _, _, ev⟩ := d172_8 (by decide) p172
  have nn := i_nat b7.1
  have po := fun z : u7.toInt < 3 => h.1.po u7.toNatClampNeg (by omega)
  -- refused
  have no : ∀ t : Int32, σ2 = σ → ((u7.toInt = 3 ∧ v1.toInt = -3000000000) ∨ (u7.toInt < 3 ∧ t.toInt < 0 ∧ -2 ≤ t.toInt ∧ v1.toInt = 1000000000 * t.toInt)) → J187_413 u7 u8 v1 t σ2 w σ' → RES n N c k w σ' := by
    intro t e H q
    subst e
    have go : J187_426 u7 v1 t σ2 w σ' → RES n N c k w σ' := fun q => by
      rcases q with ⟨x, q⟩ | ⟨x, q⟩
      · rcases H with ⟨z, _⟩ | ⟨_, z2, z3, z4⟩
        · exact absurd z x
        · obtain ⟨o, e⟩ := s187_447 (by rw [l_mul (by rw [zg, i64]; omega) (by rw [zg, i64]; omega), zg, i64, z4]) q
          subst e
          exact RES_S h l o
      · rcases H with ⟨_, z⟩ | ⟨z, _⟩
        · obtain ⟨o, e⟩ := s187_447 (by rw [z, litA]) q
          subst e
          exact RES_S h l o
        · omega
    rcases q with ⟨_, q⟩ | ⟨x, ⟨y, _⟩ | ⟨_, q⟩⟩
    · exact go q
    · rcases H with ⟨z, _⟩ | ⟨_, z, _⟩
      · exact absurd z x
      · omega
    · exact go q
  rcases a138 h hc p138 with ⟨a, ey, e⟩ | ⟨⟨a1, a2⟩, b, ey, e⟩ | ⟨⟨a1, a2⟩, b, b5, ey, e⟩ | ⟨⟨a1, a2⟩, b, b5, v, ey, vv, hD, es, ep, q5, q5o, so', old, F, q6⟩
  · have e3 : u7.toInt = 3 := by omega
    have v1v : v1.toInt = -3000000000 := by rw [ev, ey]; exact hv0
    rcases p with ⟨_, q⟩ | ⟨_, ⟨_, ⟨_, q⟩ | ⟨_, q⟩⟩ | ⟨_, q⟩⟩
    · exact no _ e (Or.inl ⟨e3, v1v⟩) q
    · exact no _ e (Or.inl ⟨e3, v1v⟩) q
    · exact no _ e (Or.inl ⟨e3, v1v⟩) q
    · exact no _ e (Or.inl ⟨e3, v1v⟩) q
  · have v1v : v1.toInt = -2000000000 := by rw [ev, ey]; exact hv1
    have H : u7.toInt < 3 ∧ (Int32.ofInt (-2)).toInt < 0 ∧ -2 ≤ (Int32.ofInt (-2)).toInt ∧ v1.toInt = 1000000000 * (Int32.ofInt (-2)).toInt := ⟨a2, by omega, by omega, by omega⟩
    rcases p with ⟨_, q⟩ | ⟨x, ⟨x2, _⟩ | ⟨_, q⟩⟩
    · exact no _ e (Or.inr H) q
    · omega
    · exact no _ e (Or.inr H) q
  · have v1v : v1.toInt = -1000000000 := by rw [ev, ey]; exact hv2
    have p5 := (po a2).2.2.2.1
    have t3 : t0.toInt = 3 := by rw [ht a2]; omega
    have H : u7.toInt < 3 ∧ (Int32.ofInt (-1)).toInt < 0 ∧ -2 ≤ (Int32.ofInt (-1)).toInt ∧ v1.toInt = 1000000000 * (Int32.ofInt (-1)).toInt := ⟨a2, by rw [im1]; decide, by rw [im1]; decide, by rw [im1]; omega⟩
    rcases p with ⟨x, _⟩ | ⟨x, ⟨x2, ⟨x3, _⟩ | ⟨_, q⟩⟩ | ⟨x2, _⟩⟩
    · omega
    · exact absurd t3 x3
    · exact no _ e (Or.inr H) q
    · omega
  · -- done
    have v1v : v1.toInt = pv σ u7.toNatClampNeg 5 + 1 := by rw [ev, ey, l32 (by omega) (by omega)]; exact vv
    have p5 := (po a2).2.2.2.1
    have t0v := ht a2
    have tcs : tc σ2 = tc σ := congrArg Int32.toInt (F.2 2 0 5 rfl).1
    rcases p with ⟨x, _⟩ | ⟨x, ⟨x2, ⟨_, q⟩ | ⟨x3, _⟩⟩ | ⟨x2, _⟩⟩
    · omega
    · have dd : (t0 + Int32.ofInt 1).toInt = pv σ u7.toNatClampNeg 5 + 1 := by rw [i_inc (by omega) (by omega), t0v]
      have g5 : (Int32.ofInt 5 + u7).toInt = 5 + u7.toInt := by rw [i_add (by omega) (by omega), i5]
      have g5n : (Int32.ofInt 5 + u7).toNatClampNeg = 5 + u7.toNatClampNeg := by have := i_nat (a := Int32.ofInt 5 + u7) (by omega); omega
      rcases q with ⟨x3, _⟩ | ⟨_, ⟨_, _, σ5, e5, _, m, q⟩ | ⟨x4, _⟩⟩
      · omega
      · rw [g5n] at e5
        have spv : (m_i σ2 13 17 (5 + u7.toNatClampNeg)).toInt = pv σ u7.toNatClampNeg 5 := by rw [gf.i (by omega)]; exact l.sp u7.toNatClampNeg (by omega)
        have e5' : ∀ c a b, (c, a) ≠ (13, 17) → m_i σ5 c a b = m_i σ2 c a b := fun c a b hc => by rw [e5, mi_si, if_neg (fun z => hc (by rw [z.1, z.2.1]))]
        have e517 : ∀ b, m_i σ5 13 17 b = if b = 5 + u7.toNatClampNeg then m_i σ2 13 17 (5 + u7.toNatClampNeg) + Int32.ofInt 1 else m_i σ 13 17 b := fun b => by
          rw [e5, mi_si]
          by_cases z : b = 5 + u7.toNatClampNeg
          · rw [if_pos ⟨rfl, rfl, z⟩, if_pos z]
          · rw [if_neg (fun y => z y.2.2), if_neg z, gf.i (by omega)]
        have hD5 : D n N c k σ5 := by rw [e5]; exact D_13 hD (by omega)
        have o12 : ∀ o k, 1 ≤ k → k ≤ 3 → oi σ5 o k = oi σ o k := fun o k h1 h2 => by
          show (m_i σ5 7 o k).toInt = _
          rw [e5' 7 o k (fun z => by cases z)]
          have : k = 1 ∨ k = 2 ∨ k = 3 := by omega
          rcases this with rfl | rfl | rfl
          · exact congrArg Int32.toInt (F.2 7 o 1 rfl).1
          · exact congrArg Int32.toInt (F.2 7 o 2 rfl).1
          · exact congrArg Int32.toInt (F.2 7 o 3 rfl).1
        have e14 : ∀ o, m_i σ5 13 14 o = m_i σ 13 14 o := fun o => (e5' 13 14 o (fun z => by cases z)).trans (gf.i (by omega) o)
        have e15 : ∀ o, m_i σ5 13 15 o = m_i σ 13 15 o := fun o => (e5' 13 15 o (fun z => by cases z)).trans (gf.i (by omega) o)
        obtain ⟨ok, W, hD', pr'⟩ := q187_470' (n := n) (N := N) (c := c) (k := k) (by rw [e517, if_neg (by omega)]; exact l.n0) l.n60 b8.1 (fun o ho => by rw [e15, o12 o 1 (by omega) (by omega), o12 o 2 (by omega) (by omega), o12 o 3 (by omega) (by omega)]; exact (l.ord o ho).2) hD5.1.2.2.1 (fun o ho => by
            rw [e14, (l.ord o ho).1]
            have := (h.1.2.2.1 o ho).2.2.2.1.1
            omega) (by rw [v1v, i64, dd]) m _ _ _ _ q wA4.rf hD5 (by rw [i0]; decide) (by rw [i0]; omega) (fun o ho => by rw [if_neg (fun z => by omega)])
        have mi' : ∀ c a b, (c, a) ≠ (13, 17) → (c, a) ≠ (13, 14) → m_i σ' c a b = m_i σ2 c a b := fun c a b h1 h2 => (W.1 c a b h2).trans (e5' c a b h1)
        have ml' : ∀ c a b, m_l σ' c a b = m_l σ2 c a b := fun c a b => (W.2.1 c a b).trans (by rw [e5]; rfl)
        have tc' : tc σ' = tc σ := by
          rw [← tcs]
          exact congrArg Int32.toInt (mi' 2 0 5 (fun z => by cases z) (fun z => by cases z))
        have o7' : ∀ o k, oi σ' o k = oi σ2 o k := fun o k => congrArg Int32.toInt (mi' 7 o k (fun z => by cases z) (fun z => by cases z))
        have o7 : ∀ o k, 1 ≤ k → k ≤ 3 → oi σ' o k = oi σ o k := fun o k h1 h2 => by
          rw [← o12 o k h1 h2]
          show (m_i σ' 7 o k).toInt = (m_i σ5 7 o k).toInt
          rw [W.1 7 o k (fun z => by cases z)]
        have pv' : ∀ i k, pv σ' i k = pv σ2 i k := fun i k => congrArg Int32.toInt (mi' 8 i k (fun z => by cases z) (fun z => by cases z))
        have m17 : ∀ b, b ≠ 5 + u7.toNatClampNeg → m_i σ' 13 17 b = m_i σ 13 17 b := fun b hb => by rw [W.1 13 17 b (fun z => by cases z), e517, if_neg hb]
        have nF' : nF σ' = nF σ := by
          rw [nF_of (σ := σ) (σ' := σ') (fun i => (mi' 6 i 9 (fun z => by cases z) (fun z => by cases z)).trans (F.2 6 i 9 rfl).1)]
        have sm' : sm σ' = sm σ := by
          rw [← es]
          unfold sm
          simp only [ml']
        have ps' : ∀ j, j < 3 → ps σ' j = 0 := fun j hj => by
          have : ps σ' j = ps σ2 j := by
            unfold ps
            simp only [ml']
          rw [this, ep j, l.pos j hj]
          split
          · rw [Int64.zero_mul, Int64.add_zero]
          · rfl
        refine FIN_RES (n' := n) (N' := N) ⟨ok, hD', ?_⟩ (Int.le_refl _) (by omega) (Nat.le_refl _) (by omega)
        rw [tc']
        refine ⟨W.2.2 (by rw [e5]; exact ⟨gf.1.1, gf.1.2⟩), by rw [m17 _ (by omega)]; exact l.n0, l.n60, fun o ho => ⟨?_, ?_⟩, by rw [m17 _ (by omega)]; exact l.t3, by rw [m17 _ (by omega), nF']; exact l.g4, fun i hi => ?_, by rw [ml', sm', gf.l]; exact l.mon, ps', fun o ho i hi => ?_, ?_, ?_, fun o ho => ?_⟩
        · rw [pr' o ho, e14, (l.ord o ho).1, o12 o 2 (by omega) (by omega), o7']
          by_cases z : oi σ o 2 = u7.toInt
          · rw [if_pos z, (so' o ho (by omega)).1]
            rfl
          · rw [if_neg z]
            exact congrArg Int32.toInt (old o 4 (by omega) ho (fun y => z (by omega))).symm
        · rw [W.1 13 15 o (fun z => by cases z), e15, o7 o 1 (by omega) (by omega), o7 o 2 (by omega) (by omega), o7 o 3 (by omega) (by omega)]
          exact (l.ord o ho).2
        · rw [pv', W.1 13 17 _ (fun z => by cases z), e517]
          by_cases z : i = u7.toNatClampNeg
          · rw [if_pos (by omega), z, q5, i_inc (by omega) (by omega), spv]
          · rw [if_neg (by omega), l.sp i hi]
            exact congrArg Int32.toInt (q5o i z).symm
        · rw [o7 o 2 (by omega) (by omega)] at hi
          rw [o7', pv', q6]
          have b := l.b60 o ho i hi
          by_cases z : i = u7.toNatClampNeg
          · rw [if_pos z, (so' o ho (by omega)).2.2.1, ← Int.mul_assoc, ← z]
            exact Int.mul_le_mul_of_nonneg_right b (by omega)
          · rw [if_neg z]
            have : oi σ2 o 6 = oi σ o 6 := congrArg Int32.toInt (old o 6 (by omega) ho (fun y => z (by omega)))
            rw [this]
            exact b
        · rw [m17 _ (by omega), mi' 2 0 6 (fun z => by cases z) (fun z => by cases z), (F.2 2 0 6 rfl).1]
          exact l.g1
        · intro s j hs hj
          rw [mi' 2 0 6 (fun z => by cases z) (fun z => by cases z), (F.2 2 0 6 rfl).1] at hs
          rw [mi' 13 16 _ (fun z => by cases z) (fun z => by cases z), gf.i (by omega)]
          exact l.rows s j hs hj
        · rw [o7']
          have : oi σ2 o 9 = oi σ o 9 := congrArg Int32.toInt (F.2 7 o 9 rfl).1
          rw [this]
          exact l.st2 o ho
      · omega
    · exact absurd (by omega) x3
    · omega
theorem a187 {n : Int} {N c : Nat} {k : Kt} {x5 x6 x7 : Int32} {w : mX} {σ σ' : mS} (h : S n N c k σ) (hn : n + 11 ≤ 300) (hc : c ≤ 900000) (l : LI N k (tc σ) 0 σ) (b6 : 0 ≤ x6.toInt) (b7 : 0 ≤ x7.toInt) (p : P187 σ x5 x6 x7 w σ') : RES n N c k w σ' := by
  have i0 := i_0
  have i1 := i_1
  have i5 := i_5
  have z0 : (Int64.ofNat 0).toInt = 0 := by decide
  obtain ⟨n2, e2, p⟩ := p
  have v2 : n2.toInt = x6.toInt % 4 := by rw [e2, md32 b6 (by rw [i_4]; decide), i_4]
  have b2 : 0 ≤ n2.toInt ∧ n2.toInt ≤ 3 := by omega
  have nn := i_nat b2.1
  rcases p with ⟨_, ⟨_, ⟨_, n8, e8, m, q⟩ | ⟨_, n11, e11, p⟩⟩ | ⟨_, n16, e16, v18, σ19, gf, _, p172, p⟩⟩ | ⟨_, p⟩
  · exact r187_554 h hn hc l b2 m _ _ _ _ q (by rw [im1]; decide) (by rw [im1]; decide) (fun _ => by rw [im1]; rfl)
  · have i6 : (Int32.ofInt 6).toInt = 6 := by decide
    have m6 : (x7 - x7 / Int32.ofInt 6 * Int32.ofInt 6).toInt = x7.toInt % 6 := by rw [md32 b7 (by rw [i6]; decide), i6]
    have v11 : n11.toInt = 1 + x7.toInt % 6 := by rw [e11, i_add (by rw [m6, i_1]; omega) (by rw [m6, i_1]; omega), m6, i_1]
    rcases p with ⟨a, q⟩ | ⟨a, _, q⟩
    · exact s187_363 h hc l b2 (by omega) (fun z => by omega) (fun _ => i0) q
    · have g5 : (Int32.ofInt 5 + n2).toInt = 5 + n2.toInt := by rw [i_add (by omega) (by omega), i5]
      have g5n : (Int32.ofInt 5 + n2).toNatClampNeg = 5 + n2.toNatClampNeg := by have := i_nat (a := Int32.ofInt 5 + n2) (by omega); omega
      rw [g5n] at q
      exact s187_363 h hc l b2 (by omega) (fun _ => l.sp _ (by omega)) (fun z => by omega) q
  · have i52 : (Int32.ofInt 52).toInt = 52 := by decide
    have z51 : (Int64.ofInt 51).toInt = 51 := by decide
    have v16 : n16.toInt = x7.toInt % 52 := by rw [e16, md32 b7 (by rw [i52]; decide), i52]
    obtain ⟨y, p134, _, _, ev⟩ := d172_6 (by decide) p172
    rcases a134 h hc p134 with ⟨a, ey, e⟩ | ⟨⟨a1, a2⟩, b, ey, e⟩ | ⟨⟨a1, a2⟩, b, v, ey, bv, hD, F⟩
    · subst e
      have vv : v18.toInt = -3000000000 := by rw [ev, ey]; exact hv0
      rcases p with ⟨x, _⟩ | ⟨_, ⟨x, _⟩ | ⟨_, hw, e⟩⟩
      · omega
      · rw [litA] at x
        exact absurd vv x
      · subst e
        rw [hw]
        exact RES_S h l ok1
    · subst e
      have vv : v18.toInt = -2000000000 := by rw [ev, ey]; exact hv1
      rcases p with ⟨_, ⟨x, _⟩ | ⟨_, ⟨x, _⟩ | ⟨_, hw, e⟩⟩⟩ | ⟨x, _⟩
      · omega
      · rw [litB] at x
        exact absurd vv x
      · subst e
        rw [hw]
        exact RES_S h l ok1
      · omega
    · have vv : v18.toInt = v.toInt := by rw [ev, ey, l32 (by omega) (by omega)]
      have tcs : tc σ19 = tc σ := congrArg Int32.toInt (F.2 2 0 5 rfl).1
      have l2 : LI N k (tc σ19) 0 σ19 := by
        rw [tcs]
        exact l.kq gf F rfl (by rw [sm_fw F rfl]; exact l.mon) (fun j => ps_fw F rfl) h.1.2.2.1
      rcases p with ⟨_, ⟨_, ⟨x, _⟩ | ⟨_, ⟨x, _⟩ | ⟨_, hw, e⟩⟩⟩ | ⟨x, _⟩⟩ | ⟨x, _⟩
      · rw [z0, vv] at x
        omega
      · rw [z51, vv] at x
        omega
      · subst e
        rw [hw]
        exact FIN_RES ⟨ok1, hD, l2⟩ (Int.le_refl _) (by omega) (Nat.le_refl _) (by omega)
      · omega
      · omega
  · -- halt and opening
    have po := fun z : n2.toInt < 3 => h.1.po n2.toNatClampNeg (by omega)
    have go : ∀ u8 : Int32, (n2.toInt < 3 → (u8.toInt ≠ 0 ↔ pv σ n2.toNatClampNeg 1 ≠ 0)) → J187_36 x5 n2 u8 σ w σ' → RES n N c k w σ' := by
      intro u8 ha q
      have go2 : ∀ u9 : Int32, (n2.toInt < 3 → u9.toInt = pv σ n2.toNatClampNeg 2) → J187_57 x5 n2 u8 u9 σ w σ' → RES n N c k w σ' := by
        intro u9 h9 q
        rcases q with ⟨a, q⟩ | ⟨a, ⟨v2', q2, q⟩ | ⟨b, q2, _⟩⟩
        · exact s187_75 h hc l b2 ha h9 (fun z => by omega) q
        · obtain ⟨_, ⟨x, _⟩ | ⟨_, v3, v7, r10, r9, v, e, rt⟩⟩ := a136 q2
          · exact absurd ⟨b2.1, by omega⟩ x
          · cases e
            exact s187_75 h hc l b2 ha h9 (fun _ => ⟨v3, v7, r10, r9, rt⟩) q
        · obtain ⟨_, ⟨x, _⟩ | ⟨_, v3, v7, r10, r9, v, e, rt⟩⟩ := a136 q2
          · exact absurd ⟨b2.1, by omega⟩ x
          · cases e
      rcases q with ⟨a, q⟩ | ⟨a, ⟨v2', q2, q⟩ | ⟨b, q2, _⟩⟩
      · exact go2 _ (fun z => by omega) q
      · obtain ⟨_, ⟨x, _⟩ | ⟨_, v, e, vv⟩⟩ := a140 h.1 q2
        · exact absurd ⟨b2.1, by omega⟩ x
        · cases e
          have po := po (by omega)
          exact go2 _ (fun _ => by rw [dv32 (by omega) (by rw [i_10]; decide), i_10, vv]; omega) q
      · obtain ⟨_, ⟨x, _⟩ | ⟨_, v, e, vv⟩⟩ := a140 h.1 q2
        · exact absurd ⟨b2.1, by omega⟩ x
        · cases e
    rcases p with ⟨a, q⟩ | ⟨a, ⟨v29, q29, q⟩ | ⟨b, q29, _⟩⟩
    · exact go _ (fun z => by omega) q
    · obtain ⟨_, ⟨x, _⟩ | ⟨_, v, e, vv⟩⟩ := a140 h.1 q29
      · exact absurd ⟨b2.1, by omega⟩ x
      · cases e
        have po := po (by omega)
        have md : (v29 - v29 / Int32.ofInt 10 * Int32.ofInt 10).toInt = pv σ n2.toNatClampNeg 1 := by
          rw [md32 (by omega) (by rw [i_10]; decide), i_10, vv]
          omega
        rw [md] at q
        rcases q with ⟨x, q⟩ | ⟨x, q⟩
        · exact go _ (fun _ => ⟨fun z => absurd i0 z, fun z => by omega⟩) q
        · exact go _ (fun _ => ⟨fun _ => by omega, fun _ => by rw [i1]; decide⟩) q
    · obtain ⟨_, ⟨x, _⟩ | ⟨_, v, e, vv⟩⟩ := a140 h.1 q29
      · exact absurd ⟨b2.1, by omega⟩ x
      · cases e
