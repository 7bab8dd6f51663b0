/-! the law: instruments -/
theorem dv64 {x d : Int64} (hx : 0 ≤ x.toInt) (hd : 0 < d.toInt) : (x / d).toInt = x.toInt / d.toInt := by
  have xb := x.toInt_lt
  rw [Int64.toInt_div, Int.tdiv_eq_ediv_of_nonneg hx]
  have h0 : 0 ≤ x.toInt / d.toInt := Int.ediv_nonneg hx (by omega)
  have h1 : x.toInt / d.toInt ≤ x.toInt := Int.ediv_le_self _ hx
  exact bmod64 (by omega) (by omega)
theorem md64 {x d : Int64} (hx : 0 ≤ x.toInt) (hd : 0 < d.toInt) : (x - x / d * d).toInt = x.toInt % d.toInt := by
  have xb := x.toInt_lt
  have e1 := dv64 hx hd
  have h0 : 0 ≤ x.toInt / d.toInt := Int.ediv_nonneg hx (by omega)
  have h2 := Int.mul_ediv_add_emod x.toInt d.toInt
  have h3 := Int.emod_nonneg x.toInt (show d.toInt ≠ 0 by omega)
  have h5 : 0 ≤ x.toInt / d.toInt * d.toInt := Int.mul_nonneg h0 (by omega)
  have h4 : x.toInt / d.toInt * d.toInt = d.toInt * (x.toInt / d.toInt) := Int.mul_comm _ _
  have e2 : (x / d * d).toInt = x.toInt / d.toInt * d.toInt := by rw [l_mul (by rw [e1]; omega) (by rw [e1]; omega), e1]
  rw [l_sub (by rw [e2]; omega) (by rw [e2]; omega), e2]
  omega
/-! what an opening would come to: one answer in states with the same orders -/
section UQ
variable {σ σ2 : mS} {N : Nat}
theorem u8 (hn : hN σ N) (hl : lB σ N) (hn2 : hN σ2 N) (e7 : ∀ o k, m_i σ2 7 o k = m_i σ 7 o k) {x1 x2 x3 x4 w w2 : Int32} (p : P8 σ x1 x2 x3 x4 w) (q : P8 σ2 x1 x2 x3 x4 w2) : w2 = w := by
  have eo : ∀ o k, oi σ2 o k = oi σ o k := fun o k => congrArg Int32.toInt (e7 o k)
  have a := p8 hn hl p
  have b := p8 hn2 (fun o ho => by rw [eo]; exact hl o ho) q
  have g : gd σ2 x1.toInt x2.toInt x3.toInt x4.toInt = gd σ x1.toInt x2.toInt x3.toInt x4.toInt := by
    funext o
    unfold gd stIn
    simp only [eo]
  have l : (fun o => oi σ2 o 6) = (fun o => oi σ o 6) := funext fun o => eo o 6
  rw [g, l] at b
  exact Int32.toInt_inj.mp (b.trans a.symm)
theorem u9 (hn : hN σ N) (hl : lB σ N) (hn2 : hN σ2 N) (e7 : ∀ o k, m_i σ2 7 o k = m_i σ 7 o k) {x1 x2 w w2 : Int32} (p : P9 σ x1 x2 w) (q : P9 σ2 x1 x2 w2) : w2 = w := by
  obtain ⟨a, pa, b, pb, rfl⟩ := p
  obtain ⟨a', qa, b', qb, rfl⟩ := q
  rw [u8 hn hl hn2 e7 pa qa, u8 hn hl hn2 e7 pb qb]
theorem u11 (hn : hN σ N) (hl : lB σ N) (hn2 : hN σ2 N) (e7 : ∀ o k, m_i σ2 7 o k = m_i σ 7 o k) {x1 x2 x3 x4 w w2 : Int32} (p : P11 σ x1 x2 x3 x4 w) (q : P11 σ2 x1 x2 x3 x4 w2) : w2 = w := by
  obtain ⟨a, pa, b, pb, c, pc, d, pd, n, en, p⟩ := p
  obtain ⟨a', qa, b', qb, c', qc, d', qd, n', en', q⟩ := q
  rw [u8 hn hl hn2 e7 pa qa, u8 hn hl hn2 e7 pb qb, u8 hn hl hn2 e7 pc qc, u8 hn hl hn2 e7 pd qd, ← en] at en'
  rw [u8 hn hl hn2 e7 pa qa, u8 hn hl hn2 e7 pb qb, u8 hn hl hn2 e7 pc qc, u8 hn hl hn2 e7 pd qd] at q
  subst en'
  rcases p with ⟨c1, m, em, p⟩ | ⟨c1, ⟨c2, rfl⟩ | ⟨c2, rfl⟩⟩
  · rcases q with ⟨_, m', em', q⟩ | ⟨d1, _⟩
    · rw [← em] at em'
      subst em'
      rcases p with ⟨c2, l, el, p⟩ | ⟨c2, ⟨c3, rfl⟩ | ⟨c3, rfl⟩⟩
      · rcases q with ⟨_, l', el', q⟩ | ⟨d2, _⟩
        · rw [← el] at el'
          subst el'
          rcases p with ⟨c3, ⟨c4, rfl⟩ | ⟨c4, rfl⟩⟩ | ⟨c3, ⟨c4, rfl⟩ | ⟨c4, rfl⟩⟩ <;> rcases q with ⟨d3, ⟨d4, rfl⟩ | ⟨d4, rfl⟩⟩ | ⟨d3, ⟨d4, rfl⟩ | ⟨d4, rfl⟩⟩ <;> first | rfl | exact absurd c4 d4 | exact absurd d4 c4 | exact absurd c3 d3 | exact absurd d3 c3
        · exact absurd c2 d2
      · rcases q with ⟨d2, _⟩ | ⟨_, ⟨d3, rfl⟩ | ⟨d3, rfl⟩⟩ <;> first | rfl | exact absurd c3 d3 | exact absurd d3 c3 | exact absurd d2 c2
      · rcases q with ⟨d2, _⟩ | ⟨_, ⟨d3, rfl⟩ | ⟨d3, rfl⟩⟩ <;> first | rfl | exact absurd c3 d3 | exact absurd d3 c3 | exact absurd d2 c2
    · exact absurd c1 d1
  · rcases q with ⟨d1, _⟩ | ⟨_, ⟨d2, rfl⟩ | ⟨d2, rfl⟩⟩ <;> first | rfl | exact absurd c2 d2 | exact absurd d2 c2 | exact absurd d1 c1
  · rcases q with ⟨d1, _⟩ | ⟨_, ⟨d2, rfl⟩ | ⟨d2, rfl⟩⟩ <;> first | rfl | exact absurd c2 d2 | exact absurd d2 c2 | exact absurd d1 c1
theorem p99' {τ : mS} {a : Nat} {w : Int32} (p : P99 τ a w) : (w.toInt = 0 ∧ oi τ a 9 ≠ 1) ∨ (w.toInt ≠ 0 ∧ oi τ a 9 = 1) := by
  have z0 := i_0
  have z1 := i_1
  rcases p with ⟨c, rfl⟩ | ⟨c, rfl⟩
  · exact Or.inl ⟨z0, c⟩
  · exact Or.inr ⟨by omega, Decidable.of_not_not c⟩
theorem u10_s (hn : hN σ N) (hl : lB σ N) (hn2 : hN σ2 N) (e7 : ∀ o k, m_i σ2 7 o k = m_i σ 7 o k) {c1 c2 : Int32} : ∀ n n' (u3 u4 w w2 : Int32), Q10_5 σ c1 c2 n u3 u4 w → Q10_5 σ2 c1 c2 n' u3 u4 w2 → w2 = w := by
  have e01 : m_i σ2 0 0 1 = m_i σ 0 0 1 := Int32.toInt_inj.mp (hn2.1.trans hn.1.symm)
  intro n
  induction n with
  | zero => intro n' u3 u4 w w2 p; exact p.elim
  | succ n IH =>
    intro n' u3 u4 w w2 p q
    cases n' with
    | zero => exact q.elim
    | succ n' =>
      have p : B10_5 σ c1 c2 (Q10_5 σ c1 c2 n) u3 u4 w := p
      have q : B10_5 σ2 c1 c2 (Q10_5 σ2 c1 c2 n') u3 u4 w2 := q
      unfold B10_5 at p q
      rw [e01] at q
      rcases p with ⟨a1, rfl⟩ | ⟨a1, p⟩
      · rcases q with ⟨_, rfl⟩ | ⟨b1, _⟩
        · rfl
        · exact absurd a1 b1
      rcases q with ⟨b1, _⟩ | ⟨_, q⟩
      · exact absurd b1 a1
      rcases p with ⟨a2, rfl⟩ | ⟨a2, _, v4, pv4, p⟩
      · rcases q with ⟨_, rfl⟩ | ⟨b2, _⟩
        · rfl
        · exact absurd a2 b2
      rcases q with ⟨b2, _⟩ | ⟨_, _, w4, qv4, q⟩
      · exact absurd b2 a2
      have o9 : oi σ2 u4.toNatClampNeg 9 = oi σ u4.toNatClampNeg 9 := congrArg Int32.toInt (e7 _ _)
      rw [e7, e7] at q
      rcases p99' pv4 with ⟨x1, x2⟩ | ⟨x1, x2⟩
      · rcases p with ⟨_, p⟩ | ⟨y, _⟩
        · rcases p99' qv4 with ⟨y1, y2⟩ | ⟨y1, y2⟩
          · rcases q with ⟨_, q⟩ | ⟨y, _⟩
            · exact IH _ _ _ _ _ p q
            · exact absurd y1 y
          · rw [o9] at y2
            exact absurd y2 x2
        · exact absurd x1 y
      · rcases p with ⟨y, _⟩ | ⟨_, p⟩
        · exact absurd y x1
        rcases p99' qv4 with ⟨y1, y2⟩ | ⟨y1, y2⟩
        · rw [o9] at y2
          exact absurd x2 y2
        rcases q with ⟨y, _⟩ | ⟨_, q⟩
        · exact absurd y y1
        rcases p with ⟨a3, p⟩ | ⟨a3, p⟩
        · rcases q with ⟨_, q⟩ | ⟨b3, _⟩
          · exact IH _ _ _ _ _ p q
          · exact absurd a3 b3
        rcases q with ⟨b3, _⟩ | ⟨_, q⟩
        · exact absurd b3 a3
        rcases p with ⟨a4, p⟩ | ⟨a4, v11, pv11, p⟩
        · rcases q with ⟨_, q⟩ | ⟨b4, _⟩
          · exact IH _ _ _ _ _ p q
          · exact absurd a4 b4
        rcases q with ⟨b4, _⟩ | ⟨_, w11, qv11, q⟩
        · exact absurd b4 a4
        have := u11 hn hl hn2 e7 pv11 qv11
        subst this
        rcases p with ⟨a5, p⟩ | ⟨a5, p⟩
        · rcases q with ⟨_, q⟩ | ⟨b5, _⟩
          · exact IH _ _ _ _ _ p q
          · exact absurd a5 b5
        · rcases q with ⟨b5, _⟩ | ⟨_, q⟩
          · exact absurd b5 a5
          · exact IH _ _ _ _ _ p q
theorem u10 (hn : hN σ N) (hl : lB σ N) (hn2 : hN σ2 N) (e7 : ∀ o k, m_i σ2 7 o k = m_i σ 7 o k) {x1 x2 w w2 : Int32} (p : P10 σ x1 x2 w) (q : P10 σ2 x1 x2 w2) : w2 = w := by
  obtain ⟨n, p⟩ := p
  obtain ⟨n', q⟩ := q
  exact u10_s hn hl hn2 e7 n n' _ _ _ _ p q
end UQ
theorem sg_c {G : Nat → Prop} {l : Nat → Int} {N : Nat} {B : Int} (hB : 0 ≤ B) (h : ∀ o, o < N → 0 ≤ l o ∧ l o ≤ B) : ∀ k, k ≤ N → 0 ≤ sg G l k ∧ sg G l k ≤ B * k := by
  intro k
  induction k with
  | zero => intro _; exact ⟨Int.le_refl _, by show (0 : Int) ≤ B * ((0 : Nat) : Int); omega⟩
  | succ k IH =>
    intro hk
    have a := IH (by omega)
    have b := h k (by omega)
    have e : B * ((k + 1 : Nat) : Int) = B * k + B := by rw [Int.natCast_succ, Int.mul_add, Int.mul_one]
    show 0 ≤ sg G l k + @ite _ (G k) (Classical.propDecidable _) (l k) 0 ∧ sg G l k + @ite _ (G k) (Classical.propDecidable _) (l k) 0 ≤ _
    rw [e]
    split <;> omega
/-- as much as is indicated is less than a million -/
theorem b9 {n : Int} {N : Nat} {k : Kt} {T : Int} {d : Int64} {σ : mS} {x1 x2 w : Int32} (h : HI n N σ) (l : LI N k T d σ) (p : P9 σ x1 x2 w) : 0 ≤ w.toInt ∧ w.toInt < 1000000 := by
  have lb : ∀ o, o < N → 0 ≤ oi σ o 6 ∧ oi σ o 6 ≤ 7500 := fun o ho => by
    obtain ⟨_, o2, _⟩ := h.2.2.1 o ho
    have n2 := i_nat (a := m_i σ 7 o 2) o2.1
    have g2 : (m_i σ 7 o 2).toInt < 3 := o2.2
    have a := l.b60 o ho (m_i σ 7 o 2).toNatClampNeg n2.symm
    have b := (h.po (m_i σ 7 o 2).toNatClampNeg (by omega)).2.2.2.2.2.2.2.2
    have c := (h.lb o ho).1
    omega
  have N60 := l.n60
  have bb : ∀ {x y v : Int32}, P8 σ x1 x y (Int32.ofInt (-1)) v → 0 ≤ v.toInt ∧ v.toInt < 1000000 := fun {x y v} q => by
    rw [p8 h.2.1 h.lb q]
    have := sg_c (G := gd σ x1.toInt x.toInt y.toInt (Int32.ofInt (-1)).toInt) (by decide) lb N (Nat.le_refl _)
    omega
  obtain ⟨a, pa, b, pb, rfl⟩ := p
  unfold jmin
  split
  · exact bb pb
  · exact bb pa
theorem s187_190 {n : Int} {N c : Nat} {k : Kt} {t0 t1 : Int64} {w : mX} {σ σ' : mS} (h : S n N c k σ) (l : LI N k (tc σ) 0 σ) (e : t1.toInt = t0.toInt) (p : J187_190 t0 t1 σ w σ') : RES n N c k w σ' := by
  rcases p with ⟨a, _⟩ | ⟨_, hw, e2⟩
  · exact absurd e a
  · subst e2
    rw [hw]
    exact RES_S h l ok1
/-- opening -/
theorem s187_open {n : Int} {N c : Nat} {k : Kt} {u7 u8 : Int32} {t0 v2 : Int64} {w : mX} {σ σ3 σ' : mS} (h : S n N c k σ) (hc : c ≤ 900000) (l : LI N k (tc σ) 0 σ) (gf : gF σ σ3) (b7 : 0 ≤ u7.toInt ∧ u7.toInt ≤ 3) (ha : u7.toInt < 3 → (u8.toInt ≠ 0 ↔ pv σ u7.toNatClampNeg 1 ≠ 0)) (hi : u7.toInt < 3 → ∃ v3 v7 : Int32, P10 σ u7 (m_i σ 8 u7.toNatClampNeg 3) v3 ∧ P9 σ u7 v3 v7 ∧ ((v7.toInt ≠ 0 ∧ t0 = Int64.ofInt 1000000 * v3.toInt64 + v7.toInt64) ∨ (v7.toInt = 0 ∧ t0 = Int64.ofNat 0))) (p172 : P172 σ (Int32.ofInt 7) u7 (Int32.ofInt 0) (Int32.ofInt 0) (Int32.ofInt 0) (Int32.ofInt 0) (Int32.ofInt 0) (Int32.ofInt 0) (.inl (some (.inr (.inl v2)))) σ3)
    (p : ((u7).toInt = (3 : Int) ∧ J187_173 (u7) (v2) σ3 w σ') ∨ (¬ ((u7).toInt = (3 : Int)) ∧ (((u8).toInt ≠ (0 : Int) ∧ (((v2).toInt < (Int64.ofNat 0).toInt ∧ J187_231 σ3 w σ') ∨ (¬ ((v2).toInt < (Int64.ofNat 0).toInt) ∧ ((((t0) - (t0) / (Int64.ofInt 1000000) * (Int64.ofInt 1000000)).toInt < (v2).toInt ∧ J187_231 σ3 w σ') ∨ (¬ (((t0) - (t0) / (Int64.ofInt 1000000) * (Int64.ofInt 1000000)).toInt < (v2).toInt) ∧ ((∃ v11 σ12, HL σ12 ∧ P181 σ3 (.inl (some (.inl v11))) σ12 ∧ (((v11).toInt = (0 : Int) ∧ J187_231 σ12 w σ') ∨ (¬ ((v11).toInt = (0 : Int)) ∧ w = .inl (some (.inl (Int32.ofInt 1))) ∧ σ' = σ12))) ∨ (∃ b, HL σ' ∧ P181 σ3 (.inr b) σ' ∧ w = .inr b))))))) ∨ (¬ ((u8).toInt ≠ (0 : Int)) ∧ J187_173 (u7) (v2) σ3 w σ')))) : RES n N c k w σ' := by
  have z0 : (Int64.ofNat 0).toInt = 0 := by decide
  have zm : (Int64.ofInt 1000000).toInt = 1000000 := by decide
  have t00 : 0 ≤ tc σ := h.1.to.1.1
  obtain ⟨y, p137, _, _, ev⟩ := d172_7 (by decide) p172
  rcases a137 h hc p137 with ⟨a, ey, e⟩ | ⟨⟨a1, a2⟩, ph, ey, e⟩ | ⟨⟨a1, a2⟩, ph, v, ey, hD, m, old, K, F, v3, v7, σ20, F20, q10, q9, w0', w1'⟩
  · have e3 : u7.toInt = 3 := by omega
    subst e
    have v2v : v2.toInt = -3000000000 := by rw [ev, ey]; exact hv0
    have go : J187_173 u7 v2 σ3 w σ' → RES n N c k w σ' := fun q => by
      rcases q with ⟨x, _⟩ | ⟨_, q⟩
      · exact absurd e3 x
      · exact s187_190 h l (by rw [v2v, litA]) q
    rcases p with ⟨_, q⟩ | ⟨x, _⟩
    · exact go q
    · exact absurd e3 x
  · have ha := ha a2
    subst e
    have v2v : v2.toInt = -1000000000 := by rw [ev, ey]; exact hv2
    rcases p with ⟨x, _⟩ | ⟨_, ⟨x, _⟩ | ⟨_, q⟩⟩
    · omega
    · exact absurd ph (ha.mp x)
    · rcases q with ⟨_, q⟩ | ⟨x, _⟩
      · exact s187_190 h l (by rw [v2v, litC]) q
      · omega
  · have ha := ha a2
    obtain ⟨v3', v7', r10, r9, rt⟩ := hi a2
    have e7 : ∀ o k, m_i σ20 7 o k = m_i σ 7 o k := fun o k => by
      have : fwh (wl LN) 7 k = true := by unfold fwh; rfl
      exact (F20.2 7 o k this).1
    have hn20 : hN σ20 N := ⟨by rw [(F20.2 0 0 1 rfl).1]; exact h.1.2.1.1, h.1.2.1.2⟩
    have nn := i_nat a1
    have num : m_i σ20 8 u7.toNatClampNeg 0 = u7 := by
      rw [(F20.2 8 _ 0 rfl).1, pn h.1.1 (by omega)]
      exact Int32.toInt_inj.mp (by rw [i_ofNat (by omega)]; exact nn)
    rw [num, (F20.2 8 _ 3 rfl).1] at q10
    rw [num] at q9
    have e10 := u10 h.1.2.1 h.1.lb hn20 e7 r10 q10
    subst e10
    have e9 := u9 h.1.2.1 h.1.lb hn20 e7 r9 q9
    subst e9
    have b := b9 h.1 l r9
    have b3' : 0 ≤ v3.toInt ∧ v3.toInt ≤ 9999 := by
      obtain ⟨nq, qq⟩ := r10
      rcases q10_s h.1.2.1 nq _ _ _ qq (by rw [i_0]; decide) (Or.inl i_0) with z | ⟨o, ho, z⟩
      · omega
      · have := (h.1.2.2.1 o ho).2.2.2.1
        omega
    have md : (t0 - t0 / Int64.ofInt 1000000 * Int64.ofInt 1000000).toInt = v7.toInt := by
      rcases rt with ⟨_, e⟩ | ⟨z, e⟩
      · have e1 : (Int64.ofInt 1000000 * v3.toInt64).toInt = 1000000 * v3.toInt := by rw [l_mul (by rw [zm, i64]; omega) (by rw [zm, i64]; omega), zm, i64]
        have e2 : t0.toInt = 1000000 * v3.toInt + v7.toInt := by rw [e, l_add (by rw [e1, i64]; omega) (by rw [e1, i64]; omega), e1, i64]
        rw [md64 (by omega) (by rw [zm]; decide), zm, e2]
        omega
      · rw [md64 (by rw [e, z0]; decide) (by rw [zm]; decide), zm, e, z0, z]
        rfl
    have v2v : v2.toInt = v.toInt := by rw [ev, ey, l32 (by omega) (by omega)]
    have l2 : LI N k (tc σ) 0 σ3 := l.ko (c := c) h.1 gf F K (fun o k ho h1 h2 => old o k ho h1 (by omega)) m
    have fin : ∀ {w' : mX} {σ2 : mS}, P181 σ3 w' σ2 → FIN n N c k w' σ2 := fun q => fin181 hD l2 t00 (kT_tc K) K.2.2.1 q
    rcases p with ⟨x, _⟩ | ⟨_, ⟨_, p⟩ | ⟨x, _⟩⟩
    · omega
    · rcases p with ⟨x, _⟩ | ⟨_, ⟨x, _⟩ | ⟨_, ⟨v11, σ12, _, q, ⟨x, _⟩ | ⟨_, hw, e⟩⟩ | ⟨b, _, q, _⟩⟩⟩
      · rw [z0, v2v] at x
        omega
      · rw [md, v2v] at x
        omega
      · obtain ⟨⟨v, e, ne⟩, _⟩ := fin q
        cases e
        exact absurd x ne
      · obtain ⟨_, f2, f3⟩ := fin q
        subst e
        rw [hw]
        exact FIN_RES ⟨ok1, f2, f3⟩ (Int.le_refl _) (by omega) (Nat.le_refl _) (by omega)
      · obtain ⟨⟨v, e, ne⟩, _⟩ := fin q
        cases e
    · exact absurd (ha.mpr ph) x
/-- a halt -/
theorem s187_115 {n : Int} {N : Nat} {u7 u9 t0 t1 : Int32} {w : mX} {σ σ' : mS} (h : HI n N σ) (b7 : 0 ≤ u7.toInt ∧ u7.toInt ≤ 3) (e : t1.toInt = t0.toInt) (h9 : u7.toInt < 3 → 10 * pv σ u7.toNatClampNeg 2 + pv σ u7.toNatClampNeg 1 = 10 * u9.toInt + 1 ∧ 0 ≤ u9.toInt ∧ u9.toInt ≤ 9999) (p : J187_115 u7 u9 t0 t1 σ w σ') : OKw w ∧ σ' = σ := by
  rcases p with ⟨a, _⟩ | ⟨_, ⟨_, hw, e2⟩ | ⟨b, ⟨v3, q, ⟨c, _⟩ | ⟨_, hw, e2⟩⟩ | ⟨bb, q, _⟩⟩⟩
  · exact absurd e a
  · exact ⟨by rw [hw]; exact ok1, e2⟩
  · obtain ⟨_, ⟨x, _⟩ | ⟨_, v, ee, ev⟩⟩ := a140 h q
    · exact absurd ⟨b7.1, by omega⟩ x
    · cases ee
      obtain ⟨y1, y2, y3⟩ := h9 (by omega)
      have m1 : (Int32.ofInt 10 * u9).toInt = 10 * u9.toInt := by rw [i_mul (by rw [i_10]; omega) (by rw [i_10]; omega), i_10]
      rw [i_add (by rw [m1, i_1]; omega) (by rw [m1, i_1]; omega), m1, i_1, ev] at c
      exact absurd y1 c
  · exact ⟨by rw [hw]; exact ok1, e2⟩
  · obtain ⟨_, ⟨x, _⟩ | ⟨_, v, ee, ev⟩⟩ := a140 h q
    · exact absurd ⟨b7.1, by omega⟩ x
    · cases ee
theorem s187_75 {n : Int} {N c : Nat} {k : Kt} {u4 u7 u8 u9 : Int32} {t0 : Int64} {w : mX} {σ σ' : mS} (h : S n N c k σ) (hc : c ≤ 900000) (l : LI N k (tc σ) 0 σ) (b7 : 0 ≤ u7.toInt ∧ u7.toInt ≤ 3) (ha : u7.toInt < 3 → (u8.toInt ≠ 0 ↔ pv σ u7.toNatClampNeg 1 ≠ 0)) (h9 : u7.toInt < 3 → u9.toInt = pv σ u7.toNatClampNeg 2) (hi : u7.toInt < 3 → ∃ v3 v7 : Int32, P10 σ u7 (m_i σ 8 u7.toNatClampNeg 3) v3 ∧ P9 σ u7 v3 v7 ∧ ((v7.toInt ≠ 0 ∧ t0 = Int64.ofInt 1000000 * v3.toInt64 + v7.toInt64) ∨ (v7.toInt = 0 ∧ t0 = Int64.ofNat 0))) (p : J187_75 u4 u7 u8 u9 t0 σ w σ') : RES n N c k w σ' := by
  have i0 := i_0
  have i1 := i_1
  rcases p with ⟨_, v2, σ3, gf, _, p172, p⟩ | ⟨_, v16, σ17, gf, _, p173, p⟩
  · exact s187_open h hc l gf b7 ha hi p172 p
  · obtain ⟨y, p175, _, _, ev⟩ := d173_1 i1 p173
    have nn := i_nat b7.1
    have po := fun z : u7.toInt < 3 => h.1.po u7.toNatClampNeg (by omega)
    have O : (u7.toInt = 3 ∧ v16.toInt = -3 ∧ σ17 = σ) ∨ (u7.toInt < 3 ∧ pv σ u7.toNatClampNeg 1 ≠ 0 ∧ v16.toInt = -1 ∧ σ17 = σ) ∨ (u7.toInt < 3 ∧ pv σ u7.toNatClampNeg 1 = 0 ∧ v16.toInt = 0 ∧ D n N c k σ17 ∧ pv σ17 u7.toNatClampNeg 1 = 1 ∧ fw_e (wl ((8, 1) :: (8, 7) :: LD)) σ σ17) := by
      rcases p175 with ⟨σ3, _, q, ey, rfl⟩ | ⟨b, _, q, ey⟩
      · rcases a135 h hc q with ⟨_, z, _⟩ | ⟨_, _, z, _⟩ | ⟨⟨_, a2⟩, ph, _, hD, p1, _, F⟩
        · cases z
        · cases z
        · exact Or.inr (Or.inr ⟨a2, ph, by rw [ev, ey]; exact i0, hD, p1, F⟩)
      · rcases a135 h hc q with ⟨a, z, e⟩ | ⟨⟨_, a2⟩, ph, z, e⟩ | ⟨_, _, z, _⟩
        · cases z
          exact Or.inl ⟨by omega, by rw [ev, ey]; exact hw0, e⟩
        · cases z
          exact Or.inr (Or.inl ⟨a2, ph, by rw [ev, ey]; exact hw2, e⟩)
        · cases z
    rcases O with ⟨e3, v, e⟩ | ⟨a2, ph, v, e⟩ | ⟨a2, ph, v, hD, p1, F⟩
    · subst e
      rcases p with ⟨x, _⟩ | ⟨_, q⟩
      · exact absurd e3 x
      · obtain ⟨o, e⟩ := s187_115 h.1 b7 (by rw [v]; decide) (fun z => by omega) q
        subst e
        exact RES_S h l o
    · subst e
      have po := po a2
      rcases p with ⟨_, ⟨x, _⟩ | ⟨_, q⟩⟩ | ⟨x, _⟩
      · exact absurd x ((ha a2).mpr ph)
      · obtain ⟨o, e⟩ := s187_115 h.1 b7 (by rw [v, im1]) (fun z => by rw [h9 z]; omega) q
        subst e
        exact RES_S h l o
      · omega
    · have po := po a2
      have tcs : tc σ17 = tc σ := congrArg Int32.toInt (F.2 2 0 5 rfl).1
      have p2 : pv σ17 u7.toNatClampNeg 2 = pv σ u7.toNatClampNeg 2 := congrArg Int32.toInt (F.2 8 _ 2 rfl).1
      have l2 : LI N k (tc σ17) 0 σ17 := by
        rw [tcs]
        exact l.kq gf F rfl (by rw [sm_fw F rfl]; exact l.mon) (fun j => ps_fw F rfl) h.1.2.2.1
      rcases p with ⟨_, ⟨_, q⟩ | ⟨x, _⟩⟩ | ⟨x, _⟩
      · obtain ⟨o, e⟩ := s187_115 hD.1 b7 (by rw [v, i0]) (fun z => by rw [h9 z, p2, p1]; omega) q
        subst e
        exact FIN_RES ⟨o, hD, l2⟩ (Int.le_refl _) (by omega) (Nat.le_refl _) (by omega)
      · exact absurd ph ((ha a2).mp x)
      · omega
/-! dividends -/
theorem lmax0 (v : Int64) : lmax (Int64.ofNat 0) v = if v.toInt ≤ 0 then Int64.ofNat 0 else v := by
  have z0 : (Int64.ofNat 0).toInt = 0 := by decide
  unfold lmax
  by_cases c : v < Int64.ofNat 0
  · have := Int64.lt_iff_toInt_lt.mp c
    rw [if_pos c, if_pos (by omega)]
  · have c' : ¬ v.toInt < (Int64.ofNat 0).toInt := fun z => c (Int64.lt_iff_toInt_lt.mpr z)
    rw [if_neg c]
    by_cases d : v.toInt ≤ 0
    · rw [if_pos d]
      exact Int64.toInt_inj.mp (by omega)
    · rw [if_neg d]
theorem s187_604 {n : Int} {N c : Nat} {k : Kt} {u7 u8 : Int32} {u9 : Int64} {w : mX} {σ σ' : mS} (h : S n N c k σ) (hn : n + 11 ≤ 300) (hc : c ≤ 900000) (l : LI N k (tc σ) 0 σ) (b7 : 0 ≤ u7.toInt ∧ u7.toInt ≤ 3) (e9 : u7.toInt < 3 → u9 = dS σ u7.toNatClampNeg u8.toInt64 6) (p : J187_604 u7 u8 u9 σ w σ') : RES n N c k w σ' := by
  obtain ⟨v1, σ2, gf, _, p172, p⟩ := p
  obtain ⟨y, p139, _, _, ev⟩ := d172_9 (by decide) p172
  rcases a139 h hn hc p139 with ⟨a, ey, e⟩ | ⟨⟨a1, a2⟩, b, ey, e⟩ | ⟨⟨a1, a2⟩, b, v, ey, vv, hD, es, F⟩
  · subst e
    have v1v : v1.toInt = -3000000000 := by rw [ev, ey]; exact hv0
    rcases p with ⟨x, _⟩ | ⟨_, ⟨x, _⟩ | ⟨_, hw, e⟩⟩
    · omega
    · rw [litA] at x
      exact absurd v1v x
    · subst e
      rw [hw]
      exact RES_S h l ok1
  · subst e
    have v1v : v1.toInt = -2000000000 := by rw [ev, ey]; exact hv1
    have go : J187_658 v1 σ2 w σ' → RES n N c k w σ' := fun q => by
      rcases q with ⟨x, _⟩ | ⟨_, hw, e⟩
      · rw [litB] at x
        exact absurd v1v x
      · subst e
        rw [hw]
        exact RES_S h l ok1
    rcases p with ⟨_, ⟨_, q⟩ | ⟨x, ⟨x2, _⟩ | ⟨_, q⟩⟩⟩ | ⟨x, _⟩
    · exact go q
    · omega
    · exact go q
    · omega
  · have v1v : v1 = u9 := by
      rw [ev, ey, e9 a2]
      exact vv
    have tcs : tc σ2 = tc σ := congrArg Int32.toInt (F.2 2 0 5 rfl).1
    have l2 : LI N k (tc σ2) 0 σ2 := by
      rw [tcs]
      exact l.kq gf F rfl (by rw [es, l.pos _ (by have := i_nat (a := u7) (by omega); omega), Int64.zero_mul]; exact l.mon.trans (Int64.add_zero _).symm) (fun j => ps_fw F rfl) h.1.2.2.1
    rcases p with ⟨_, ⟨x, _⟩ | ⟨x, ⟨_, ⟨y, _⟩ | ⟨_, hw, e⟩⟩ | ⟨x2, _⟩⟩⟩ | ⟨x, _⟩
    · omega
    · rw [v1v] at y
      exact absurd rfl y
    · subst e
      rw [hw]
      exact FIN_RES ⟨ok1, hD, l2⟩ (by omega) (by omega) (Nat.le_refl _) (by omega)
    · omega
    · omega
theorem r187_554 {n : Int} {N c : Nat} {k : Kt} {c1 c2 : Int32} {σ : mS} (h : S n N c k σ) (hn : n + 11 ≤ 300) (hc : c ≤ 900000) (l : LI N k (tc σ) 0 σ) (b7 : 0 ≤ c1.toInt ∧ c1.toInt ≤ 3) : ∀ m (u9 : Int64) (u11 : Int32) (w : mX) (σ' : mS), Q187_554 c1 c2 m u9 u11 σ w σ' → -1 ≤ u11.toInt → u11.toInt ≤ 5 → (c1.toInt < 3 → u9 = dS σ c1.toNatClampNeg c2.toInt64 (u11.toInt + 1).toNat) → RES n N c k w σ' := by
  intro m
  induction m with
  | zero => intro u9 u11 w σ' q; exact q.elim
  | succ m IH =>
    intro u9 u11 w σ' qq p0 p5 hu
    replace qq : B187_554 c1 c2 (Q187_554 c1 c2 m) u9 u11 σ w σ' := qq
    rcases qq with ⟨a, q⟩ | ⟨a, ⟨b, q⟩ | ⟨b, ⟨v3, q3, q⟩ | ⟨bb, q3, _⟩⟩⟩
    · refine s187_604 h hn hc l b7 (fun z => ?_) q
      have := hu z
      have e : (u11.toInt + 1).toNat = 6 := by omega
      rw [e] at this
      exact this
    · exact s187_604 h hn hc l b7 (fun z => by omega) q
    · have e3 := k144 h.1 (x1 := u11) ⟨p0, by omega⟩ ⟨b7.1, by omega⟩ q3
      cases e3
      have inc : (u11 + Int32.ofInt 1).toInt = u11.toInt + 1 := by rw [i_add (by rw [i_1]; omega) (by rw [i_1]; omega), i_1]
      have hh : hx u11 = (u11.toInt + 1).toNat := by
        unfold hx
        split
        · omega
        · have := i_nat (a := u11) (by omega)
          omega
      have st : dS σ c1.toNatClampNeg c2.toInt64 (u11.toInt + 1 + 1).toNat = dS σ c1.toNatClampNeg c2.toInt64 (u11.toInt + 1).toNat + lmax (Int64.ofNat 0) (m_l σ 14 (hx u11) c1.toNatClampNeg * c2.toInt64) := by
        have : (u11.toInt + 1 + 1).toNat = (u11.toInt + 1).toNat + 1 := by omega
        rw [this, hh]
        rfl
      have z0 : (Int64.ofNat 0).toInt = 0 := by decide
      rw [z0] at q
      rcases q with ⟨x, q⟩ | ⟨x, q⟩
      · refine IH _ _ _ _ q (by omega) (by omega) (fun z => ?_)
        rw [inc, st, lmax0, if_pos x, hu z]
      · refine IH _ _ _ _ q (by omega) (by omega) (fun z => ?_)
        rw [inc, st, lmax0, if_neg x, hu z]
    · have e3 := k144 h.1 (x1 := u11) ⟨p0, by omega⟩ ⟨b7.1, by omega⟩ q3
      cases e3
