/-! the law's checks behind each turn -/
theorem m145 {x1 x2 : Int32} {i j : Nat} {σ σ' : mS} {w : mX} {A : Int64 → Prop} (h1 : mh x1) (h2 : b3 x2) (ei : hx x1 = i) (ej : x2.toNatClampNeg + 2 = j) (p : (∃ v, P145 σ x1 x2 (.inl (some (.inr (.inl v)))) σ ∧ A v) ∨ (∃ b, P145 σ x1 x2 (.inr b) σ ∧ w = .inr b ∧ σ' = σ)) : A (m_l σ 6 i j) := by
  have nn := i_nat h2.1
  rcases p with ⟨v, q, a⟩ | ⟨b, q, _⟩
  · obtain ⟨v', e, r0, r1, r2⟩ := k145 h1 h2 q
    cases e
    rw [ei] at r0 r1 r2
    have : v = m_l σ 6 i j := by
      have hh : x2.toInt = 0 ∨ x2.toInt = 1 ∨ x2.toInt = 2 := by have := h2.2; have := h2.1; omega
      rcases hh with z | z | z
      · have : j = 2 := by omega
        rw [this]; exact r0 z
      · have : j = 3 := by omega
        rw [this]; exact r1 z
      · have : j = 4 := by omega
        rw [this]; exact r2 z
    rw [← this]
    exact a
  · obtain ⟨v', e, _⟩ := k145 h1 h2 q
    cases e
theorem m144 {n : Int} {N : Nat} {x1 x2 : Int32} {i j : Nat} {σ σ' : mS} {w : mX} {A : Int64 → Prop} (h : HI n N σ) (h1 : mh x1) (h2 : ik x2) (ei : hx x1 = i) (ej : x2.toNatClampNeg = j) (p : (∃ v, P144 σ x1 x2 (.inl (some (.inr (.inl v)))) σ ∧ A v) ∨ (∃ b, P144 σ x1 x2 (.inr b) σ ∧ w = .inr b ∧ σ' = σ)) : A (m_l σ 14 i j) := by
  rcases p with ⟨v, q, a⟩ | ⟨b, q, _⟩
  · have e := k144 h h1 h2 q
    cases e
    rw [ei, ej] at a
    exact a
  · have e := k144 h h1 h2 q
    cases e
theorem m140 {n : Int} {N : Nat} {x : Int32} {j : Nat} {σ σ' : mS} {w : mX} {A : Int32 → Prop} (h : HI n N σ) (hx : ik x) (ej : x.toNatClampNeg = j) (p : (∃ v, P140 σ x (.inl (some (.inl v))) σ ∧ A v) ∨ (∃ b, P140 σ x (.inr b) σ ∧ w = .inr b ∧ σ' = σ)) : ∃ v : Int32, v / Int32.ofInt 10 = m_i σ 8 j 2 ∧ A v := by
  rcases p with ⟨v, q, a⟩ | ⟨b, q, _⟩
  · obtain ⟨_, ⟨y, _⟩ | ⟨_, v', e, ev⟩⟩ := a140 h q
    · exact absurd hx y
    · cases e
      rw [ej] at ev
      have nn := i_nat hx.1
      have po := h.po j (by have := hx.2; omega)
      have o2 : 0 ≤ (m_i σ 8 j 2).toInt ∧ (m_i σ 8 j 2).toInt ≤ 9999 := po.2.1
      refine ⟨v, Int32.toInt_inj.mp ?_, a⟩
      rw [dv32 (by omega) (by rw [i_10]; decide), i_10, ev]
      have : pv σ j 2 = (m_i σ 8 j 2).toInt := rfl
      omega
  · obtain ⟨_, ⟨y, _⟩ | ⟨_, v', e, ev⟩⟩ := a140 h q
    · exact absurd hx y
    · cases e
theorem mhm : mh (Int32.ofInt (-1)) := ⟨by decide, by decide⟩
theorem mh0 : mh (Int32.ofInt 0) := ⟨by decide, by decide⟩
theorem mh1 : mh (Int32.ofInt 1) := ⟨by decide, by decide⟩
theorem mh2 : mh (Int32.ofInt 2) := ⟨by decide, by decide⟩
theorem mh3 : mh (Int32.ofInt 3) := ⟨by decide, by decide⟩
theorem mh4 : mh (Int32.ofInt 4) := ⟨by decide, by decide⟩
theorem b30' : b3 (Int32.ofInt 0) := ⟨by decide, by decide⟩
theorem b31' : b3 (Int32.ofInt 1) := ⟨by decide, by decide⟩
theorem b32' : b3 (Int32.ofInt 2) := ⟨by decide, by decide⟩
theorem ik0 : ik (Int32.ofInt 0) := ⟨by decide, by decide⟩
theorem ik1 : ik (Int32.ofInt 1) := ⟨by decide, by decide⟩
theorem ik2 : ik (Int32.ofInt 2) := ⟨by decide, by decide⟩
/-- money and positions -/
theorem a177 {n : Int} {N c : Nat} {k : Kt} {T : Int} {w : mX} {σ σ' : mS} (h : S n N c k σ) (l : LI N k T 0 σ) (p : P177 σ w σ') : OKw w ∧ σ' = σ := by
  have z0 : (Int64.ofNat 0).toInt = 0 := by decide
  have nb := h.1.2.2.2.1.2.2.2.2.2.2
  have f3 := nb.2.2.2.2.2.2.1.1
  have f4 := (nb.2.2.2.2.1 0 (by decide)).1
  have t0 := l.d0
  have ps0 := l.pos 0 (by decide)
  have ps1 := l.pos 1 (by decide)
  have ps2 := l.pos 2 (by decide)
  unfold ps at ps0 ps1 ps2
  unfold P177 at p
  replace p := m145 (i := 0) (j := 2) mhm b30' (by decide) (by decide) p
  replace p := m145 (i := 0) (j := 4) mhm b32' (by decide) (by decide) p
  replace p := m145 (i := 1) (j := 2) mh0 b30' (by decide) (by decide) p
  replace p := m145 (i := 1) (j := 3) mh0 b31' (by decide) (by decide) p
  replace p := m145 (i := 1) (j := 4) mh0 b32' (by decide) (by decide) p
  obtain ⟨n22, e22, p⟩ := p
  replace p := m145 (i := 2) (j := 2) mh1 b30' (by decide) (by decide) p
  replace p := m145 (i := 2) (j := 3) mh1 b31' (by decide) (by decide) p
  replace p := m145 (i := 2) (j := 4) mh1 b32' (by decide) (by decide) p
  obtain ⟨n37, e37, p⟩ := p
  replace p := m145 (i := 3) (j := 2) mh2 b30' (by decide) (by decide) p
  replace p := m145 (i := 3) (j := 3) mh2 b31' (by decide) (by decide) p
  replace p := m145 (i := 3) (j := 4) mh2 b32' (by decide) (by decide) p
  obtain ⟨n52, e52, p⟩ := p
  replace p := m145 (i := 4) (j := 2) mh3 b30' (by decide) (by decide) p
  replace p := m145 (i := 4) (j := 3) mh3 b31' (by decide) (by decide) p
  replace p := m145 (i := 4) (j := 4) mh3 b32' (by decide) (by decide) p
  obtain ⟨n67, e67, p⟩ := p
  replace p := m145 (i := 5) (j := 2) mh4 b30' (by decide) (by decide) p
  replace p := m145 (i := 5) (j := 3) mh4 b31' (by decide) (by decide) p
  replace p := m145 (i := 5) (j := 4) mh4 b32' (by decide) (by decide) p
  obtain ⟨n82, e82, p⟩ := p
  have es : n82 = sm σ := by
    rw [e82, e67, e52, e37, e22]
    rfl
  obtain ⟨_, p⟩ := p
  rw [n_0, es, t0] at p
  rcases p with ⟨x, _⟩ | ⟨_, p⟩
  · exact absurd rfl x
  replace p := m145 (i := 0) (j := 3) mhm b31' (by decide) (by decide) p
  rw [z0] at p
  rcases p with ⟨x, _⟩ | ⟨_, p⟩
  · omega
  replace p := m145 (i := 0) (j := 4) mhm b32' (by decide) (by decide) p
  rcases p with ⟨x, _⟩ | ⟨_, p⟩
  · omega
  replace p := m144 (i := 0) (j := 0) h.1 mhm ik0 (by decide) (by decide) p
  replace p := m144 (i := 1) (j := 0) h.1 mh0 ik0 (by decide) (by decide) p
  replace p := m144 (i := 2) (j := 0) h.1 mh1 ik0 (by decide) (by decide) p
  replace p := m144 (i := 3) (j := 0) h.1 mh2 ik0 (by decide) (by decide) p
  obtain ⟨n124, e124, p⟩ := p
  replace p := m144 (i := 4) (j := 0) h.1 mh3 ik0 (by decide) (by decide) p
  replace p := m144 (i := 5) (j := 0) h.1 mh4 ik0 (by decide) (by decide) p
  rw [e124, ps0] at p
  rcases p with ⟨x, _⟩ | ⟨_, p⟩
  · exact absurd rfl x
  replace p := m144 (i := 0) (j := 1) h.1 mhm ik1 (by decide) (by decide) p
  replace p := m144 (i := 1) (j := 1) h.1 mh0 ik1 (by decide) (by decide) p
  replace p := m144 (i := 2) (j := 1) h.1 mh1 ik1 (by decide) (by decide) p
  replace p := m144 (i := 3) (j := 1) h.1 mh2 ik1 (by decide) (by decide) p
  obtain ⟨n161, e161, p⟩ := p
  replace p := m144 (i := 4) (j := 1) h.1 mh3 ik1 (by decide) (by decide) p
  replace p := m144 (i := 5) (j := 1) h.1 mh4 ik1 (by decide) (by decide) p
  rw [e161, ps1] at p
  rcases p with ⟨x, _⟩ | ⟨_, p⟩
  · exact absurd rfl x
  replace p := m144 (i := 0) (j := 2) h.1 mhm ik2 (by decide) (by decide) p
  replace p := m144 (i := 1) (j := 2) h.1 mh0 ik2 (by decide) (by decide) p
  replace p := m144 (i := 2) (j := 2) h.1 mh1 ik2 (by decide) (by decide) p
  replace p := m144 (i := 3) (j := 2) h.1 mh2 ik2 (by decide) (by decide) p
  obtain ⟨n198, e198, p⟩ := p
  replace p := m144 (i := 4) (j := 2) h.1 mh3 ik2 (by decide) (by decide) p
  replace p := m144 (i := 5) (j := 2) h.1 mh4 ik2 (by decide) (by decide) p
  rw [e198, ps2] at p
  rcases p with ⟨x, _⟩ | ⟨_, hw, e⟩
  · exact absurd rfl x
  exact ⟨by rw [hw]; exact ok1, e⟩
/-! orders -/
theorem k131 {n : Int} {N : Nat} {x : Int32} {σ σ' : mS} {w : mX} {A : Int32 → Prop} (h : HI n N σ) (hx : 0 ≤ x.toInt ∧ x.toInt < N) (p : (∃ v, P131 σ x (.inl (some (.inl v))) σ ∧ A v) ∨ (∃ b, P131 σ x (.inr b) σ ∧ w = .inr b ∧ σ' = σ)) : ∃ v : Int32, v.toInt = 10 * oi σ x.toNatClampNeg 6 + oi σ x.toNatClampNeg 9 ∧ (v / Int32.ofInt 10).toInt = oi σ x.toNatClampNeg 6 ∧ (v - v / Int32.ofInt 10 * Int32.ofInt 10).toInt = oi σ x.toNatClampNeg 9 ∧ A v := by
  have nn := i_nat hx.1
  rcases p with ⟨v, q, a⟩ | ⟨b, q, _⟩
  · obtain ⟨_, ⟨y, _⟩ | ⟨o, eo, oN, v', e, ev⟩⟩ := a131 h q
    · exact absurd hx y
    · cases e
      have : x.toNatClampNeg = o := by omega
      rw [this]
      have lb := h.lb o oN
      have s9 := (h.2.2.1 o oN).2.2.2.2.2.2.2.1
      exact ⟨v, ev, by rw [dv32 (by omega) (by rw [i_10]; decide), i_10, ev]; omega, by rw [md32 (by omega) (by rw [i_10]; decide), i_10, ev]; omega, a⟩
  · obtain ⟨_, ⟨y, _⟩ | ⟨_, _, _, _, e, _⟩⟩ := a131 h q
    · exact absurd hx y
    · cases e
theorem m149 {n : Int} {N : Nat} {x : Int32} {σ σ' : mS} {w : mX} {A : Int32 → Prop} (h : HI n N σ) (hx : mb x) (p : (∃ v, P149 σ x (.inl (some (.inl v))) σ ∧ A v) ∨ (∃ b, P149 σ x (.inr b) σ ∧ w = .inr b ∧ σ' = σ)) : ∃ v : Int32, (v - v / Int32.ofInt 10 * Int32.ofInt 10).toInt = sM σ (x.toNatClampNeg + 1) ∧ 0 ≤ v.toInt ∧ A v := by
  have s : 0 ≤ sM σ (x.toNatClampNeg + 1) := by unfold sM; split <;> split <;> omega
  rcases p with ⟨v, q, a⟩ | ⟨b, q, _⟩
  · obtain ⟨v', e, e2, e3, e4⟩ := k149 h hx q
    cases e
    exact ⟨v, e2, by omega, a⟩
  · obtain ⟨v', e, _⟩ := k149 h hx q
    cases e
theorem s180_136 {n : Int} {N c : Nat} {k : Kt} {u3 : Int32} {w : mX} {σ σ' : mS} (h : S n N c k σ) (l : LI N k (tc σ) 0 σ) (h3 : u3.toInt ≠ 0) (p : J180_136 u3 σ w σ') : OKw w ∧ σ' = σ := by
  have t := h.1.to.1
  have g3 := l.t3
  have tt : tc σ = (m_i σ 2 0 5).toInt := rfl
  rcases p with ⟨x, _⟩ | ⟨_, _, p⟩
  · exact absurd x h3
  · rw [n_3] at p
    rcases p with ⟨x, _⟩ | ⟨_, _, v5, σ6, _, _, p172, p⟩
    · omega
    · obtain ⟨y, p142, _, _, ev⟩ := d172_18 (by decide) p172
      obtain ⟨e, ⟨_, ey⟩ | ⟨t', et, tl', _⟩⟩ := a142 h.1 p142
      · have vv : v5.toInt = -3000000000 := by rw [ev, ey]; exact hv0
        subst e
        rcases p with ⟨x, _⟩ | ⟨_, hw, e⟩
        · rw [litA] at x
          exact absurd vv x
        · exact ⟨by rw [hw]; exact ok1, e⟩
      · omega
theorem r180_31 {n : Int} {N c : Nat} {k : Kt} {σ : mS} (h : S n N c k σ) (l : LI N k (tc σ) 0 σ) : ∀ m (u3 u4 : Int32) (w : mX) (σ' : mS), Q180_31 m u3 u4 σ w σ' → u3.toInt ≠ 0 → 0 ≤ u4.toInt → OKw w ∧ σ' = σ := by
  have i0 := i_0
  have i1 := i_1
  intro m
  induction m with
  | zero => intro u3 u4 w σ' q; exact q.elim
  | succ m IH =>
    intro u3 u4 w σ' qq h3 p0
    replace qq : B180_31 (Q180_31 m) u3 u4 σ w σ' := qq
    obtain ⟨_, qq⟩ := qq
    rw [n_0, l.n0] at qq
    rcases qq with ⟨_, q⟩ | ⟨a, ⟨x, _⟩ | ⟨_, q⟩⟩
    · exact s180_136 h l h3 q
    · exact absurd x h3
    · have hx : 0 ≤ u4.toInt ∧ u4.toInt < N := ⟨p0, by omega⟩
      have nn := i_nat p0
      have N60 := l.n60
      have inc : (u4 + Int32.ofInt 1).toInt = u4.toInt + 1 := i_inc p0 (by omega)
      obtain ⟨v4, ev, ed, em, _, q⟩ := k131 h.1 hx q
      have md := l.md h.1 (x := u4) hx
      have ok := h.1.2.2.1 u4.toNatClampNeg (by omega)
      have mbm : mb (m_i σ 13 15 u4.toNatClampNeg - m_i σ 13 15 u4.toNatClampNeg / Int32.ofInt 10 * Int32.ofInt 10) := ⟨by rw [md]; exact ok.1.1, by rw [md]; exact ok.1.2⟩
      obtain ⟨v10, es, _, q⟩ := m149 h.1 mbm q
      have e1 : m_i σ 13 15 u4.toNatClampNeg - m_i σ 13 15 u4.toNatClampNeg / Int32.ofInt 10 * Int32.ofInt 10 = m_i σ 7 u4.toNatClampNeg 1 := Int32.toInt_inj.mp md
      rw [e1] at es
      have st2 := l.st2 u4.toNatClampNeg (by omega)
      have o9 := ok.2.2.2.2.2.2.2.1
      have o0 := ok.2.2.2.2.2.2.2.2.1
      have oa := ok.2.2.2.2.2.2.2.2.2.1
      have ob := ok.2.2.2.2.2.2.2.2.2.2.1
      have o7 := ok.2.2.2.2.2.2.1
      have of := ok.2.2.2.2.2.2.2.2.2.2.2.2.2
      -- a failed member's are gone
      have gone : ¬ sM σ ((m_i σ 7 u4.toNatClampNeg 1).toNatClampNeg + 1) ≤ 1 → oi σ u4.toNatClampNeg 9 = 0 := fun z => by
        by_cases y : oi σ u4.toNatClampNeg 9 = 0
        · exact y
        · have f := of y
          have f : mi6 σ ((m_i σ 7 u4.toNatClampNeg 1).toNatClampNeg + 1) 9 = 0 := f
          exfalso
          apply z
          unfold sM
          rw [if_pos f]
          split <;> omega
      have go1 : Q180_31 m (Int32.ofInt 1) (u4 + Int32.ofInt 1) σ w σ' → OKw w ∧ σ' = σ := fun q => IH _ _ _ _ q (by rw [i1]; decide) (by omega)
      rw [es, em, ed] at q
      have l0 : oi σ u4.toNatClampNeg 9 ≠ 0 → oi σ u4.toNatClampNeg 6 ≠ 0 := fun z => by
        have : oi σ u4.toNatClampNeg 9 = 1 ∨ oi σ u4.toNatClampNeg 9 = 2 := by omega
        rcases this with y | y
        · have := oa y
          omega
        · have := ob y
          omega
      rcases q with ⟨_, q⟩ | ⟨f, q⟩
      · rcases q with ⟨x, _⟩ | ⟨_, ⟨x, ⟨_, q⟩ | ⟨y, _⟩⟩ | ⟨x, ⟨y, _⟩ | ⟨_, q⟩⟩⟩
        · omega
        · exact go1 q
        · exact absurd (Decidable.of_not_not y) (l0 x)
        · exact absurd (o0 (Decidable.of_not_not x)) y
        · exact go1 q
      · have g := gone f
        have g6 := o0 g
        rcases q with ⟨x, _⟩ | ⟨_, ⟨x, _⟩ | ⟨_, ⟨y, _⟩ | ⟨_, ⟨z, _⟩ | ⟨_, q⟩⟩⟩⟩
        · omega
        · exact absurd g x
        · exact absurd g6 y
        · rw [ev, g, g6] at z
          exact absurd rfl z
        · exact go1 q
theorem a180 {n : Int} {N c : Nat} {k : Kt} {w : mX} {σ σ' : mS} (h : S n N c k σ) (l : LI N k (tc σ) 0 σ) (p : P180 σ w σ') : OKw w ∧ σ' = σ := by
  have i0 := i_0
  have i1 := i_1
  obtain ⟨_, v2, σ3, _, _, p172, p⟩ := p
  rw [n_0] at p172
  obtain ⟨y, p131, _, _, ev⟩ := d172_17 (by decide) p172
  obtain ⟨e, ⟨_, ey⟩ | ⟨o, eo, oN, _⟩⟩ := a131 h.1 p131
  · have vv : v2.toInt = -3000000000 := by rw [ev, ey]; exact hv0
    subst e
    rcases p with ⟨x, _⟩ | ⟨_, m, q⟩
    · rw [litA] at x
      exact absurd vv x
    · exact r180_31 h l m _ _ _ _ q (by rw [i1]; decide) (by rw [i0]; decide)
  · have := l.n0
    omega
/-! what is shown at a price -/
theorem sg_le {G : Nat → Prop} {a b : Nat → Int} {N : Nat} (h : ∀ o, o < N → a o ≤ b o) : ∀ k, k ≤ N → sg G a k ≤ sg G b k := by
  intro k
  induction k with
  | zero => intro _; exact Int.le_refl _
  | succ k IH =>
    intro hk
    have x := IH (by omega)
    have y := h k (by omega)
    show sg G a k + @ite _ (G k) (Classical.propDecidable _) (a k) 0 ≤ sg G b k + @ite _ (G k) (Classical.propDecidable _) (b k) 0
    split <;> omega
/-- the best so far, as the law tells it -/
def bL (σ : mS) (x1 x2 : Int) (i : Nat) (v : Int) : Prop := (v = -1 ∧ ∀ o, o < i → ¬ stIn σ x1 x2 o) ∨ ∃ t, t < i ∧ stIn σ x1 x2 t ∧ v = oi σ t 4 ∧ 0 ≤ v ∧ ∀ o, o < i → stIn σ x1 x2 o → (x2 = 0 → oi σ o 4 ≤ oi σ t 4) ∧ (x2 ≠ 0 → oi σ t 4 ≤ oi σ o 4)
theorem bL_no {σ : mS} {x1 x2 v : Int} {i : Nat} (h : bL σ x1 x2 i v) (hn : ¬ stIn σ x1 x2 i) : bL σ x1 x2 (i + 1) v := by
  rcases h with ⟨a, b⟩ | ⟨t, a, b, c, c0, d⟩
  · refine Or.inl ⟨a, fun o ho => ?_⟩
    by_cases e : o = i
    · rw [e]; exact hn
    · exact b o (by omega)
  · refine Or.inr ⟨t, by omega, b, c, c0, fun o ho hs => ?_⟩
    by_cases e : o = i
    · rw [e] at hs; exact absurd hs hn
    · exact d o (by omega) hs
theorem bL_old {σ : mS} {x1 x2 v : Int} {i : Nat} (h : bL σ x1 x2 i v) (hv : 0 ≤ v) (g : (x2 = 0 → oi σ i 4 ≤ v) ∧ (x2 ≠ 0 → v ≤ oi σ i 4)) : bL σ x1 x2 (i + 1) v := by
  rcases h with ⟨a, _⟩ | ⟨t, a, b, c, c0, d⟩
  · omega
  · refine Or.inr ⟨t, by omega, b, c, c0, fun o ho hs => ?_⟩
    by_cases e : o = i
    · rw [e, ← c]; exact g
    · exact d o (by omega) hs
theorem bL_new {σ : mS} {x1 x2 v : Int} {i : Nat} (h : bL σ x1 x2 i v) (hi : stIn σ x1 x2 i) (h0 : 0 ≤ oi σ i 4) (g : 0 ≤ v → (x2 = 0 → v ≤ oi σ i 4) ∧ (x2 ≠ 0 → oi σ i 4 ≤ v)) : bL σ x1 x2 (i + 1) (oi σ i 4) := by
  refine Or.inr ⟨i, by omega, hi, rfl, h0, fun o ho hs => ?_⟩
  by_cases e : o = i
  · rw [e]; exact ⟨fun _ => Int.le_refl _, fun _ => Int.le_refl _⟩
  · rcases h with ⟨_, b⟩ | ⟨t, a, b, c, c0, d⟩
    · exact absurd hs (b o (by omega))
    · have d := d o (by omega) hs
      have g := g c0
      exact ⟨fun y => Int.le_trans (d.1 y) (by rw [← c]; exact g.1 y), fun y => Int.le_trans (by rw [← c]; exact g.2 y) (d.2 y)⟩
theorem sg_s {G : Nat → Prop} {a : Nat → Int} {i : Nat} (h : G i) : sg G a (i + 1) = sg G a i + a i := by
  show sg G a i + @ite _ (G i) (Classical.propDecidable _) (a i) 0 = _
  rw [if_pos h]
theorem sg_z {G : Nat → Prop} {a : Nat → Int} {i : Nat} (h : ¬ G i) : sg G a (i + 1) = sg G a i := by
  show sg G a i + @ite _ (G i) (Classical.propDecidable _) (a i) 0 = _
  rw [if_neg h]
  omega
theorem s179_end {n : Int} {N c : Nat} {k : Kt} {u5 u7 : Int64} {c2 c3 t0 : Int32} {v : Int} {w : mX} {σ σ' : mS} (h : S n N c k σ) (i2 : ik c2) (s3 : sd c3) (hb : bL σ c2.toInt c3.toInt N u7.toInt) (ht : t0.toInt = if 0 < v then 1 else 0) (hv : 0 < u5.toInt ↔ 0 < v) (p : J179_188 u5 u7 c2 c3 t0 σ w σ') : OKw w ∧ σ' = σ := by
  have z0 : (Int64.ofNat 0).toInt = 0 := by decide
  have i0 := i_0
  have i1 := i_1
  have fin : ∀ t : Int32, t0.toInt = t.toInt → J179_200 u7 c2 c3 t t0 σ w σ' → OKw w ∧ σ' = σ := by
    intro t et q
    rcases q with ⟨x, _⟩ | ⟨_, ⟨v2, q2, q⟩ | ⟨b, q2, _⟩⟩
    · exact absurd et x
    · obtain ⟨_, ⟨x, _⟩ | ⟨_, ⟨x, _⟩ | ⟨_, ⟨e, nn⟩ | ⟨t', e, tN, ts, tb⟩⟩⟩⟩ := a132 h.1 q2
      · exact absurd i2 x
      · exact absurd s3 x
      · cases e
        rcases q with ⟨x, _⟩ | ⟨_, hw, e⟩
        · rcases hb with ⟨hb, _⟩ | ⟨t', tN, ts, _⟩
          · rw [i64, im1] at x
            exact absurd hb.symm x
          · exact absurd ts (nn t' tN)
        · exact ⟨by rw [hw]; exact ok1, e⟩
      · cases e
        rcases q with ⟨x, _⟩ | ⟨_, hw, e⟩
        · rcases hb with ⟨_, hb⟩ | ⟨t2, t2N, t2s, t2v, _, t2b⟩
          · exact absurd ts (hb t' tN)
          · rw [i64] at x
            have a := tb t2 t2N t2s
            have b := t2b t' tN ts
            have : oi σ t' 4 = oi σ t2 4 := by
              by_cases y : c3.toInt = 0
              · have := a.1 y
                have := b.1 y
                omega
              · have := a.2 y
                have := b.2 y
                omega
            exact absurd (this.trans t2v.symm) x
        · exact ⟨by rw [hw]; exact ok1, e⟩
    · obtain ⟨_, ⟨x, _⟩ | ⟨_, ⟨x, _⟩ | ⟨_, ⟨e, nn⟩ | ⟨t', e, tN, ts, tb⟩⟩⟩⟩ := a132 h.1 q2
      · exact absurd i2 x
      · exact absurd s3 x
      · cases e
      · cases e
  rw [J179_188, z0] at p
  rcases p with ⟨x, q⟩ | ⟨x, q⟩
  · exact fin _ (by rw [ht, if_neg (fun z => by have := hv.mpr z; omega), i0]) q
  · exact fin _ (by rw [ht, if_pos (hv.mp (by omega)), i1]) q
theorem q179_32' {n : Int} {N c : Nat} {k : Kt} {c1 c2 c3 : Int32} {σ : mS} (h : S n N c k σ) (l : LI N k (tc σ) 0 σ) (h1 : 0 ≤ c1.toInt ∧ c1.toInt < N) (e2 : c2.toInt = oi σ c1.toNatClampNeg 2) (e3 : c3.toInt = oi σ c1.toNatClampNeg 3) : ∀ m (u5 u7 : Int64) (u11 : Int32) (w : mX) (σ' : mS), Q179_32 c1 c2 c3 m u5 u7 u11 σ w σ' → 0 ≤ u11.toInt → u11.toInt ≤ N → u5.toInt = sg (sI σ c2.toInt c3.toInt (oi σ c1.toNatClampNeg 4)) (fun o => oi σ o 6) u11.toNatClampNeg → bL σ c2.toInt c3.toInt u11.toNatClampNeg u7.toInt → OKw w ∧ σ' = σ := by
  have i0 := i_0
  have i1 := i_1
  have z0 : (Int64.ofNat 0).toInt = 0 := by decide
  have n1 := i_nat h1.1
  have N60 := l.n60
  have o1 := h.1.2.2.1 c1.toNatClampNeg (by omega)
  have lo1 := l.ord c1.toNatClampNeg (by omega)
  have i2 : ik c2 := ⟨by rw [e2]; exact o1.2.1.1, by rw [e2]; exact o1.2.1.2⟩
  have s3 : sd c3 := ⟨by rw [e3]; exact o1.2.2.1.1, by rw [e3]; exact o1.2.2.1.2⟩
  have lb := h.1.lb
  have l7 := h.1.l7
  intro m
  induction m with
  | zero => intro u5 u7 u11 w σ' q; exact q.elim
  | succ m IH =>
    intro u5 u7 u11 w σ' qq p0 p1 hu hb
    replace qq : B179_32 c1 c2 c3 (Q179_32 c1 c2 c3 m) u5 u7 u11 σ w σ' := qq
    obtain ⟨_, qq⟩ := qq
    rw [n_0, l.n0] at qq
    have nn := i_nat p0
    have sb := sg_b (G := sI σ c2.toInt c3.toInt (oi σ c1.toNatClampNeg 4)) lb u11.toNatClampNeg (by omega)
    rcases qq with ⟨a, _, q⟩ | ⟨a, q⟩
    · have eN : u11.toNatClampNeg = N := by omega
      rw [eN] at hu hb
      rcases q with ⟨v4, q4, q⟩ | ⟨b, q4, _⟩
      · obtain ⟨_, ⟨x, _⟩ | ⟨_, ⟨x, _⟩ | ⟨_, v, e, ev⟩⟩⟩ := a133 h.1 q4
        · exact absurd i2 x
        · exact absurd ⟨s3, by show 1 ≤ _ ∧ _; rw [lo1.1]; exact o1.2.2.2.1⟩ x
        · cases e
          rw [lo1.1] at ev
          have le : sg (sI σ c2.toInt c3.toInt (oi σ c1.toNatClampNeg 4)) (fun o => oi σ o 7) N ≤ sg (sI σ c2.toInt c3.toInt (oi σ c1.toNatClampNeg 4)) (fun o => oi σ o 6) N := sg_le (fun o ho => (h.1.2.2.1 o ho).2.2.2.2.2.2.1.2) N (Nat.le_refl _)
          have b7 := (sg_b (G := sI σ c2.toInt c3.toInt (oi σ c1.toNatClampNeg 4)) l7 N (Nat.le_refl _)).1
          have iff : 0 < u5.toInt ↔ 0 < v4.toInt := by
            rw [hu, ev]
            refine ⟨fun z => ?_, fun z => by omega⟩
            by_cases y : 0 < sg (sI σ c2.toInt c3.toInt (oi σ c1.toNatClampNeg 4)) (fun o => oi σ o 7) N
            · exact y
            · exfalso
              have no := sg_0 l7 (by omega : sg (sI σ c2.toInt c3.toInt (oi σ c1.toNatClampNeg 4)) (fun o => oi σ o 7) N ≤ 0)
              have : sg (sI σ c2.toInt c3.toInt (oi σ c1.toNatClampNeg 4)) (fun o => oi σ o 6) N = 0 := sg_n N (fun o ho g => by
                have a := no o ho g
                have b := (h.1.2.2.1 o ho).2.2.2.2.2.2.2.2.2.1 g.1.1
                omega)
              omega
          rw [i64] at q
          rcases q with ⟨x, _⟩ | ⟨_, ⟨x, q⟩ | ⟨x, q⟩⟩
          · omega
          · exact s179_end h i2 s3 hb (by rw [if_neg (by omega), i0]) iff q
          · exact s179_end h i2 s3 hb (by rw [if_pos (by omega), i1]) iff q
      · obtain ⟨_, ⟨x, _⟩ | ⟨_, ⟨x, _⟩ | ⟨_, v, e, ev⟩⟩⟩ := a133 h.1 q4
        · exact absurd i2 x
        · exact absurd ⟨s3, by show 1 ≤ _ ∧ _; rw [lo1.1]; exact o1.2.2.2.1⟩ x
        · cases e
    · have hx : 0 ≤ u11.toInt ∧ u11.toInt < N := ⟨p0, by omega⟩
      have inc : (u11 + Int32.ofInt 1).toInt = u11.toInt + 1 := i_inc p0 (by omega)
      have ni : (u11 + Int32.ofInt 1).toNatClampNeg = u11.toNatClampNeg + 1 := by have := i_nat (a := u11 + Int32.ofInt 1) (by omega); omega
      obtain ⟨v10, ev, ed, em, q⟩ := k131 h.1 hx q
      have lo := l.ord u11.toNatClampNeg (by omega)
      have ok := h.1.2.2.1 u11.toNatClampNeg (by omega)
      have g0 : ∀ o : Nat, o < N → (m_i σ 13 15 o / Int32.ofInt 10).toInt = oi σ o 2 + 10 * oi σ o 3 := fun o ho => by
        have lo := (l.ord o ho).2
        have ok := h.1.2.2.1 o ho
        have a1 := ok.1
        have a2 := ok.2.1
        have a3 := ok.2.2.1
        rw [dv32 (by omega) (by rw [i_10]; decide), i_10, lo]
        omega
      have no : ¬ stIn σ c2.toInt c3.toInt u11.toNatClampNeg → Q179_32 c1 c2 c3 m u5 u7 (u11 + Int32.ofInt 1) σ w σ' → OKw w ∧ σ' = σ := fun z q => by
        refine IH _ _ _ _ _ q (by omega) (by omega) ?_ ?_
        · rw [ni, sg_z (fun y => z y.1)]; exact hu
        · rw [ni]; exact bL_no hb z
      rw [em] at q
      rcases q with ⟨x, q⟩ | ⟨x, _, _, q⟩
      · exact no (fun z => x z.1) q
      · rw [g0 _ (by omega), g0 _ (by omega)] at q
        have a2 := ok.2.1
        have a3 := ok.2.2.1
        have b2 := o1.2.1
        have b3' := o1.2.2.1
        rcases q with ⟨y, q⟩ | ⟨y, _, _, q⟩
        · exact no (fun z => y (by rw [z.2.1, z.2.2, e2, e3])) q
        · have is : stIn σ c2.toInt c3.toInt u11.toNatClampNeg := ⟨Decidable.of_not_not x, by omega, by omega⟩
          have pr4 := ok.2.2.2.1
          have lb' := lb u11.toNatClampNeg (by omega)
          have lb' : 0 ≤ oi σ u11.toNatClampNeg 6 ∧ oi σ u11.toNatClampNeg 6 ≤ 125000 := lb'
          -- the sum, whichever the price
          have next : ∀ (u5' u7' : Int64), u5'.toInt = u5.toInt + (if oi σ u11.toNatClampNeg 4 = oi σ c1.toNatClampNeg 4 then oi σ u11.toNatClampNeg 6 else 0) → bL σ c2.toInt c3.toInt (u11.toNatClampNeg + 1) u7'.toInt → Q179_32 c1 c2 c3 m u5' u7' (u11 + Int32.ofInt 1) σ w σ' → OKw w ∧ σ' = σ := by
            intro u5' u7' h5 h7 q
            refine IH _ _ _ _ _ q (by omega) (by omega) ?_ (by rw [ni]; exact h7)
            rw [ni, h5, hu]
            by_cases z : oi σ u11.toNatClampNeg 4 = oi σ c1.toNatClampNeg 4
            · rw [if_pos z, sg_s ⟨is, z⟩]
            · rw [if_neg z, sg_z (fun y => z y.2)]
              omega
          have s0 : (u5 + Int64.ofNat 0).toInt = u5.toInt := by rw [l_add (by omega) (by omega), z0]; omega
          have sl : (u5 + (v10 / Int32.ofInt 10).toInt64).toInt = u5.toInt + oi σ u11.toNatClampNeg 6 := by rw [l_add (by rw [i64]; omega) (by rw [i64]; omega), i64, ed]
          -- the best, whichever it was
          have best : ∀ (u5' : Int64), u5'.toInt = u5.toInt + (if oi σ u11.toNatClampNeg 4 = oi σ c1.toNatClampNeg 4 then oi σ u11.toNatClampNeg 6 else 0) → (((u7).toInt < (Int64.ofNat 0).toInt ∧ (0 ≤ (u11).toInt ∧ (u11).toInt < (σ.2.1 13 (14) : Int)) ∧ ∃ n26, n26 = (m_i σ 13 (14) (u11).toNatClampNeg).toInt64 ∧ Q179_32 c1 c2 c3 m u5' (n26) ((u11) + Int32.ofInt 1) σ w σ') ∨ (¬ ((u7).toInt < (Int64.ofNat 0).toInt) ∧ (((c3).toInt ≠ (0 : Int) ∧ (0 ≤ (u11).toInt ∧ (u11).toInt < (σ.2.1 13 (14) : Int)) ∧ (((u7).toInt ≤ ((m_i σ 13 (14) (u11).toNatClampNeg).toInt64).toInt ∧ Q179_32 c1 c2 c3 m u5' (u7) ((u11) + Int32.ofInt 1) σ w σ') ∨ (¬ ((u7).toInt ≤ ((m_i σ 13 (14) (u11).toNatClampNeg).toInt64).toInt) ∧ (0 ≤ (u11).toInt ∧ (u11).toInt < (σ.2.1 13 (14) : Int)) ∧ ∃ n32, n32 = (m_i σ 13 (14) (u11).toNatClampNeg).toInt64 ∧ Q179_32 c1 c2 c3 m u5' (n32) ((u11) + Int32.ofInt 1) σ w σ'))) ∨ (¬ ((c3).toInt ≠ (0 : Int)) ∧ (0 ≤ (u11).toInt ∧ (u11).toInt < (σ.2.1 13 (14) : Int)) ∧ ((((m_i σ 13 (14) (u11).toNatClampNeg).toInt64).toInt ≤ (u7).toInt ∧ Q179_32 c1 c2 c3 m u5' (u7) ((u11) + Int32.ofInt 1) σ w σ') ∨ (¬ (((m_i σ 13 (14) (u11).toNatClampNeg).toInt64).toInt ≤ (u7).toInt) ∧ (0 ≤ (u11).toInt ∧ (u11).toInt < (σ.2.1 13 (14) : Int)) ∧ ∃ n37, n37 = (m_i σ 13 (14) (u11).toNatClampNeg).toInt64 ∧ Q179_32 c1 c2 c3 m u5' (n37) ((u11) + Int32.ofInt 1) σ w σ')))))) → OKw w ∧ σ' = σ := by
            intro u5' h5 q
            have ev64 : ((m_i σ 13 14 u11.toNatClampNeg).toInt64).toInt = oi σ u11.toNatClampNeg 4 := by rw [i64, lo.1]
            rw [z0, ev64] at q
            have new : (0 ≤ u7.toInt → (c3.toInt = 0 → u7.toInt ≤ oi σ u11.toNatClampNeg 4) ∧ (c3.toInt ≠ 0 → oi σ u11.toNatClampNeg 4 ≤ u7.toInt)) → ∀ n26, n26 = (m_i σ 13 14 u11.toNatClampNeg).toInt64 → Q179_32 c1 c2 c3 m u5' n26 (u11 + Int32.ofInt 1) σ w σ' → OKw w ∧ σ' = σ := by
              intro g n26 en q
              refine next _ _ h5 ?_ q
              rw [en, ev64]
              exact bL_new hb is (by omega) g
            rcases q with ⟨x, _, n26, en, q⟩ | ⟨x, ⟨y, _, ⟨z, q⟩ | ⟨z, _, n32, en, q⟩⟩ | ⟨y, _, ⟨z, q⟩ | ⟨z, _, n37, en, q⟩⟩⟩
            · exact new (fun z => by omega) _ en q
            · exact next _ _ h5 (bL_old hb (by omega) ⟨fun g => absurd g y, fun _ => z⟩) q
            · exact new (fun _ => ⟨fun g => absurd g y, fun _ => by omega⟩) _ en q
            · exact next _ _ h5 (bL_old hb (by omega) ⟨fun _ => z, fun g => absurd g y⟩) q
            · exact new (fun _ => ⟨fun _ => by omega, fun g => absurd g y⟩) _ en q
          have pe : (m_i σ 13 14 u11.toNatClampNeg).toInt = oi σ u11.toNatClampNeg 4 := lo.1
          have pc : (m_i σ 13 14 c1.toNatClampNeg).toInt = oi σ c1.toNatClampNeg 4 := lo1.1
          rcases q with ⟨z, q⟩ | ⟨z, q⟩
          · exact best _ (by rw [s0, if_neg (by omega)]; omega) q
          · obtain ⟨n40, e40, q⟩ := q
            exact best _ (by rw [e40, sl, if_pos (by omega)]) q
theorem a179 {n : Int} {N c : Nat} {k : Kt} {x5 : Int32} {w : mX} {σ σ' : mS} (h : S n N c k σ) (l : LI N k (tc σ) 0 σ) (h5 : 0 ≤ x5.toInt ∧ x5.toInt < N) (p : P179 σ x5 w σ') : OKw w ∧ σ' = σ := by
  obtain ⟨_, n4, e4, _, n8, e8, m, q⟩ := p
  have nn := i_nat h5.1
  have lo := (l.ord x5.toNatClampNeg (by omega)).2
  have ok := h.1.2.2.1 x5.toNatClampNeg (by omega)
  have a1 := ok.1
  have a2 := ok.2.1
  have a3 := ok.2.2.1
  have d10 : (m_i σ 13 15 x5.toNatClampNeg / Int32.ofInt 10).toInt = oi σ x5.toNatClampNeg 2 + 10 * oi σ x5.toNatClampNeg 3 := by
    rw [dv32 (by omega) (by rw [i_10]; decide), i_10, lo]
    omega
  have v4 : n4.toInt = oi σ x5.toNatClampNeg 2 := by
    rw [e4, md32 (by omega) (by rw [i_10]; decide), i_10, d10]
    omega
  have v8 : n8.toInt = oi σ x5.toNatClampNeg 3 := by
    rw [e8, dv32 (by omega) (by rw [i_100]; decide), i_100, lo]
    omega
  exact q179_32' h l h5 v4 v8 m _ _ _ _ _ q (by rw [i_0]; decide) (by rw [i_0]; omega) (by rw [n_0]; show (Int64.ofNat 0).toInt = 0; decide) (by rw [n_0]; exact Or.inl ⟨by decide, fun o ho => by omega⟩)
