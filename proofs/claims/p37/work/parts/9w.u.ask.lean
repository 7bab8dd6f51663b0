/-! the face: what only asks -/
theorem i_10 : (Int32.ofInt 10).toInt = 10 := by decide
theorem HI.lb {n : Int} {N : Nat} {σ : mS} (h : HI n N σ) : lB σ N := lB_of h.2.2.1 h.2.2.2.1.2.2.1
theorem a131 {n : Int} {N : Nat} {x : Int32} {w : mX} {σ σ' : mS} (h : HI n N σ) (p : P131 σ x w σ') : σ' = σ ∧ ((¬ (0 ≤ x.toInt ∧ x.toInt < N) ∧ w = .inr 0) ∨ ∃ a : Nat, x.toInt = a ∧ a < N ∧ ∃ v : Int32, w = .inl (some (.inl v)) ∧ v.toInt = 10 * oi σ a 6 + oi σ a 9) := by
  obtain ⟨v1, p1, hh⟩ := p
  rcases p3 h.2.1 p1 with ⟨e1, b1⟩ | ⟨x0, xN, e1⟩
  · rw [e1] at hh
    rcases hh with ⟨_, hw, e⟩ | ⟨q, z, _⟩
    · exact ⟨e, Or.inl ⟨by omega, hw⟩⟩
    · cases z
  rw [e1] at hh
  rcases hh with ⟨z, _⟩ | ⟨q, eq, i9, e9, v11, p11, hh⟩
  · cases z
  cases eq
  cases e9
  have n1 := i_nat x0
  have lb := h.lb x.toNatClampNeg (by omega)
  have g := h.2.2.1 x.toNatClampNeg (by omega)
  have s9 := g.2.2.2.2.2.2.2.1
  have s0 := g.2.2.2.2.2.2.2.2.1
  have z0 := i_0
  have lb' : 0 ≤ (m_i σ 7 x.toNatClampNeg 6).toInt ∧ (m_i σ 7 x.toNatClampNeg 6).toInt ≤ 125000 := lb
  have s9' : 0 ≤ (m_i σ 7 x.toNatClampNeg 9).toInt ∧ (m_i σ 7 x.toNatClampNeg 9).toInt ≤ 3 := s9
  rcases hh with ⟨z, hw, e⟩ | ⟨z, hw, e⟩
  · refine ⟨e, Or.inr ⟨_, n1.symm, by omega, _, hw, ?_⟩⟩
    have m : (Int32.ofInt 10 * m_i σ 7 x.toNatClampNeg 6).toInt = 10 * (m_i σ 7 x.toNatClampNeg 6).toInt := by rw [i_mul (by rw [i_10]; omega) (by rw [i_10]; omega), i_10]
    rw [i_add (by rw [m]; omega) (by rw [m]; omega), m]
  · refine ⟨e, Or.inr ⟨_, n1.symm, by omega, _, hw, ?_⟩⟩
    rcases p11 with ⟨_, rfl⟩ | ⟨z9, _⟩
    · exact absurd z0 z
    · have z9 : oi σ x.toNatClampNeg 9 = 0 := Decidable.of_not_not z9
      rw [z0, s0 z9, z9]
      rfl
theorem a132 {n : Int} {N : Nat} {x1 x2 : Int32} {w : mX} {σ σ' : mS} (h : HI n N σ) (p : P132 σ x1 x2 w σ') : σ' = σ ∧ ((¬ ik x1 ∧ w = .inr 0) ∨ (ik x1 ∧ ((¬ sd x2 ∧ w = .inr 1) ∨ (sd x2 ∧ ((w = .inl (some (.inl (Int32.ofInt (-1)))) ∧ ∀ o, o < N → ¬ stIn σ x1.toInt x2.toInt o) ∨ ∃ t, w = .inl (some (.inl (m_i σ 7 t 4))) ∧ t < N ∧ stIn σ x1.toInt x2.toInt t ∧ ∀ o, o < N → stIn σ x1.toInt x2.toInt o → (x2.toInt = 0 → oi σ o 4 ≤ oi σ t 4) ∧ (x2.toInt ≠ 0 → oi σ t 4 ≤ oi σ o 4)))))) := by
  obtain ⟨v1, p1, p⟩ := p
  rcases c0 p with ⟨t1, v9, p9, p⟩ | ⟨t1, y⟩
  · rcases p166 p1 with ⟨a, _⟩ | ⟨_, b1⟩
    · exact absurd a t1
    rcases c1 p with ⟨t2, v17, p17, hh⟩ | ⟨t2, y⟩
    · rcases p167 p9 with ⟨a, _⟩ | ⟨_, b2⟩
      · exact absurd a t2
      have hb := p6 h.2.1 p17
      rcases hh with ⟨e, hw, e2⟩ | ⟨q, e, i, ei, hw, e2⟩
      · refine ⟨e2, Or.inr ⟨b1, Or.inr ⟨b2, Or.inl ⟨hw, ?_⟩⟩⟩⟩
        rcases hb with ⟨_, hb⟩ | ⟨t, z, _⟩
        · exact hb
        · rw [e] at z; cases z
      · refine ⟨e2, Or.inr ⟨b1, Or.inr ⟨b2, Or.inr ?_⟩⟩⟩
        rcases hb with ⟨z, _⟩ | ⟨t, z, z2, z3, z4⟩
        · rw [e] at z; cases z
        · rw [e] at z
          cases z
          cases ei
          exact ⟨_, hw, z2, z3, z4⟩
    · rcases p167 p9 with ⟨_, b2⟩ | ⟨a, _⟩
      · exact ⟨y.2, Or.inr ⟨b1, Or.inl ⟨b2, y.1⟩⟩⟩
      · exact absurd t2 a
  · rcases p166 p1 with ⟨_, b1⟩ | ⟨a, _⟩
    · exact ⟨y.2, Or.inl ⟨b1, y.1⟩⟩
    · exact absurd t1 a
/-! what is shown at a price -/
def sI (σ : mS) (x1 x2 x3 : Int) (o : Nat) : Prop := stIn σ x1 x2 o ∧ oi σ o 4 = x3
theorem q7_s {σ : mS} {N : Nat} {c1 c2 c3 : Int32} (hn : hN σ N) (hl : ∀ o, o < N → 0 ≤ oi σ o 7 ∧ oi σ o 7 ≤ 125000) : ∀ n (u5 u6 w : Int32), Q7_6 σ c1 c2 c3 n u5 u6 w → 0 ≤ u6.toInt → u6.toInt ≤ N → u5.toInt = sg (sI σ c1.toInt c2.toInt c3.toInt) (fun o => oi σ o 7) u6.toNatClampNeg → w.toInt = sg (sI σ c1.toInt c2.toInt c3.toInt) (fun o => oi σ o 7) N := by
  intro n
  induction n with
  | zero => intro u5 u6 w h; exact h.elim
  | succ n IH =>
    intro u5 u6 w h p0 p1 hu
    have pn := i_nat p0
    have h : B7_6 σ c1 c2 c3 (Q7_6 σ c1 c2 c3 n) u5 u6 w := h
    obtain ⟨n1, n2⟩ := hn
    have stop : u6.toNatClampNeg = N → w = u5 → w.toInt = sg (sI σ c1.toInt c2.toInt c3.toInt) (fun o => oi σ o 7) N := fun e e2 => by rw [e2, hu, e]
    rcases h with ⟨h1, h⟩ | ⟨h1, ⟨h2, h⟩ | ⟨h2, h3, v, hv, h⟩⟩
    · exact stop (by omega) h
    · exact stop (by omega) h
    · have e1 : (u6 + Int32.ofInt 1).toInt = u6.toInt + 1 := i_inc p0 (by omega)
      have en := i_nat (a := u6 + Int32.ofInt 1) (by omega)
      have ek : (u6 + Int32.ofInt 1).toNatClampNeg = u6.toNatClampNeg + 1 := by omega
      have no : ¬ sI σ c1.toInt c2.toInt c3.toInt u6.toNatClampNeg → Q7_6 σ c1 c2 c3 n u5 (u6 + Int32.ofInt 1) w → w.toInt = sg (sI σ c1.toInt c2.toInt c3.toInt) (fun o => oi σ o 7) N := by
        intro hg h
        refine IH _ _ w h (by omega) (by omega) ?_
        rw [ek]
        show _ = sg _ _ _ + @ite _ _ (Classical.propDecidable _) _ 0
        rw [if_neg hg, hu]
        omega
      rcases p100 hv with ⟨v0, ns⟩ | ⟨v1, is⟩
      · rcases h with ⟨_, h⟩ | ⟨h4, _⟩
        · exact no (fun z => ns z.1) h
        · exact absurd v0 h4
      · rcases h with ⟨h4, _⟩ | ⟨_, ⟨h6, h⟩ | ⟨h6, n15, e15, h⟩⟩
        · exact absurd h4 v1
        · exact no (fun z => h6 z.2) h
        · have hlu := hl u6.toNatClampNeg (by omega)
          have hs := sg_b (G := sI σ c1.toInt c2.toInt c3.toInt) (l := fun o => oi σ o 7) hl u6.toNatClampNeg (by omega)
          have hlu' : 0 ≤ (m_i σ 7 u6.toNatClampNeg 7).toInt ∧ (m_i σ 7 u6.toNatClampNeg 7).toInt ≤ 125000 := hlu
          have ea : n15.toInt = u5.toInt + (m_i σ 7 u6.toNatClampNeg 7).toInt := by rw [e15]; exact i_add (by omega) (by omega)
          refine IH _ _ w h (by omega) (by omega) ?_
          rw [ek]
          show _ = sg _ _ _ + @ite _ _ (Classical.propDecidable _) _ 0
          rw [if_pos ⟨is, Decidable.of_not_not h6⟩, ea, hu]
theorem HI.l7 {n : Int} {N : Nat} {σ : mS} (h : HI n N σ) : ∀ o, o < N → 0 ≤ oi σ o 7 ∧ oi σ o 7 ≤ 125000 := fun o ho => by
  have a := h.lb o ho
  have b := (h.2.2.1 o ho).2.2.2.2.2.2.1
  exact ⟨b.1, by have := b.2; omega⟩
theorem p7 {n : Int} {N : Nat} {σ : mS} {x1 x2 x3 w : Int32} (h : HI n N σ) (p : P7 σ x1 x2 x3 w) : w.toInt = sg (sI σ x1.toInt x2.toInt x3.toInt) (fun o => oi σ o 7) N := by
  obtain ⟨k, p⟩ := p
  have z : (Int32.ofInt 0).toNatClampNeg = 0 := by decide
  exact q7_s h.2.1 h.l7 k _ _ w p (by rw [i_0]; omega) (by rw [i_0]; omega) (by rw [z, i_0]; rfl)
theorem s133_26 {n : Int} {N : Nat} {x1 x2 x3 t0 : Int32} {w : mX} {σ σ' : mS} (h : HI n N σ) (p : J133_26 x1 x2 x3 t0 σ w σ') : (t0.toInt = 0 ∧ w = .inr 1 ∧ σ' = σ) ∨ (t0.toInt ≠ 0 ∧ σ' = σ ∧ ∃ v : Int32, w = .inl (some (.inl v)) ∧ v.toInt = sg (sI σ x1.toInt x2.toInt x3.toInt) (fun o => oi σ o 7) N) := by
  rcases c1 p with ⟨t1, v, p, hw, e⟩ | y
  · exact Or.inr ⟨t1, e, v, hw, p7 h p⟩
  · exact Or.inl y
theorem a133 {n : Int} {N : Nat} {x1 x2 x3 : Int32} {w : mX} {σ σ' : mS} (h : HI n N σ) (p : P133 σ x1 x2 x3 w σ') : σ' = σ ∧ ((¬ ik x1 ∧ w = .inr 0) ∨ (ik x1 ∧ ((¬ (sd x2 ∧ pr x3) ∧ w = .inr 1) ∨ ((sd x2 ∧ pr x3) ∧ ∃ v : Int32, w = .inl (some (.inl v)) ∧ v.toInt = sg (sI σ x1.toInt x2.toInt x3.toInt) (fun o => oi σ o 7) N)))) := by
  have z0 := i_0
  have z1 := i_1
  obtain ⟨v1, p1, p⟩ := p
  rcases c0 p with ⟨t1, v9, p9, p⟩ | ⟨t1, y⟩
  · rcases p166 p1 with ⟨a, _⟩ | ⟨_, b1⟩
    · exact absurd a t1
    have no : ¬ (sd x2 ∧ pr x3) → J133_25 x1 x2 x3 σ w σ' → σ' = σ ∧ w = .inr 1 := fun u q => by
      rcases s133_26 h q with ⟨_, y⟩ | ⟨z, _⟩
      · exact ⟨y.2, y.1⟩
      · exact absurd z0 z
    rcases p with ⟨e, q⟩ | ⟨e, v14, p14, ⟨e14, q⟩ | ⟨e14, q⟩⟩
    · rcases p167 p9 with ⟨_, b⟩ | ⟨a, _⟩
      · obtain ⟨y1, y2⟩ := no (fun z => b z.1) q
        exact ⟨y1, Or.inr ⟨b1, Or.inl ⟨fun z => b z.1, y2⟩⟩⟩
      · exact absurd e a
    · rcases p168 p14 with ⟨_, b⟩ | ⟨a, _⟩
      · obtain ⟨y1, y2⟩ := no (fun z => b z.2) q
        exact ⟨y1, Or.inr ⟨b1, Or.inl ⟨fun z => b z.2, y2⟩⟩⟩
      · exact absurd e14 a
    · rcases p167 p9 with ⟨a, _⟩ | ⟨_, b2⟩
      · exact absurd a e
      rcases p168 p14 with ⟨a, _⟩ | ⟨_, b3⟩
      · exact absurd a e14
      rcases s133_26 h q with ⟨z, _⟩ | ⟨_, y1, y2⟩
      · rw [z1] at z; cases z
      · exact ⟨y1, Or.inr ⟨b1, Or.inr ⟨⟨b2, b3⟩, y2⟩⟩⟩
  · rcases p166 p1 with ⟨_, b1⟩ | ⟨a, _⟩
    · exact ⟨y.2, Or.inl ⟨b1, y.1⟩⟩
    · exact absurd t1 a
/-! an instrument, what is indicated, trades -/
theorem HI.po {n : Int} {N : Nat} {σ : mS} (h : HI n N σ) : pO σ := h.2.2.2.1.2.2.1
theorem HI.to {n : Int} {N : Nat} {σ : mS} (h : HI n N σ) : tO σ := h.2.2.2.1.2.1
theorem a140 {n : Int} {N : Nat} {x : Int32} {w : mX} {σ σ' : mS} (h : HI n N σ) (p : P140 σ x w σ') : σ' = σ ∧ ((¬ ik x ∧ w = .inr 0) ∨ (ik x ∧ ∃ v : Int32, w = .inl (some (.inl v)) ∧ v.toInt = 10 * pv σ x.toNatClampNeg 2 + pv σ x.toNatClampNeg 1)) := by
  obtain ⟨v1, p1, hh⟩ := p
  rcases p24' p1 with ⟨e1, b1⟩ | ⟨e1, b1⟩
  · rw [e1] at hh
    rcases hh with ⟨_, hw, e⟩ | ⟨q, z, _⟩
    · exact ⟨e, Or.inl ⟨b1, hw⟩⟩
    · cases z
  rw [e1] at hh
  rcases hh with ⟨z, _⟩ | ⟨q, eq, i9, e9, hw, e⟩
  · cases z
  cases eq
  cases e9
  have n1 := i_nat b1.1
  obtain ⟨o1, o2, _⟩ := h.po x.toNatClampNeg (by omega)
  have o1 : 0 ≤ (m_i σ 8 x.toNatClampNeg 1).toInt ∧ (m_i σ 8 x.toNatClampNeg 1).toInt ≤ 1 := o1
  have o2 : 0 ≤ (m_i σ 8 x.toNatClampNeg 2).toInt ∧ (m_i σ 8 x.toNatClampNeg 2).toInt ≤ 9999 := o2
  refine ⟨e, Or.inr ⟨b1, _, hw, ?_⟩⟩
  have m : (Int32.ofInt 10 * m_i σ 8 x.toNatClampNeg 2).toInt = 10 * (m_i σ 8 x.toNatClampNeg 2).toInt := by rw [i_mul (by rw [i_10]; omega) (by rw [i_10]; omega), i_10]
  rw [i_add (by rw [m]; omega) (by rw [m]; omega), m]
theorem a136 {x : Int32} {w : mX} {σ σ' : mS} (p : P136 σ x w σ') : σ' = σ ∧ ((¬ ik x ∧ w = .inr 0) ∨ (ik x ∧ ∃ v3 v7 : Int32, P10 σ x (m_i σ 8 x.toNatClampNeg 3) v3 ∧ P9 σ x v3 v7 ∧ ∃ v : Int64, w = .inl (some (.inr (.inl v))) ∧ ((v7.toInt ≠ 0 ∧ v = Int64.ofInt 1000000 * v3.toInt64 + v7.toInt64) ∨ (v7.toInt = 0 ∧ v = Int64.ofNat 0)))) := by
  obtain ⟨v1, p1, hh⟩ := p
  rcases p24' p1 with ⟨e1, b1⟩ | ⟨e1, b1⟩
  · rw [e1] at hh
    rcases hh with ⟨_, hw, e⟩ | ⟨q, z, _⟩
    · exact ⟨e, Or.inl ⟨b1, hw⟩⟩
    · cases z
  rw [e1] at hh
  rcases hh with ⟨z, _⟩ | ⟨q, eq, i9, e9, v11, p11, v15, p15, hh⟩
  · cases z
  cases eq
  cases e9
  rcases hh with ⟨z, hw, e⟩ | ⟨z, hw, e⟩
  · exact ⟨e, Or.inr ⟨b1, v11, v15, p11, p15, _, hw, Or.inl ⟨z, rfl⟩⟩⟩
  · exact ⟨e, Or.inr ⟨b1, v11, v15, p11, p15, _, hw, Or.inr ⟨Decidable.of_not_not z, rfl⟩⟩⟩
def bk4 (x : Int32) : Prop := 0 ≤ x.toInt ∧ x.toInt ≤ 3
theorem a142 {n : Int} {N : Nat} {x1 x2 : Int32} {w : mX} {σ σ' : mS} (h : HI n N σ) (p : P142 σ x1 x2 w σ') : σ' = σ ∧ (((x1.toInt < 0 ∨ tc σ ≤ x1.toInt) ∧ w = .inr 0) ∨ ∃ t : Nat, x1.toInt = t ∧ (t : Int) < tc σ ∧ ((¬ bk4 x2 ∧ w = .inr 1) ∨ (bk4 x2 ∧ ∃ v : Int32, w = .inl (some (.inl v)) ∧ (x2.toInt = 0 → v.toInt = ti σ t 1) ∧ (x2.toInt = 1 → v.toInt = ti σ t 2) ∧ (x2.toInt = 2 → v.toInt = 10 * ti σ t 3 + ti σ t 4) ∧ (x2.toInt = 3 → (v.toInt = 0 ∧ ti σ t 9 = 0) ∨ (v.toInt = 1 ∧ ti σ t 9 ≠ 0))))) := by
  have z0 := i_0
  have z1 := i_1
  have z3 : (Int32.ofInt 3).toInt = 3 := by decide
  obtain ⟨v1, p1, hh⟩ := p
  rcases p25 h.to p1 with ⟨e1, b1⟩ | ⟨b1, b2, e1⟩
  · rw [e1] at hh
    rcases hh with ⟨_, hw, e⟩ | ⟨q, z, _⟩
    · exact ⟨e, Or.inl ⟨b1, hw⟩⟩
    · cases z
  rw [e1] at hh
  rcases hh with ⟨z, _⟩ | ⟨q, eq, v9, p9, p⟩
  · cases z
  cases eq
  have n1 := i_nat b1
  have ht : (x1.toNatClampNeg : Int) < tc σ := by
    have : tc σ = (m_i σ 2 0 5).toInt := rfl
    omega
  rcases c1 p with ⟨t1, i17, e17, v19, p19, hw, e⟩ | ⟨t1, y⟩
  · cases e17
    rcases p163 p9 with ⟨a, _⟩ | ⟨_, b⟩
    · exact absurd a t1
    rw [z0, z3] at b
    obtain ⟨o0, o1, o2, o3, o4, o5, _⟩ := h.to.2 _ ht
    have o3 : 0 ≤ (m_i σ 10 x1.toNatClampNeg 3).toInt ∧ (m_i σ 10 x1.toNatClampNeg 3).toInt < 5 := o3
    have o4 : 0 ≤ (m_i σ 10 x1.toNatClampNeg 4).toInt ∧ (m_i σ 10 x1.toNatClampNeg 4).toInt < 5 := o4
    refine ⟨e, Or.inr ⟨_, n1.symm, ht, Or.inr ⟨b, v19, hw, ?_⟩⟩⟩
    rcases p19 with ⟨y, ⟨y2, rfl⟩ | ⟨y2, rfl⟩⟩ | ⟨y, rfl⟩ | ⟨y, rfl⟩ | ⟨y, rfl⟩
    · exact ⟨fun z => by omega, fun z => by omega, fun z => by omega, fun _ => Or.inl ⟨z0, y2⟩⟩
    · exact ⟨fun z => by omega, fun z => by omega, fun z => by omega, fun _ => Or.inr ⟨z1, y2⟩⟩
    · exact ⟨fun _ => rfl, fun z => by omega, fun z => by omega, fun z => by omega⟩
    · exact ⟨fun z => by omega, fun _ => rfl, fun z => by omega, fun z => by omega⟩
    · refine ⟨fun z => by omega, fun z => by omega, fun _ => ?_, fun z => by omega⟩
      have m : (Int32.ofInt 10 * m_i σ 10 x1.toNatClampNeg 3).toInt = 10 * (m_i σ 10 x1.toNatClampNeg 3).toInt := by rw [i_mul (by rw [i_10]; omega) (by rw [i_10]; omega), i_10]
      rw [i_add (by rw [m]; omega) (by rw [m]; omega), m]
  · rcases p163 p9 with ⟨_, b⟩ | ⟨a, _⟩
    · rw [z0, z3] at b
      exact ⟨y.2, Or.inr ⟨_, n1.symm, ht, Or.inl ⟨b, y.1⟩⟩⟩
    · exact absurd t1 a
/-! members -/
def mh (x : Int32) : Prop := -1 ≤ x.toInt ∧ x.toInt < 5
theorem p23' {σ : mS} {x : Int32} {w : mR} (h : P23 σ x w) : (w = none ∧ ¬ mh x) ∨ (w = some (6, hx x) ∧ mh x) := by
  by_cases c : mh x
  · exact Or.inr ⟨(p23 h c).1, c⟩
  · left
    refine ⟨?_, c⟩
    rcases h with ⟨_, v2, p2, rfl⟩ | ⟨z, _⟩
    · rcases p22' p2 with ⟨e, _⟩ | ⟨_, b⟩
      · exact e
      · exact absurd ⟨by omega, b.2⟩ c
    · exact absurd ⟨by omega, by omega⟩ c
theorem a144 {n : Int} {N : Nat} {x1 x2 : Int32} {w : mX} {σ σ' : mS} (h : HI n N σ) (p : P144 σ x1 x2 w σ') : σ' = σ ∧ ((¬ (mh x1 ∧ ik x2) ∧ w = .inr 0) ∨ ((mh x1 ∧ ik x2) ∧ w = .inl (some (.inr (.inl (m_l σ 14 (hx x1) x2.toNatClampNeg)))))) := by
  obtain ⟨v1, p1, hh⟩ := p
  rcases p23' p1 with ⟨e1, b1⟩ | ⟨e1, b1⟩
  · rw [e1] at hh
    rcases hh with ⟨_, hw, e⟩ | ⟨q, z, _⟩
    · exact ⟨e, Or.inl ⟨fun z => b1 z.1, hw⟩⟩
    · cases z
  rw [e1] at hh
  rcases hh with ⟨z, _⟩ | ⟨q, eq, v9, p9, ⟨c, i14, e14, v16, p16, hw, e⟩ | ⟨c, hw, e⟩⟩
  · cases z
  · cases eq
    cases e14
    rcases p166 p9 with ⟨a, _⟩ | ⟨_, b2⟩
    · exact absurd a c
    have hm : hx x1 < 6 := by
      have := p23 p1 b1
      exact this.2
    have := p90 h.1 hm b2 p16
    subst this
    exact ⟨e, Or.inr ⟨⟨b1, b2⟩, hw⟩⟩
  · rcases p166 p9 with ⟨_, b2⟩ | ⟨a, _⟩
    · exact ⟨e, Or.inl ⟨fun z => b2 z.2, hw⟩⟩
    · exact absurd (Decidable.of_not_not c) a
def b3 (x : Int32) : Prop := 0 ≤ x.toInt ∧ x.toInt ≤ 2
theorem a145 {x1 x2 : Int32} {w : mX} {σ σ' : mS} (p : P145 σ x1 x2 w σ') : σ' = σ ∧ ((¬ mh x1 ∧ w = .inr 0) ∨ (mh x1 ∧ ((¬ b3 x2 ∧ w = .inr 1) ∨ (b3 x2 ∧ ∃ v : Int64, w = .inl (some (.inr (.inl v))) ∧ (x2.toInt = 0 → v = m_l σ 6 (hx x1) 2) ∧ (x2.toInt = 1 → v = m_l σ 6 (hx x1) 3) ∧ (x2.toInt = 2 → v = m_l σ 6 (hx x1) 4))))) := by
  have z0 := i_0
  have z2 := i_2
  obtain ⟨v1, p1, hh⟩ := p
  rcases p23' p1 with ⟨e1, b1⟩ | ⟨e1, b1⟩
  · rw [e1] at hh
    rcases hh with ⟨_, hw, e⟩ | ⟨q, z, _⟩
    · exact ⟨e, Or.inl ⟨b1, hw⟩⟩
    · cases z
  rw [e1] at hh
  rcases hh with ⟨z, _⟩ | ⟨q, eq, v9, p9, p⟩
  · cases z
  cases eq
  rcases c1 p with ⟨t1, i17, e17, v19, p19, hw, e⟩ | ⟨t1, y⟩
  · cases e17
    rcases p163 p9 with ⟨a, _⟩ | ⟨_, b⟩
    · exact absurd a t1
    rw [z0, z2] at b
    refine ⟨e, Or.inr ⟨b1, Or.inr ⟨b, v19, hw, ?_⟩⟩⟩
    rcases p19 with ⟨y, ⟨y2, rfl⟩ | ⟨y2, rfl⟩⟩ | ⟨y, rfl⟩
    · exact ⟨fun z => absurd z y, fun z => absurd z y2, fun _ => rfl⟩
    · exact ⟨fun z => absurd z y, fun _ => rfl, fun z => by omega⟩
    · exact ⟨fun _ => rfl, fun z => by omega, fun z => by omega⟩
  · rcases p163 p9 with ⟨_, b⟩ | ⟨a, _⟩
    · rw [z0, z2] at b
      exact ⟨y.2, Or.inr ⟨b1, Or.inl ⟨b, y.1⟩⟩⟩
    · exact absurd t1 a
/-- what is told of a member's standing -/
def sM (σ : mS) (m : Nat) : Int := if mi6 σ m 9 = 0 then (if mi6 σ m 7 = 0 then 0 else 1) else (if mi6 σ m 10 = 0 then 2 else 3)
theorem a149 {n : Int} {N : Nat} {x : Int32} {w : mX} {σ σ' : mS} (h : HI n N σ) (p : P149 σ x w σ') : σ' = σ ∧ ((¬ mb x ∧ w = .inr 0) ∨ (mb x ∧ ∃ v : Int32, w = .inl (some (.inl v)) ∧ v.toInt = 10 * mi6 σ (x.toNatClampNeg + 1) 6 + sM σ (x.toNatClampNeg + 1) ∧ 0 ≤ mi6 σ (x.toNatClampNeg + 1) 6)) := by
  have z0 := i_0
  have z1 := i_1
  have z2 := i_2
  have z3 : (Int32.ofInt 3).toInt = 3 := by decide
  obtain ⟨v1, p1, hh⟩ := p
  rcases p22' p1 with ⟨e1, b1⟩ | ⟨e1, b1⟩
  · rw [e1] at hh
    rcases hh with ⟨_, hw, e⟩ | ⟨q, z, _⟩
    · exact ⟨e, Or.inl ⟨b1, hw⟩⟩
    · cases z
  rw [e1] at hh
  rcases hh with ⟨z, _⟩ | ⟨q, eq, i9, e9, v11, p11, hw, e⟩
  · cases z
  cases eq
  cases e9
  have n1 := i_nat b1.1
  have bb := h.2.2.2.1.2.2.2.2.2.2.2.2.2.2.2.2.2.2 (x.toNatClampNeg + 1) (by omega) (by omega)
  have sp := h.sp
  have bb1 : 0 ≤ (m_i σ 6 (x.toNatClampNeg + 1) 6).toInt := bb.1
  have bb2 : (m_i σ 6 (x.toNatClampNeg + 1) 6).toInt ≤ n + 2 * nF σ := bb.2
  refine ⟨e, Or.inr ⟨b1, _, hw, ?_, bb.1⟩⟩
  have m : (Int32.ofInt 10 * m_i σ 6 (x.toNatClampNeg + 1) 6).toInt = 10 * (m_i σ 6 (x.toNatClampNeg + 1) 6).toInt := by rw [i_mul (by rw [i_10]; omega) (by rw [i_10]; omega), i_10]
  have r : v11.toInt = sM σ (x.toNatClampNeg + 1) := by
    unfold sM
    rcases p11 with ⟨y, ⟨y2, rfl⟩ | ⟨y2, rfl⟩⟩ | ⟨y, ⟨y2, rfl⟩ | ⟨y2, rfl⟩⟩
    · rw [if_pos y, if_pos y2]; exact z0
    · rw [if_pos y, if_neg y2]; exact z1
    · rw [if_neg y, if_pos y2]; exact z2
    · rw [if_neg y, if_neg y2]; exact z3
  have r2 : 0 ≤ sM σ (x.toNatClampNeg + 1) ∧ sM σ (x.toNatClampNeg + 1) ≤ 3 := by
    unfold sM
    split <;> split <;> omega
  rw [i_add (by rw [m, r]; omega) (by rw [m, r]; omega), m, r]
