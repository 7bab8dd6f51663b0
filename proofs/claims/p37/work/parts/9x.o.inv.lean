/-! what the law knows between its turns -/
def LI (N : Nat) (k : Kt) (T : Int) (d : Int64) (σ : mS) : Prop := (gH σ) ∧ ((m_i σ 13 17 0).toInt = N) ∧ (N ≤ 60) ∧ (∀ o, o < N → (m_i σ 13 14 o).toInt = oi σ o 4 ∧ (m_i σ 13 15 o).toInt = oi σ o 1 + 10 * oi σ o 2 + 100 * oi σ o 3) ∧ ((m_i σ 13 17 3).toInt = T) ∧ (0 ≤ (m_i σ 13 17 4).toInt ∧ (m_i σ 13 17 4).toInt ≤ nF σ) ∧ (∀ i, i < 3 → (m_i σ 13 17 (5 + i)).toInt = pv σ i 5) ∧ (m_l σ 14 6 0 + d = sm σ) ∧ (∀ j, j < 3 → ps σ j = 0) ∧ (∀ o, o < N → ∀ i : Nat, oi σ o 2 = i → oi σ o 6 ≤ 60 * pv σ i 6) ∧ ((m_i σ 13 17 1).toInt = (m_i σ 2 0 6).toInt) ∧ (∀ s j : Nat, (s : Int) < (m_i σ 2 0 6).toInt → j < 3 → m_i σ 13 16 (3 * s + j) = k.2 s j) ∧ (∀ o, o < N → oi σ o 9 ≤ 2)
theorem LI.gh {N : Nat} {k : Kt} {T : Int} {d : Int64} {σ : mS} (h : LI N k T d σ) : gH σ := h.1
theorem LI.n0 {N : Nat} {k : Kt} {T : Int} {d : Int64} {σ : mS} (h : LI N k T d σ) : (m_i σ 13 17 0).toInt = N := h.2.1
theorem LI.n60 {N : Nat} {k : Kt} {T : Int} {d : Int64} {σ : mS} (h : LI N k T d σ) : N ≤ 60 := h.2.2.1
theorem LI.ord {N : Nat} {k : Kt} {T : Int} {d : Int64} {σ : mS} (h : LI N k T d σ) : ∀ o, o < N → (m_i σ 13 14 o).toInt = oi σ o 4 ∧ (m_i σ 13 15 o).toInt = oi σ o 1 + 10 * oi σ o 2 + 100 * oi σ o 3 := h.2.2.2.1
theorem LI.t3 {N : Nat} {k : Kt} {T : Int} {d : Int64} {σ : mS} (h : LI N k T d σ) : (m_i σ 13 17 3).toInt = T := h.2.2.2.2.1
theorem LI.g4 {N : Nat} {k : Kt} {T : Int} {d : Int64} {σ : mS} (h : LI N k T d σ) : 0 ≤ (m_i σ 13 17 4).toInt ∧ (m_i σ 13 17 4).toInt ≤ nF σ := h.2.2.2.2.2.1
theorem LI.sp {N : Nat} {k : Kt} {T : Int} {d : Int64} {σ : mS} (h : LI N k T d σ) : ∀ i, i < 3 → (m_i σ 13 17 (5 + i)).toInt = pv σ i 5 := h.2.2.2.2.2.2.1
theorem LI.mon {N : Nat} {k : Kt} {T : Int} {d : Int64} {σ : mS} (h : LI N k T d σ) : m_l σ 14 6 0 + d = sm σ := h.2.2.2.2.2.2.2.1
theorem LI.pos {N : Nat} {k : Kt} {T : Int} {d : Int64} {σ : mS} (h : LI N k T d σ) : ∀ j, j < 3 → ps σ j = 0 := h.2.2.2.2.2.2.2.2.1
theorem LI.b60 {N : Nat} {k : Kt} {T : Int} {d : Int64} {σ : mS} (h : LI N k T d σ) : ∀ o, o < N → ∀ i : Nat, oi σ o 2 = i → oi σ o 6 ≤ 60 * pv σ i 6 := h.2.2.2.2.2.2.2.2.2.1
theorem LI.g1 {N : Nat} {k : Kt} {T : Int} {d : Int64} {σ : mS} (h : LI N k T d σ) : (m_i σ 13 17 1).toInt = (m_i σ 2 0 6).toInt := h.2.2.2.2.2.2.2.2.2.2.1
theorem LI.rows {N : Nat} {k : Kt} {T : Int} {d : Int64} {σ : mS} (h : LI N k T d σ) : ∀ s j : Nat, (s : Int) < (m_i σ 2 0 6).toInt → j < 3 → m_i σ 13 16 (3 * s + j) = k.2 s j := h.2.2.2.2.2.2.2.2.2.2.2.1
theorem LI.st2 {N : Nat} {k : Kt} {T : Int} {d : Int64} {σ : mS} (h : LI N k T d σ) : ∀ o, o < N → oi σ o 9 ≤ 2 := h.2.2.2.2.2.2.2.2.2.2.2.2
theorem gX13 {i : Nat} (h : 14 ≤ i ∧ i < 18) : ¬ gX (13, i) := fun z => z (Or.inl ⟨rfl, h⟩)
theorem gX14 : ¬ gX (14, 6) := fun z => z (Or.inr ⟨rfl, rfl⟩)
theorem gF.i {σ σ' : mS} (g : gF σ σ') {i : Nat} (h : 14 ≤ i ∧ i < 18) (k : Nat) : m_i σ' 13 i k = m_i σ 13 i k := (g.2.1 13 i k (gX13 h)).1
theorem gF.l {σ σ' : mS} (g : gF σ σ') (k : Nat) : m_l σ' 14 6 k = m_l σ 14 6 k := (g.2.1 14 6 k gX14).2
theorem LI.keep {N : Nat} {k : Kt} {T : Int} {d d' : Int64} {σ σ' : mS} (h : LI N k T d σ) (g : gF σ σ') (e1 : ∀ o k, o < N → 1 ≤ k → k ≤ 4 → m_i σ' 7 o k = m_i σ 7 o k) (e6 : ∀ o, o < N → oi σ' o 6 ≤ oi σ o 6) (e8 : ∀ i, i < 3 → m_i σ' 8 i 5 = m_i σ 8 i 5 ∧ m_i σ' 8 i 6 = m_i σ 8 i 6) (eF : nF σ ≤ nF σ') (em : m_l σ 14 6 0 + d' = sm σ') (ep : ∀ j, ps σ' j = ps σ j) (e2 : m_i σ' 2 0 6 = m_i σ 2 0 6) (ho : hO σ N) (e9 : ∀ o, o < N → oi σ' o 9 = oi σ o 9 ∨ oi σ' o 9 = 0 ∨ oi σ' o 9 = 1) : LI N k T d' σ' := by
  refine ⟨?_, ?_, ?_, ?_, ?_, ?_, ?_, ?_, ?_, ?_, ?_, ?_, ?_⟩
  · exact g.1
  · rw [g.i (by omega)]; exact h.n0
  · exact h.n60
  · intro o hoN
    obtain ⟨a, b⟩ := h.ord o hoN
    have f : ∀ k, 1 ≤ k → k ≤ 4 → oi σ' o k = oi σ o k := fun k h1 h2 => congrArg Int32.toInt (e1 o k hoN h1 h2)
    rw [g.i (by omega), g.i (by omega), f 4 (by omega) (by omega), f 1 (by omega) (by omega), f 2 (by omega) (by omega), f 3 (by omega) (by omega)]
    exact ⟨a, b⟩
  · rw [g.i (by omega)]; exact h.t3
  · rw [g.i (by omega)]; exact ⟨h.g4.1, Int.le_trans h.g4.2 eF⟩
  · intro i hi
    rw [g.i (by omega)]
    show _ = (m_i σ' 8 i 5).toInt
    rw [(e8 i hi).1]
    exact h.sp i hi
  · rw [g.l]; exact em
  · exact fun j hj => (ep j).trans (h.pos j hj)
  · intro o hoN i hi
    have f : oi σ' o 2 = oi σ o 2 := congrArg Int32.toInt (e1 o 2 hoN (by omega) (by omega))
    rw [f] at hi
    have q := h.b60 o hoN i hi
    have i3 : i < 3 := by have := (ho o hoN).2.1.2; omega
    have z : pv σ' i 6 = pv σ i 6 := congrArg Int32.toInt (e8 i i3).2
    rw [z]
    exact Int.le_trans (e6 o hoN) q
  · rw [g.i (by omega), e2]; exact h.g1
  · intro s j hs hj
    rw [e2] at hs
    rw [g.i (by omega)]
    exact h.rows s j hs hj
  · intro o ho'
    have := h.st2 o ho'
    rcases e9 o ho' with z | z | z <;> omega
theorem LI.k {N : Nat} {k k' : Kt} {T : Int} {d : Int64} {σ : mS} (h : LI N k T d σ) (e : ∀ s j : Nat, (s : Int) < (m_i σ 2 0 6).toInt → k'.2 s j = k.2 s j) : LI N k' T d σ := ⟨h.gh, h.n0, h.n60, h.ord, h.t3, h.g4, h.sp, h.mon, h.pos, h.b60, h.g1, fun s j hs hj => (h.rows s j hs hj).trans (e s j hs).symm, h.st2⟩
theorem LI.d0 {N : Nat} {k : Kt} {T : Int} {σ : mS} (h : LI N k T 0 σ) : m_l σ 14 6 0 = sm σ := by
  have := h.mon
  rw [← this]
  exact (Int64.add_zero _).symm
/-- g[3] is told -/
theorem LI.w3 {N : Nat} {k : Kt} {T : Int} {d : Int64} {σ : mS} {v : Int32} (h : LI N k T d σ) : LI N k v.toInt d (m_set σ 13 17 3 (.inl v)) := by
  refine ⟨?_, ?_, ?_, ?_, ?_, ?_, ?_, ?_, ?_, ?_, ?_, ?_, ?_⟩
  · exact h.gh
  · rw [mi_si, if_neg (fun z => by omega)]; exact h.n0
  · exact h.n60
  · intro o ho
    have e : ∀ c a b, (c, a) ≠ (13, 17) → m_i (m_set σ 13 17 3 (.inl v)) c a b = m_i σ c a b := fun c a b hc => by rw [mi_si, if_neg (fun z => hc (by rw [z.1, z.2.1]))]
    show (m_i _ 13 14 o).toInt = (m_i _ 7 o 4).toInt ∧ (m_i _ 13 15 o).toInt = (m_i _ 7 o 1).toInt + 10 * (m_i _ 7 o 2).toInt + 100 * (m_i _ 7 o 3).toInt
    rw [e 13 14 o (fun z => by cases z), e 13 15 o (fun z => by cases z), e 7 o 4 (fun z => by cases z), e 7 o 1 (fun z => by cases z), e 7 o 2 (fun z => by cases z), e 7 o 3 (fun z => by cases z)]
    exact h.ord o ho
  · rw [mi_si, if_pos ⟨rfl, rfl, rfl⟩]
  · rw [mi_si, if_neg (fun z => by omega)]; exact h.g4
  · exact fun i hi => by rw [mi_si, if_neg (fun z => by omega)]; exact h.sp i hi
  · exact h.mon
  · exact h.pos
  · exact h.b60
  · rw [mi_si, if_neg (fun z => by omega)]; exact h.g1
  · exact fun s j hs hj => by rw [mi_si, if_neg (fun z => by omega)]; exact h.rows s j hs hj
  · intro o ho
    show (m_i _ 7 o 9).toInt ≤ 2
    rw [mi_si, if_neg (fun z => by cases z.1)]
    exact h.st2 o ho
/-- t[0] is told -/
theorem LI.wt {N : Nat} {k : Kt} {T : Int} {d : Int64} {σ : mS} {v : Int64} (h : LI N k T d σ) (e : v = m_l σ 14 6 0 + d) : LI N k T 0 (m_set σ 14 6 0 (.inr (.inl v))) := by
  refine ⟨?_, ?_, ?_, ?_, ?_, ?_, ?_, ?_, ?_, ?_, ?_, ?_, ?_⟩
  · exact h.gh
  · exact h.n0
  · exact h.n60
  · exact h.ord
  · exact h.t3
  · exact h.g4
  · exact h.sp
  · skip
    have e6 : ∀ i k, m_l (m_set σ 14 6 0 (.inr (.inl v))) 6 i k = m_l σ 6 i k := fun i k => ml_14 (fun z => by cases z.1)
    have es : sm (m_set σ 14 6 0 (.inr (.inl v))) = sm σ := by
      unfold sm
      simp only [e6]
    rw [ml_sl, if_pos ⟨rfl, rfl, rfl⟩, es, Int64.add_zero, e]
    exact h.mon
  · intro j hj
    have e14 : ∀ i k, i < 6 → m_l (m_set σ 14 6 0 (.inr (.inl v))) 14 i k = m_l σ 14 i k := fun i k hi => ml_14 (fun z => by omega)
    have := h.pos j hj
    unfold ps at this ⊢
    rw [e14 0 j (by decide), e14 1 j (by decide), e14 2 j (by decide), e14 3 j (by decide), e14 4 j (by decide), e14 5 j (by decide)]
    exact this
  · exact h.b60
  · exact h.g1
  · exact h.rows
  · exact h.st2
/-- an order more -/
theorem LI.wo {N : Nat} {k : Kt} {T : Int} {d : Int64} {σ : mS} {v4 vm vn : Int32} (h : LI N k T d σ) (hN : N < 60) (e4 : v4.toInt = oi σ N 4) (em : vm.toInt = oi σ N 1 + 10 * oi σ N 2 + 100 * oi σ N 3) (en : vn.toInt = N + 1) (eb : ∀ i : Nat, oi σ N 2 = i → oi σ N 6 ≤ 60 * pv σ i 6) (e9 : oi σ N 9 ≤ 2) : LI (N + 1) k T d (m_set (m_set (m_set σ 13 14 N (.inl v4)) 13 15 N (.inl vm)) 13 17 0 (.inl vn)) := by
  refine ⟨?_, ?_, ?_, ?_, ?_, ?_, ?_, ?_, ?_, ?_, ?_, ?_, ?_⟩
  · exact h.gh
  · rw [mi_si, if_pos ⟨rfl, rfl, rfl⟩]; omega
  · omega
  · intro o ho
    have e : ∀ c a b, c ≠ 13 → m_i (m_set (m_set (m_set σ 13 14 N (.inl v4)) 13 15 N (.inl vm)) 13 17 0 (.inl vn)) c a b = m_i σ c a b := fun c a b hc => by rw [mi_si, if_neg (fun z => hc z.1), mi_si, if_neg (fun z => hc z.1), mi_si, if_neg (fun z => hc z.1)]
    have p14 : m_i (m_set (m_set (m_set σ 13 14 N (.inl v4)) 13 15 N (.inl vm)) 13 17 0 (.inl vn)) 13 14 o = if o = N then v4 else m_i σ 13 14 o := by
      rw [mi_si, if_neg (fun z => by cases z.2.1), mi_si, if_neg (fun z => by cases z.2.1), mi_si]
      by_cases c : o = N
      · rw [if_pos ⟨rfl, rfl, c⟩, if_pos c]
      · rw [if_neg (fun z => c z.2.2), if_neg c]
    have p15 : m_i (m_set (m_set (m_set σ 13 14 N (.inl v4)) 13 15 N (.inl vm)) 13 17 0 (.inl vn)) 13 15 o = if o = N then vm else m_i σ 13 15 o := by
      rw [mi_si, if_neg (fun z => by cases z.2.1), mi_si]
      by_cases c : o = N
      · rw [if_pos ⟨rfl, rfl, c⟩, if_pos c]
      · rw [if_neg (fun z => c z.2.2), if_neg c, mi_si, if_neg (fun z => by cases z.2.1)]
    show (m_i _ 13 14 o).toInt = (m_i _ 7 o 4).toInt ∧ (m_i _ 13 15 o).toInt = (m_i _ 7 o 1).toInt + 10 * (m_i _ 7 o 2).toInt + 100 * (m_i _ 7 o 3).toInt
    rw [p14, p15, e 7 o 4 (by decide), e 7 o 1 (by decide), e 7 o 2 (by decide), e 7 o 3 (by decide)]
    by_cases c : o = N
    · rw [if_pos c, if_pos c]
      subst c
      exact ⟨e4, em⟩
    · rw [if_neg c, if_neg c]
      exact h.ord o (by omega)
  · rw [mi_si, if_neg (fun z => by omega), mi_si, if_neg (fun z => by omega), mi_si, if_neg (fun z => by omega)]; exact h.t3
  · rw [mi_si, if_neg (fun z => by omega), mi_si, if_neg (fun z => by omega), mi_si, if_neg (fun z => by omega)]; exact h.g4
  · exact fun i hi => by rw [mi_si, if_neg (fun z => by omega), mi_si, if_neg (fun z => by omega), mi_si, if_neg (fun z => by omega)]; exact h.sp i hi
  · exact h.mon
  · exact h.pos
  · intro o ho i hi
    have e : ∀ c a b, c ≠ 13 → m_i (m_set (m_set (m_set σ 13 14 N (.inl v4)) 13 15 N (.inl vm)) 13 17 0 (.inl vn)) c a b = m_i σ c a b := fun c a b hc => by rw [mi_si, if_neg (fun z => hc z.1), mi_si, if_neg (fun z => hc z.1), mi_si, if_neg (fun z => hc z.1)]
    unfold oi at hi ⊢
    unfold pv
    rw [e _ _ _ (by decide)] at hi
    rw [e _ _ _ (by decide), e _ _ _ (by decide)]
    by_cases c : o = N
    · subst c
      exact eb i hi
    · exact h.b60 o (by omega) i hi
  · rw [mi_si, if_neg (fun z => by omega), mi_si, if_neg (fun z => by omega), mi_si, if_neg (fun z => by omega)]; exact h.g1
  · exact fun s j hs hj => by rw [mi_si, if_neg (fun z => by omega), mi_si, if_neg (fun z => by omega), mi_si, if_neg (fun z => by omega)]; exact h.rows s j hs hj
  · intro o ho
    show (m_i _ 7 o 9).toInt ≤ 2
    rw [mi_si, if_neg (fun z => by cases z.1), mi_si, if_neg (fun z => by cases z.1), mi_si, if_neg (fun z => by cases z.1)]
    by_cases c : o = N
    · subst c
      exact e9
    · exact h.st2 o (by omega)
/-! what a turn's call comes to -/
def OKw (w : mX) : Prop := ∃ v : Int32, w = .inl (some (.inl v)) ∧ v.toInt ≠ 0
def RES (n : Int) (N c : Nat) (k : Kt) (w : mX) (σ' : mS) : Prop := OKw w ∧ ∃ (n' : Int) (N' : Nat) (k' : Kt), n ≤ n' ∧ n' ≤ n + 2 ∧ N ≤ N' ∧ N' ≤ N + 1 ∧ k.1 ≤ k'.1 ∧ k'.1 ≤ k.1 + 1 ∧ D n' N' c k' σ' ∧ LI N' k' (tc σ') 0 σ'
theorem S_D {n : Int} {N c : Nat} {k : Kt} {σ : mS} (h : S n N c k σ) : D n N c k σ := ⟨h.1, c, FY_FO h.2, Nat.le_refl _, by omega⟩
theorem RES_S {n : Int} {N c : Nat} {k : Kt} {w : mX} {σ : mS} (h : S n N c k σ) (l : LI N k (tc σ) 0 σ) (ok : OKw w) : RES n N c k w σ := ⟨ok, n, N, k, Int.le_refl _, by omega, Nat.le_refl _, by omega, Nat.le_refl _, by omega, S_D h, l⟩
theorem ok1 : OKw (.inl (some (.inl (Int32.ofInt 1)))) := ⟨_, rfl, by decide⟩
theorem litA : (Int64.ofInt (-3000000000)).toInt = -3000000000 := by decide
theorem litB : (Int64.ofInt (-2000000000)).toInt = -2000000000 := by decide
theorem litC : (Int64.ofInt (-1000000000)).toInt = -1000000000 := by decide
theorem hv0 : (hv 0).toInt = -3000000000 := litA
theorem hv1 : (hv 1).toInt = -2000000000 := litB
theorem hv2 : (hv 2).toInt = -1000000000 := litC
theorem l32 {v : Int64} (h1 : -2147483648 ≤ v.toInt) (h2 : v.toInt < 2147483648) : (dv (.inl (some (.inl v.toInt32)))).toInt = v.toInt := by
  show v.toInt32.toInt64.toInt = v.toInt
  rw [i64, Int64.toInt_toInt32]
  exact bmod_id h1 h2
/-- has a member failed? -/
theorem a182 {n : Int} {N : Nat} {x : Int32} {w : mX} {σ σ' : mS} (h : HI n N σ) (p : P182 σ x w σ') : σ' = σ ∧ ∃ v : Int32, w = .inl (some (.inl v)) ∧ ((v.toInt = 0 ∧ (mb x → nfl σ x)) ∨ (v.toInt ≠ 0 ∧ mb x ∧ ¬ nfl σ x)) := by
  have z0 := i_0
  have z1 := i_1
  rcases p with ⟨c, hw, e⟩ | ⟨c, ⟨c2, hw, e⟩ | ⟨c2, p⟩⟩
  · exact ⟨e, _, hw, Or.inl ⟨z0, fun z => by have := z.1; omega⟩⟩
  · exact ⟨e, _, hw, Or.inl ⟨z0, fun z => by have := z.2; omega⟩⟩
  · have hb : mb x := ⟨by omega, by omega⟩
    have n1 := i_nat hb.1
    have f1 : mi6 σ (x.toNatClampNeg + 1) 9 = 0 ∨ mi6 σ (x.toNatClampNeg + 1) 9 = 1 := (h.2.2.2.1.2.2.2.1 (x.toNatClampNeg + 1) (by omega) (by have := hb.2; omega)).2.1
    have sM1 : sM σ (x.toNatClampNeg + 1) ≤ 1 ↔ nfl σ x := by
      show _ ↔ mi6 σ (x.toNatClampNeg + 1) 9 = 0
      unfold sM
      constructor
      · intro z
        rcases f1 with f | f
        · exact f
        · rw [if_neg (by omega)] at z
          split at z <;> omega
      · intro z
        rw [if_pos z]
        split <;> omega
    have sM0 : 0 ≤ sM σ (x.toNatClampNeg + 1) ∧ sM σ (x.toNatClampNeg + 1) ≤ 3 := by
      unfold sM
      split <;> split <;> omega
    rcases p with ⟨v3, p3, h3⟩ | ⟨b, p3, _⟩
    · obtain ⟨_, ⟨a, _⟩ | ⟨_, v, e, e2, e3⟩⟩ := a149 h p3
      · exact absurd hb a
      · cases e
        have md : (v3 - v3 / Int32.ofInt 10 * Int32.ofInt 10).toInt = sM σ (x.toNatClampNeg + 1) := by
          rw [md32 (by omega) (by rw [i_10]; decide), i_10, e2]
          omega
        rw [md] at h3
        rcases h3 with ⟨d, hw, e⟩ | ⟨d, hw, e⟩
        · exact ⟨e, _, hw, Or.inl ⟨z0, fun _ => sM1.mp d⟩⟩
        · exact ⟨e, _, hw, Or.inr ⟨by rw [z1]; decide, hb, fun z => d (sM1.mpr z)⟩⟩
    · obtain ⟨_, ⟨a, _⟩ | ⟨_, v, e, _⟩⟩ := a149 h p3
      · exact absurd hb a
      · cases e
