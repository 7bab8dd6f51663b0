/-! the law: an order -/
def FIN (n : Int) (N c : Nat) (k : Kt) (w : mX) (σ' : mS) : Prop := OKw w ∧ D n N c k σ' ∧ LI N k (tc σ') 0 σ'
theorem FIN_RES {n n' : Int} {N N' c : Nat} {k : Kt} {w : mX} {σ' : mS} (h : FIN n' N' c k w σ') (a : n ≤ n') (b : n' ≤ n + 2) (d : N ≤ N') (e : N' ≤ N + 1) : RES n N c k w σ' := ⟨h.1, n', N', k, a, b, d, e, Nat.le_refl _, Nat.le_succ _, h.2.1, h.2.2⟩
theorem add_ord {n : Int} {N c : Nat} {k : Kt} {T : Int} {x1 x2 x3 x4 vm : Int32} {σ22 σ32 σ36 σ40 : mS} (hD : D n (N + 1) c k σ22) (l2 : LI N k T 0 σ22) (N60 : N < 60) (new : m_i σ22 7 N 1 = x1 ∧ m_i σ22 7 N 2 = x2 ∧ m_i σ22 7 N 3 = x3 ∧ m_i σ22 7 N 4 = x4) (l6 : oi σ22 N 6 ≤ 60) (l9 : oi σ22 N 9 ≤ 2) (hx2 : ik x2) (em : vm.toInt = x1.toInt + 10 * x2.toInt + 100 * x3.toInt)
    (e32 : σ32 = m_set σ22 13 14 ((m_i σ22 13 17 (Int32.ofInt 0).toNatClampNeg).toNatClampNeg) (.inl x4)) (e36 : σ36 = m_set σ32 13 15 ((m_i σ32 13 17 (Int32.ofInt 0).toNatClampNeg).toNatClampNeg) (.inl vm)) (e40 : σ40 = m_set σ36 13 17 ((Int32.ofInt 0).toNatClampNeg) (.inl (m_i σ36 13 17 (Int32.ofInt 0).toNatClampNeg + Int32.ofInt 1))) :
    D n (N + 1) c k σ40 ∧ LI (N + 1) k T 0 σ40 ∧ (m_i σ40 13 17 (Int32.ofInt 0).toNatClampNeg - Int32.ofInt 1).toInt = N ∧ ∀ a b d, a ≠ 13 → m_i σ40 a b d = m_i σ22 a b d := by
  have z1 := i_1
  rw [n_0] at e32 e36 e40 ⊢
  have n0 := l2.n0
  have nN : (m_i σ22 13 17 0).toNatClampNeg = N := by
    have := i_nat (a := m_i σ22 13 17 0) (by omega)
    omega
  rw [nN] at e32
  have e32' : m_i σ32 13 17 0 = m_i σ22 13 17 0 := by rw [e32, mi_si, if_neg (fun z => by cases z.2.1)]
  rw [e32', nN] at e36
  have e36' : m_i σ36 13 17 0 = m_i σ22 13 17 0 := by rw [e36, mi_si, if_neg (fun z => by cases z.2.1), e32']
  rw [e36'] at e40
  have vn : (m_i σ22 13 17 0 + Int32.ofInt 1).toInt = N + 1 := by rw [i_inc (by omega) (by omega), n0]
  obtain ⟨w1, w2, w3, w4⟩ := new
  refine ⟨?_, ?_, ?_, fun a b d ha => ?_⟩
  · rw [e40, e36, e32]
    exact D_13 (D_13 (D_13 hD (by omega)) (by omega)) (by omega)
  · rw [e40, e36, e32]
    refine l2.wo N60 ?_ ?_ vn ?_ l9
    · show _ = (m_i σ22 7 N 4).toInt
      rw [w4]
    · show _ = (m_i σ22 7 N 1).toInt + 10 * (m_i σ22 7 N 2).toInt + 100 * (m_i σ22 7 N 3).toInt
      rw [w1, w2, w3]
      exact em
    · intro i hi
      have hi : (m_i σ22 7 N 2).toInt = i := hi
      rw [w2] at hi
      have := (hD.1.po i (by have := hx2.2; omega)).2.2.2.2.1
      omega
  · rw [e40, mi_si, if_pos ⟨rfl, rfl, rfl⟩, i_sub (by omega) (by omega), vn, z1]
    omega
  · rw [e40, mi_si, if_neg (fun z => ha z.1), e36, mi_si, if_neg (fun z => ha z.1), e32, mi_si, if_neg (fun z => ha z.1)]
/-- trades that have come, counted -/
theorem fin181 {n : Int} {N c : Nat} {k : Kt} {T : Int} {w : mX} {τ σ2 : mS} (hD : D n N c k τ) (l : LI N k T 0 τ) (h0 : 0 ≤ T) (h1 : T ≤ tc τ) (hg : ∀ t : Nat, T ≤ t → (t : Int) < tc τ → ti τ t 9 = 0) (p : P181 τ w σ2) : FIN n N c k w σ2 := by
  obtain ⟨o, e⟩ := a181 hD.1 (by rw [l.t3]; exact h0) (by rw [l.t3]; exact h1) (by rw [l.t3]; exact hg) p
  have t : tc σ2 = tc τ := by
    rw [e]
    show (m_i _ 2 0 5).toInt = _
    rw [mi_si, if_neg (fun z => by cases z.1)]
  refine ⟨o, by rw [e]; exact D_13 hD (by omega), ?_⟩
  rw [t, e]
  exact l.w3
theorem s184_419 {n : Int} {N c : Nat} {k : Kt} {T : Int} {w : mX} {τ σ' : mS} (hD : D n N c k τ) (l : LI N k T 0 τ) (h0 : 0 ≤ T) (h1 : T ≤ tc τ) (hg : ∀ t : Nat, T ≤ t → (t : Int) < tc τ → ti τ t 9 = 0) (p : J184_419 τ w σ') : FIN n N c k w σ' := by
  rcases p with ⟨v1, σ2, _, q, ⟨a, _⟩ | ⟨_, hw, e⟩⟩ | ⟨b, _, q, _⟩
  · obtain ⟨⟨v, e, ne⟩, _⟩ := fin181 hD l h0 h1 hg q
    cases e
    exact absurd a ne
  · obtain ⟨_, f2, f3⟩ := fin181 hD l h0 h1 hg q
    subst e
    rw [hw]
    exact ⟨ok1, f2, f3⟩
  · obtain ⟨⟨v, e, ne⟩, _⟩ := fin181 hD l h0 h1 hg q
    cases e
theorem s184_356 {n : Int} {N c : Nat} {k : Kt} {T : Int} {u10 u12 u13 t0 : Int32} {w : mX} {τ σ' : mS} (hD : D n N c k τ) (l : LI N k T 0 τ) (h0 : 0 ≤ T) (h1 : T ≤ tc τ) (hg : ∀ t : Nat, T ≤ t → (t : Int) < tc τ → ti τ t 9 = 0) (a b : Int) (et : t0.toInt = 10 * a + b) (ha : 0 ≤ a ∧ a ≤ u10.toInt) (hb : b = 0 ∨ b = 1) (h12 : u12.toInt ≠ 0 → u12.toInt ≠ 3 → a = 0 ∧ b = 0) (h3 : u12.toInt = 3 → u13.toInt = 0 → a = u10.toInt) (p : J184_356 u10 u12 u13 t0 τ w σ') : FIN n N c k w σ' := by
  have dv10 : (t0 / Int32.ofInt 10).toInt = a := by
    rw [dv32 (by omega) (by rw [i_10]; decide), i_10, et]
    omega
  have md10 : (t0 - t0 / Int32.ofInt 10 * Int32.ofInt 10).toInt = b := by
    rw [md32 (by omega) (by rw [i_10]; decide), i_10, et]
    omega
  have go : J184_398 u10 u12 u13 t0 τ w σ' → FIN n N c k w σ' := by
    intro p
    rcases p with ⟨_, p⟩ | ⟨x, ⟨_, p⟩ | ⟨y, ⟨z, _⟩ | ⟨_, p⟩⟩⟩
    · exact s184_419 hD l h0 h1 hg p
    · exact s184_419 hD l h0 h1 hg p
    · rw [dv10] at z
      exact absurd (h3 (Decidable.of_not_not x) (Decidable.of_not_not y)) z
    · exact s184_419 hD l h0 h1 hg p
  rcases p with ⟨x, _⟩ | ⟨_, ⟨x, _⟩ | ⟨_, ⟨x, _⟩ | ⟨_, ⟨_, p⟩ | ⟨y, ⟨_, p⟩ | ⟨z, ⟨x, _⟩ | ⟨_, p⟩⟩⟩⟩⟩⟩
  · omega
  · rw [md10] at x
    omega
  · rw [dv10] at x
    omega
  · exact go p
  · exact go p
  · obtain ⟨q1, q2⟩ := h12 y z
    omega
  · exact go p
theorem em1 : (Int64.ofInt (-1)).toInt = -1 := by decide
theorem s184_266 {n : Int} {N c : Nat} {k : Kt} {u6 u7 u8 u9 u10 u12 u13 : Int32} {u16 : Int64} {y w : mX} {σ τ σ' : mS} (h : S n N c k σ) (l : LI N k (tc σ) 0 σ) (N60 : N < 60) (gf : gF σ τ) (hA : mb u6 ∧ ik u7 ∧ sd u8) (hq : 1 ≤ u10.toInt ∧ u10.toInt ≤ 60) (ha : u13.toInt ≠ 0 ↔ pv σ u7.toNatClampNeg 1 ≠ 0) (R : R126 n N c k σ u6 u7 u8 u9 u10 u12 y τ) (ev : u16 = dv y) (p : J184_266 u6 u7 u8 u9 u10 u12 u13 u16 τ w σ') : RES n N c k w σ' := by
  have z0 := i_0
  have t0 : 0 ≤ tc σ := h.1.to.1.1
  obtain ⟨v, ey, ⟨vm, hk, ph, hS, F⟩ | ⟨vN, hD, F, K, old, m, new, l6, l9, l12, l3⟩⟩ := R
  · have e16 : u16.toInt = -1 := by rw [ev, ey, l32 (by omega) (by omega)]; exact vm
    have t : tc τ = tc σ := congrArg Int32.toInt (F.2 2 0 5 rfl).1
    have l2 : LI N k (tc τ) 0 τ := by
      rw [t]
      exact l.kq gf F rfl (by rw [sm_fw F rfl]; exact l.mon) (fun j => ps_fw F rfl) h.1.2.2.1
    have fin : ∀ {w' : mX} {σ2 : mS}, P181 τ w' σ2 → FIN n N c k w' σ2 := fun q => fin181 (S_D hS) l2 (by omega) (Int.le_refl _) (fun t a b => by omega) q
    rcases p with ⟨a, _⟩ | ⟨_, ⟨a, _⟩ | ⟨_, ⟨a, _⟩ | ⟨_, ⟨v22, σ23, _, q, ⟨b, _⟩ | ⟨_, hw, e⟩⟩ | ⟨b, _, q, _⟩⟩⟩⟩
    · rw [em1] at a
      exact absurd e16 a
    · omega
    · exact absurd ph (ha.mp a)
    · obtain ⟨⟨v, e, ne⟩, _⟩ := fin q
      cases e
      exact absurd b ne
    · obtain ⟨_, f2, f3⟩ := fin q
      subst e
      rw [hw]
      exact FIN_RES ⟨ok1, f2, f3⟩ (Int.le_refl _) (by omega) (Nat.le_refl _) (by omega)
    · obtain ⟨⟨v, e, ne⟩, _⟩ := fin q
      cases e
  · have e16 : u16.toInt = N := by rw [ev, ey, l32 (by omega) (by omega)]; exact vN
    have l2 : LI N k (tc σ) 0 τ := l.ko (c := c) h.1 gf F K (fun o k ho h1 h2 => old o k ho (by omega)) m
    rcases p with ⟨_, _, σ4, e4, _, _, σ8, e8, _, _, σ12, e12, _, _, p⟩ | ⟨a, _⟩
    · obtain ⟨D3, l3', s1, same⟩ := add_ord hD l2 N60 new (by omega) (by omega) hA.2.1 (m_sum hA.1 ⟨hA.2.1.1, by have := hA.2.1.2; omega⟩ hA.2.2) e4 e8 e12
      have t12 : tc σ12 = tc τ := congrArg Int32.toInt (same 2 0 5 (by decide))
      have hg : ∀ t : Nat, tc σ ≤ t → (t : Int) < tc σ12 → ti σ12 t 9 = 0 := fun t a b => by
        show (m_i σ12 10 t 9).toInt = 0
        rw [same 10 t 9 (by decide)]
        exact K.2.2.1 t a (by rw [t12] at b; exact b)
      rcases p with ⟨a, _⟩ | ⟨_, ⟨v16, q, p⟩ | ⟨b, q, _⟩⟩
      · rw [e16, i64, s1] at a
        exact absurd rfl a
      · have en : u16.toInt32.toInt = N := by
          rw [Int64.toInt_toInt32, e16]
          exact bmod_id (by omega) (by omega)
        obtain ⟨_, ⟨a, _⟩ | ⟨o, eo, oN, v', e, ev'⟩⟩ := a131 D3.1 q
        · omega
        · cases e
          have eoN : o = N := by omega
          subst eoN
          have f6 : oi σ12 o 6 = oi τ o 6 := congrArg Int32.toInt (same 7 o 6 (by decide))
          have f9 : oi σ12 o 9 = oi τ o 9 := congrArg Int32.toInt (same 7 o 9 (by decide))
          rw [f6, f9] at ev'
          have lb := hD.1.lb o (by omega)
          have ok := (hD.1.2.2.1 o (by omega)).2.2.2.2.2.2.2.2.1
          exact FIN_RES (s184_356 D3 l3' t0 (by rw [t12]; exact kT_tc K) hg (oi τ o 6) (oi τ o 9) ev' ⟨lb.1, l6⟩ l9 (fun a b => ⟨ok (l12 a b), l12 a b⟩) (fun a b => (l3 a (Decidable.of_not_not (fun z => (ha.mpr z) b))).2) p) (Int.le_refl _) (by omega) (by omega) (Nat.le_refl _)
      · have en : u16.toInt32.toInt = N := by
          rw [Int64.toInt_toInt32, e16]
          exact bmod_id (by omega) (by omega)
        obtain ⟨_, ⟨a, _⟩ | ⟨_, _, _, _, e, _⟩⟩ := a131 D3.1 q
        · omega
        · cases e
    · rw [em1, e16] at a
      omega
theorem s184_160 {n : Int} {N c : Nat} {k : Kt} {u6 u7 u8 u9 u10 u11 u12 u13 t0 : Int32} {w : mX} {σ σ' : mS} (h : S n N c k σ) (hc : c ≤ 900000) (l : LI N k (tc σ) 0 σ) (N60 : N < 60) (h6 : mb u6) (h7 : 0 ≤ u7.toInt ∧ u7.toInt ≤ 3) (h8 : sd u8) (h9 : 90 ≤ u9.toInt ∧ u9.toInt ≤ 10000) (hq : 1 ≤ u10.toInt ∧ u10.toInt ≤ 60) (h11 : 0 ≤ u11.toInt ∧ u11.toInt ≤ u10.toInt) (h12 : 0 ≤ u12.toInt ∧ u12.toInt ≤ 3) (ha : u7.toInt < 3 → (u13.toInt ≠ 0 ↔ pv σ u7.toNatClampNeg 1 ≠ 0)) (ht : t0.toInt ≠ 0 ↔ u9.toInt < 10000) (p : J184_160 u6 u7 u8 u9 u10 u11 u12 u13 t0 σ w σ') : RES n N c k w σ' := by
  rcases p with ⟨v1, p1, v5, σ6, gf, hl, p172, p⟩ | ⟨b, p1, _⟩
  · obtain ⟨_, v, e, f⟩ := a182 h.1 p1
    cases e
    obtain ⟨y, p126, _, _, ev⟩ := d172_2 i_2 p172
    have no : ∀ {b : Nat}, σ6 = σ → y = .inr b → ∀ t : Int64, (hv b).toInt = t.toInt → J184_219 t v5 σ6 w σ' → RES n N c k w σ' := by
      intro b e ey t et q
      subst e
      have e5 : v5.toInt = t.toInt := by rw [ev, ey]; exact et
      rcases q with ⟨a, _⟩ | ⟨_, hw, e⟩
      · exact absurd e5 a
      · subst e
        rw [hw]
        exact RES_S h l ok1
    have n251 : σ6 = σ → y = .inr 2 → J184_251 v5 σ6 w σ' → RES n N c k w σ' := by
      intro e ey q
      exact no e ey (Int64.ofInt (-1000000000)) (by rw [litC]; exact hv2) q
    rcases a126 h hc p126 with ⟨a, ey, e⟩ | ⟨⟨_, k7⟩, ⟨a, ey, e⟩ | ⟨B, ⟨nc, ey, e⟩ | ⟨hC, R⟩⟩⟩
    · have e3 : u7.toInt = 3 := by
        by_cases z : u7.toInt < 3
        · exact absurd ⟨h6, h7.1, z⟩ a
        · omega
      rcases p with ⟨_, ⟨z, _⟩ | ⟨_, q⟩⟩ | ⟨z, _⟩
      · exact absurd e3 z
      · exact no e ey _ (by rw [litA]; exact hv0) q
      · exact absurd e3 z
    · have e9 : ¬ u9.toInt < 10000 := fun z => a ⟨h8, ⟨by omega, by omega⟩, ⟨hq.1, by omega⟩, h11, h12⟩
      have tz : t0.toInt = 0 := Decidable.of_not_not (fun z => e9 (ht.mp z))
      have n3 : u7.toInt ≠ 3 := by have := k7.2; omega
      rcases p with ⟨z, _⟩ | ⟨_, ⟨z, _⟩ | ⟨_, ⟨_, q⟩ | ⟨z, _⟩⟩⟩
      · exact absurd z n3
      · exact absurd tz z
      · exact no e ey _ (by rw [litB]; exact hv1) q
      · exact absurd n3 z
    · have t1 : t0.toInt ≠ 0 := ht.mpr (by have := B.2.1.2; omega)
      have n3 : u7.toInt ≠ 3 := by have := k7.2; omega
      have ha := ha k7.2
      rcases p with ⟨z, _⟩ | ⟨_, ⟨_, p⟩ | ⟨z, _⟩⟩
      · exact absurd z n3
      · rcases p with ⟨_, q⟩ | ⟨vz, p⟩
        · exact n251 e ey q
        · have nf : nfl σ u6 := by
            rcases f with ⟨_, f⟩ | ⟨f, _⟩
            · exact f h6
            · exact absurd f vz
          have kk : ¬ (u12.toInt = 0 ∨ u12.toInt = 3 ∨ pv σ u7.toNatClampNeg 1 = 0) := fun z => nc ⟨nf, by omega, z⟩
          rcases p with ⟨z, _⟩ | ⟨z, ⟨z1, q⟩ | ⟨z1, ⟨z2, _⟩ | ⟨z2, q⟩⟩⟩
          · exact absurd (Or.inr (Or.inr (Decidable.of_not_not (fun y => (ha.mpr y) z)))) kk
          · exact n251 e ey q
          · exfalso
            have : u12.toInt ≠ 0 ∧ u12.toInt ≠ 3 := ⟨fun z => kk (Or.inl z), fun z => kk (Or.inr (Or.inl z))⟩
            omega
          · exact n251 e ey q
      · exact absurd t1 z
    · have t1 : t0.toInt ≠ 0 := ht.mpr (by have := B.2.1.2; omega)
      have n3 : u7.toInt ≠ 3 := by have := k7.2; omega
      have ha := ha k7.2
      have go : J184_266 u6 u7 u8 u9 u10 u12 u13 v5 σ6 w σ' → RES n N c k w σ' := fun q => s184_266 h l N60 gf ⟨h6, k7, h8⟩ hq ha R ev q
      rcases p with ⟨z, _⟩ | ⟨_, ⟨_, p⟩ | ⟨z, _⟩⟩
      · exact absurd z n3
      · rcases p with ⟨z, _⟩ | ⟨_, ⟨_, q⟩ | ⟨z, ⟨z1, _⟩ | ⟨_, ⟨_, q⟩ | ⟨z2, _⟩⟩⟩⟩
        · rcases f with ⟨f, _⟩ | ⟨_, _, f⟩
          · exact absurd f z
          · exact absurd hC.1 f
        · exact go q
        · have := hC.2.2
          have pz : pv σ u7.toNatClampNeg 1 ≠ 0 := ha.mp z
          omega
        · exact go q
        · have := hC.2.2
          have pz : pv σ u7.toNatClampNeg 1 ≠ 0 := ha.mp z
          have : u12.toInt = 2 := Decidable.of_not_not z2
          omega
      · exact absurd t1 z
  · obtain ⟨_, v, e, _⟩ := a182 h.1 p1
    cases e
theorem s184_109 {n : Int} {N c : Nat} {k : Kt} {u6 u7 u8 u9 u10 u11 u12 : Int32} {w : mX} {σ σ' : mS} (h : S n N c k σ) (hc : c ≤ 900000) (l : LI N k (tc σ) 0 σ) (h6 : mb u6) (h7 : 0 ≤ u7.toInt ∧ u7.toInt ≤ 3) (h8 : sd u8) (h9 : 90 ≤ u9.toInt ∧ u9.toInt ≤ 10000) (hq : 1 ≤ u10.toInt ∧ u10.toInt ≤ 60) (h11 : 0 ≤ u11.toInt ∧ u11.toInt ≤ u10.toInt) (h12 : 0 ≤ u12.toInt ∧ u12.toInt ≤ 3) (p : J184_109 u6 u7 u8 u9 u10 u11 u12 σ w σ') : RES n N c k w σ' := by
  have z0 := i_0
  have z1 := i_1
  obtain ⟨_, p⟩ := p
  rw [n_0] at p
  rcases p with ⟨c60, p⟩ | ⟨_, hw, e⟩
  · have N60 : N < 60 := by have := l.n0; omega
    have go : ∀ u13 : Int32, (u7.toInt < 3 → (u13.toInt ≠ 0 ↔ pv σ u7.toNatClampNeg 1 ≠ 0)) → J184_145 u6 u7 u8 u9 u10 u11 u12 u13 σ w σ' → RES n N c k w σ' := by
      intro u13 ha q
      rcases q with ⟨a, q⟩ | ⟨a, q⟩
      · exact s184_160 h hc l N60 h6 h7 h8 h9 hq h11 h12 ha ⟨fun z => absurd z0 z, fun z => absurd a (by omega)⟩ q
      · exact s184_160 h hc l N60 h6 h7 h8 h9 hq h11 h12 ha ⟨fun _ => by omega, fun _ => by rw [z1]; decide⟩ q
    rcases p with ⟨a, q⟩ | ⟨a, ⟨v4, q4, p⟩ | ⟨b, q4, _⟩⟩
    · exact go _ (fun z => absurd a (by omega)) q
    · obtain ⟨_, ⟨b, _⟩ | ⟨kk, v, e, ev⟩⟩ := a140 h.1 q4
      · exact absurd ⟨h7.1, by omega⟩ b
      · cases e
        have po := (h.1.po u7.toNatClampNeg (by have := i_nat h7.1; have := kk.2; omega))
        have md : (v4 - v4 / Int32.ofInt 10 * Int32.ofInt 10).toInt = pv σ u7.toNatClampNeg 1 := by
          rw [md32 (by omega) (by rw [i_10]; decide), i_10, ev]
          omega
        rw [md] at p
        rcases p with ⟨b, q⟩ | ⟨b, q⟩
        · exact go _ (fun _ => ⟨fun z => absurd z0 z, fun z => by omega⟩) q
        · exact go _ (fun _ => ⟨fun _ => by omega, fun _ => by rw [z1]; decide⟩) q
    · obtain ⟨_, ⟨b, _⟩ | ⟨kk, v, e, ev⟩⟩ := a140 h.1 q4
      · exact absurd ⟨h7.1, by omega⟩ b
      · cases e
  · subst e
    rw [hw]
    exact RES_S h l ok1
theorem a184 {n : Int} {N c : Nat} {k : Kt} {x5 x6 : Int32} {w : mX} {σ σ' : mS} (h : S n N c k σ) (hc : c ≤ 900000) (l : LI N k (tc σ) 0 σ) (b5 : 0 ≤ x5.toInt ∧ x5.toInt < 60000) (b6 : 0 ≤ x6.toInt ∧ x6.toInt < 70000) (p : P184 σ x5 x6 w σ') : RES n N c k w σ' := by
  obtain ⟨n2, e2, n6, e6, n10, e10, hh⟩ := p
  have v2 : n2.toInt = x5.toInt % 5 := by rw [e2, md32 b5.1 (by rw [i_5]; decide), i_5]
  have d5 : (x5 / Int32.ofInt 5).toInt = x5.toInt / 5 := by rw [dv32 b5.1 (by rw [i_5]; decide), i_5]
  have d20 : (x5 / Int32.ofInt 20).toInt = x5.toInt / 20 := by rw [dv32 b5.1 (by rw [i_20]; decide), i_20]
  have v6 : n6.toInt = x5.toInt / 5 % 4 := by rw [e6, md32 (by rw [d5]; omega) (by rw [i_4]; decide), i_4, d5]
  have v10 : n10.toInt = x5.toInt / 20 % 2 := by rw [e10, md32 (by rw [d20]; omega) (by rw [i_2]; decide), i_2, d20]
  have q20 : (x6 - x6 / Int32.ofInt 20 * Int32.ofInt 20).toInt = x6.toInt % 20 := by rw [md32 b6.1 (by rw [i_20]; decide), i_20]
  have d40 : (x5 / Int32.ofInt 40).toInt = x5.toInt / 40 := by rw [dv32 b5.1 (by rw [i_40]; decide), i_40]
  have d120 : (x5 / Int32.ofInt 120).toInt = x5.toInt / 120 := by rw [dv32 b5.1 (by rw [i_120]; decide), i_120]
  have d50 : (x6 / Int32.ofInt 50).toInt = x6.toInt / 50 := by rw [dv32 b6.1 (by rw [i_50]; decide), i_50]
  have m7 : (x5 / Int32.ofInt 120 - x5 / Int32.ofInt 120 / Int32.ofInt 7 * Int32.ofInt 7).toInt = x5.toInt / 120 % 7 := by rw [md32 (by rw [d120]; omega) (by rw [i_7]; decide), i_7, d120]
  have m60 : (x6 / Int32.ofInt 50 - x6 / Int32.ofInt 50 / Int32.ofInt 60 * Int32.ofInt 60).toInt = x6.toInt / 50 % 60 := by rw [md32 (by rw [d50]; omega) (by rw [i_60]; decide), i_60, d50]
  have h6 : mb n2 := ⟨by omega, by omega⟩
  have h7 : 0 ≤ n6.toInt ∧ n6.toInt ≤ 3 := by omega
  have h8 : sd n10 := ⟨by omega, by omega⟩
  have s83 : ∀ (t pr sh : Int32), (90 ≤ pr.toInt ∧ pr.toInt ≤ 10000) → (1 ≤ t.toInt ∧ t.toInt ≤ 60) → (0 ≤ sh.toInt ∧ sh.toInt ≤ t.toInt) → J184_83 x5 n2 n6 n10 pr t sh σ w σ' → RES n N c k w σ' := by
    intro t pr sh hp ht hs q
    rcases q with ⟨a, q⟩ | ⟨a, q⟩
    · exact s184_109 h hc l h6 h7 h8 hp ht hs (by rw [m7]; rw [m7] at a; omega) q
    · exact s184_109 h hc l h6 h7 h8 hp ht hs (by rw [i_0]; omega) q
  have s45 : ∀ pr : Int32, (90 ≤ pr.toInt ∧ pr.toInt ≤ 10000) → J184_45 x5 x6 n2 n6 n10 pr σ w σ' → RES n N c k w σ' := by
    intro pr hp q
    obtain ⟨n3, e3, q⟩ := q
    have v3 : n3.toInt = 1 + x6.toInt / 50 % 60 := by rw [e3, i_add (by rw [m60, i_1]; omega) (by rw [m60, i_1]; omega), m60, i_1]
    have v31 : (n3 + Int32.ofInt 1).toInt = n3.toInt + 1 := i_inc (by omega) (by omega)
    have hm := Int.emod_nonneg (x5.toInt / 40) (show n3.toInt + 1 ≠ 0 by omega)
    have hm2 := Int.emod_lt_of_pos (x5.toInt / 40) (show 0 < n3.toInt + 1 by omega)
    rcases q with ⟨_, q⟩ | ⟨_, q⟩
    · exact s83 n3 pr _ hp (by omega) (by rw [md32 (by rw [d40]; omega) (by rw [v31]; omega), v31, d40]; omega) q
    · exact s83 n3 pr _ hp (by omega) (by rw [i_0]; omega) q
  rcases hh with ⟨_, q⟩ | ⟨_, q⟩
  · exact s45 _ (by rw [i_add (by rw [q20, i_90]; omega) (by rw [q20, i_90]; omega), q20, i_90]; omega) q
  · exact s45 _ (by have : (Int32.ofInt 10000).toInt = 10000 := by decide
                    omega) q
