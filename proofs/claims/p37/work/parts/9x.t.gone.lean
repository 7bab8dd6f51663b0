/-! the law: orders cancelled and tied -/
theorem hw0 : (hw 0).toInt = -3 := by decide
theorem hw1 : (hw 1).toInt = -2 := by decide
theorem hw2 : (hw 2).toInt = -1 := by decide
theorem LI.md {n : Int} {N : Nat} {k : Kt} {T : Int} {d : Int64} {σ : mS} {x : Int32} (l : LI N k T d σ) (h : HI n N σ) (hx : 0 ≤ x.toInt ∧ x.toInt < N) : (m_i σ 13 15 x.toNatClampNeg - m_i σ 13 15 x.toNatClampNeg / Int32.ofInt 10 * Int32.ofInt 10).toInt = oi σ x.toNatClampNeg 1 := by
  have n1 := i_nat hx.1
  have lo := (l.ord x.toNatClampNeg (by omega)).2
  obtain ⟨o1, o2, o3, _⟩ := h.2.2.1 x.toNatClampNeg (by omega)
  rw [md32 (by omega) (by rw [i_10]; decide), i_10, lo]
  omega
/-- a tie that cannot be -/
theorem t128 {n : Int} {N a b : Nat} {x1 x2 : Int32} {w : mX} {σ σ' : mS} (h : HI n N σ) (e1 : x1.toInt = a) (e2 : x2.toInt = b) (ha : a < N) (hb : b < N) (hab : a ≠ b) (hm : oi σ a 1 = oi σ b 1) (ht : m_r σ 7 a 12 ≠ none) (p : P128 σ x1 x2 w σ') : w = .inr 2 ∧ σ' = σ := by
  have z0 := i_0
  have z1 := i_1
  have n1 : x1.toNatClampNeg = a := by have := i_nat (a := x1) (by omega); omega
  have n2 : x2.toNatClampNeg = b := by have := i_nat (a := x2) (by omega); omega
  obtain ⟨v1, p1, v5, p5, hh⟩ := p
  rcases p3 h.2.1 p1 with ⟨_, q⟩ | ⟨_, _, q1⟩
  · omega
  rw [q1] at hh
  rcases hh with ⟨z, _⟩ | ⟨q10, e10, hh⟩
  · cases z
  cases e10
  rcases p3 h.2.1 p5 with ⟨_, q⟩ | ⟨_, _, q2⟩
  · omega
  rw [q2] at hh
  rcases hh with ⟨z, _⟩ | ⟨q14, e14, hh⟩
  · cases z
  cases e14
  rcases hh with ⟨e, _⟩ | ⟨ne, i18, e18, i20, e20, ⟨mne, _⟩ | ⟨_, hg⟩⟩
  · omega
  · cases e18; cases e20
    rw [n1, n2] at mne
    exact absurd hm mne
  · cases e18; cases e20
    have no : ∀ {y : Int32}, J128_88 x1 x2 σ w σ' → (w = .inr 2 ∧ σ' = σ) := by
      intro _ hg
      rcases c2 hg with ⟨t, _⟩ | ⟨_, y⟩
      · exact absurd z0 t
      · exact y
    rcases c1 hg with ⟨_, i5, ei5, v7, p7, hg⟩ | ⟨t, _⟩
    · cases ei5
      rcases hg with ⟨_, hg⟩ | ⟨c7, _⟩
      · exact no (y := v7) hg
      · rw [n1] at p7
        exact absurd (p101 p7 c7).2 ht
    · rw [z1] at t; cases t
theorem s186_tie {n : Int} {N c : Nat} {k : Kt} {u6 u7 u8 v6 : Int32} {w : mX} {σ σ7 σ' : mS} (h : S n N c k σ) (hc : c ≤ 900000) (l : LI N k (tc σ) 0 σ) (gf : gF σ σ7) (p173 : P173 σ (Int32.ofInt 0) u6 u8 (.inl (some (.inl v6))) σ7) (b6 : 0 ≤ u6.toInt ∧ u6.toInt ≤ N) (b8 : 0 ≤ u8.toInt ∧ u8.toInt ≤ N) (hw7 : u6.toInt < N → u7.toInt = 10 * oi σ u6.toNatClampNeg 6 + oi σ u6.toNatClampNeg 9)
    (p : ((u6).toInt = (m_i σ7 13 (17) (Int32.ofInt 0).toNatClampNeg).toInt ∧ J186_220 (v6) σ7 w σ') ∨ (¬ ((u6).toInt = (m_i σ7 13 (17) (Int32.ofInt 0).toNatClampNeg).toInt) ∧ (0 ≤ (0 : Int) ∧ (0 : Int) < (σ7.2.1 13 (17) : Int)) ∧ (((u8).toInt ≠ (m_i σ7 13 (17) (Int32.ofInt 0).toNatClampNeg).toInt ∧ (((u6).toInt = (u8).toInt ∧ J186_261 (u6) (u7) (u8) (v6) σ7 w σ') ∨ (¬ ((u6).toInt = (u8).toInt) ∧ (0 ≤ (u6).toInt ∧ (u6).toInt < (σ7.2.1 13 (15) : Int)) ∧ (0 ≤ (u8).toInt ∧ (u8).toInt < (σ7.2.1 13 (15) : Int)) ∧ ((((m_i σ7 13 (15) (u6).toNatClampNeg) - (m_i σ7 13 (15) (u6).toNatClampNeg) / (Int32.ofInt 10) * (Int32.ofInt 10)).toInt ≠ ((m_i σ7 13 (15) (u8).toNatClampNeg) - (m_i σ7 13 (15) (u8).toNatClampNeg) / (Int32.ofInt 10) * (Int32.ofInt 10)).toInt ∧ J186_261 (u6) (u7) (u8) (v6) σ7 w σ') ∨ (¬ (((m_i σ7 13 (15) (u6).toNatClampNeg) - (m_i σ7 13 (15) (u6).toNatClampNeg) / (Int32.ofInt 10) * (Int32.ofInt 10)).toInt ≠ ((m_i σ7 13 (15) (u8).toNatClampNeg) - (m_i σ7 13 (15) (u8).toNatClampNeg) / (Int32.ofInt 10) * (Int32.ofInt 10)).toInt) ∧ J186_262 (u6) (u7) (u8) (v6) (Int32.ofInt 1) σ7 w σ'))))) ∨ (¬ ((u8).toInt ≠ (m_i σ7 13 (17) (Int32.ofInt 0).toNatClampNeg).toInt) ∧ J186_220 (v6) σ7 w σ')))) : RES n N c k w σ' := by
  have z0 := i_0
  have z1 := i_1
  have e17 : m_i σ7 13 17 0 = m_i σ 13 17 0 := gf.i (by omega) 0
  have n0 := l.n0
  rw [n_0, e17, n0] at p
  have e15 : ∀ j, m_i σ7 13 15 j = m_i σ 13 15 j := fun j => gf.i (by omega) j
  rw [e15, e15] at p
  obtain ⟨y, p174, _, _, ev⟩ := d173_0 z0 p173
  -- what the tie came to
  have cls : ∀ b, y = .inr b → v6 = hw b := fun b e => by rw [ev, e]; rfl
  have O : (¬ (u6.toInt < N ∧ u8.toInt < N) ∧ v6.toInt = -3 ∧ σ7 = σ) ∨ ∃ a b : Nat, u6.toInt = a ∧ u8.toInt = b ∧ a < N ∧ b < N ∧ (((a = b ∨ oi σ a 1 ≠ oi σ b 1) ∧ v6.toInt = -2 ∧ σ7 = σ) ∨ ((a ≠ b ∧ oi σ a 1 = oi σ b 1) ∧ ((v6.toInt = -1 ∧ σ7 = σ) ∨ (v6.toInt = 0 ∧ (oi σ a 9 ≠ 0 ∧ oi σ b 9 ≠ 0) ∧ D n N c k σ7 ∧ (∀ o k, k < 12 → m_i σ7 7 o k = m_i σ 7 o k) ∧ m_r σ7 7 b 12 ≠ none ∧ fw_e (wl ([(7, 12), (8, 7)] ++ LD)) σ σ7)))) := by
    rcases p174 with ⟨σ2, _, p128, ey, rfl⟩ | ⟨b, _, p128, ey⟩
    · rcases a128 h hc p128 with ⟨_, z, _⟩ | ⟨a, b, ea, eb, ha, hb, ⟨_, z, _⟩ | ⟨q, ⟨z, _⟩ | ⟨⟨s1, _, s3, _⟩, _, hD, same, _, r2, F⟩⟩⟩
      · cases z
      · cases z
      · cases z
      · exact Or.inr ⟨a, b, ea, eb, ha, hb, Or.inr ⟨q, Or.inr ⟨by rw [ev, ey]; exact z0, ⟨s1, s3⟩, hD, same, r2, F⟩⟩⟩
    · rcases a128 h hc p128 with ⟨q, z, e⟩ | ⟨a, b', ea, eb, ha, hb, ⟨q, z, e⟩ | ⟨q, ⟨z, e⟩ | ⟨_, z, _⟩⟩⟩
      · cases z
        exact Or.inl ⟨fun z => q ⟨⟨b6.1, z.1⟩, b8.1, z.2⟩, by rw [cls _ ey]; exact hw0, e⟩
      · cases z
        exact Or.inr ⟨a, b', ea, eb, ha, hb, Or.inl ⟨q, by rw [cls _ ey]; exact hw1, e⟩⟩
      · cases z
        exact Or.inr ⟨a, b', ea, eb, ha, hb, Or.inr ⟨q, Or.inl ⟨by rw [cls _ ey]; exact hw2, e⟩⟩⟩
      · cases z
  have r220 : v6.toInt = -3 → σ7 = σ → J186_220 v6 σ7 w σ' → RES n N c k w σ' := by
    intro e e2 q
    subst e2
    rcases q with ⟨a, _⟩ | ⟨_, hw, e3⟩
    · exact absurd e a
    · subst e3
      rw [hw]
      exact RES_S h l ok1
  have r262 : v6.toInt = -2 → σ7 = σ → J186_261 u6 u7 u8 v6 σ7 w σ' → RES n N c k w σ' := by
    intro e e2 q
    subst e2
    rcases q with ⟨a, _⟩ | ⟨_, ⟨a, _⟩ | ⟨_, hw, e3⟩⟩
    · exact absurd z0 a
    · exact absurd e a
    · subst e3
      rw [hw]
      exact RES_S h l ok1
  rcases O with ⟨nb, e, e2⟩ | ⟨a, b, ea, eb, ha, hb, O⟩
  · rcases p with ⟨_, q⟩ | ⟨c1, _, ⟨c2, _⟩ | ⟨_, q⟩⟩
    · exact r220 e e2 q
    · exact absurd ⟨by omega, by omega⟩ nb
    · exact r220 e e2 q
  · have na : u6.toNatClampNeg = a := by have := i_nat (a := u6) (by omega); omega
    have nb : u8.toNatClampNeg = b := by have := i_nat (a := u8) (by omega); omega
    have ma := l.md h.1 (x := u6) (by omega)
    have mb' := l.md h.1 (x := u8) (by omega)
    rw [ma, mb', na, nb] at p
    rcases p with ⟨c1, _⟩ | ⟨_, _, ⟨_, p⟩ | ⟨c2, _⟩⟩
    · omega
    · rcases p with ⟨c3, q⟩ | ⟨c3, _, _, ⟨c4, q⟩ | ⟨c4, q⟩⟩
      · rcases O with ⟨_, e, e2⟩ | ⟨⟨q1, _⟩, _⟩
        · exact r262 e e2 q
        · omega
      · rcases O with ⟨_, e, e2⟩ | ⟨⟨_, q1⟩, _⟩
        · exact r262 e e2 q
        · exact absurd q1 c4
      · rcases O with ⟨q1, e, e2⟩ | ⟨q1, O⟩
        · rcases q1 with q1 | q1
          · omega
          · exact absurd q1 c4
        · rcases O with ⟨e, e2⟩ | ⟨e, ⟨s1, s2⟩, hD, same, r12, F⟩
          · subst e2
            rcases q with ⟨_, ⟨_, hw, e3⟩ | ⟨x, _⟩⟩ | ⟨x, _⟩
            · subst e3
              rw [hw]
              exact RES_S h l ok1
            · exact absurd e x
            · rw [z1] at x
              exact absurd (by decide) x
          · have f7 : ∀ o k, k < 12 → oi σ7 o k = oi σ o k := fun o k hk => congrArg Int32.toInt (same o k hk)
            have tcs : tc σ7 = tc σ := congrArg Int32.toInt (F.2 2 0 5 rfl).1
            have l2 : LI N k (tc σ7) 0 σ7 := by
              rw [tcs]
              exact l.keep gf (fun o k _ _ h2 => same o k (by omega)) (fun o _ => by rw [f7 o 6 (by omega)]; exact Int.le_refl _) (fun i _ => ⟨(F.2 8 i 5 rfl).1, (F.2 8 i 6 rfl).1⟩) (by rw [nF_of (fun i => (F.2 6 i 9 rfl).1)]; exact Int.le_refl _) (by rw [sm_fw F rfl]; exact l.mon) (fun j => ps_fw F rfl) (F.2 2 0 6 rfl).1 h.1.2.2.1 (fun o _ => Or.inl (f7 o 9 (by omega)))
            have s9a := (h.1.2.2.1 a ha).2.2.2.2.2.2.2.1
            have lba := h.1.lb a ha
            have s9b := (h.1.2.2.1 b hb).2.2.2.2.2.2.2.1
            have lbb := h.1.lb b hb
            have u7v := hw7 (by omega)
            rw [na] at u7v
            have m7 : (u7 - u7 / Int32.ofInt 10 * Int32.ofInt 10).toInt = oi σ a 9 := by
              rw [md32 (by omega) (by rw [i_10]; decide), i_10, u7v]
              omega
            rcases q with ⟨_, ⟨x, _⟩ | ⟨_, ⟨x, _⟩ | ⟨_, ⟨x, _⟩ | ⟨_, ⟨v6', q6, ⟨x, _⟩ | ⟨_, v12, σ13, gf3, _, p173', q⟩⟩ | ⟨b', q6, _⟩⟩⟩⟩⟩ | ⟨x, _⟩
            · omega
            · exact absurd e x
            · rw [m7] at x
              omega
            · obtain ⟨_, ⟨y, _⟩ | ⟨o, eo, _, v', ee, ev'⟩⟩ := a131 hD.1 q6
              · omega
              · cases ee
                have eo : o = b := by omega
                subst eo
                rw [f7 o 6 (by omega), f7 o 9 (by omega)] at ev'
                rw [md32 (by omega) (by rw [i_10]; decide), i_10, ev'] at x
                omega
            · obtain ⟨y3, p174', _, _, ev3⟩ := d173_0 z0 p173'
              have tt : y3 = .inr 2 ∧ σ13 = σ7 := by
                have hm7 : oi σ7 b 1 = oi σ7 a 1 := by rw [f7 b 1 (by omega), f7 a 1 (by omega)]; exact q1.2.symm
                rcases p174' with ⟨σ2, _, p128, ey, rfl⟩ | ⟨bb, _, p128, ey⟩
                · have := (t128 hD.1 eb ea hb ha (fun z => q1.1 z.symm) hm7 r12 p128).1
                  cases this
                · obtain ⟨e3, e4⟩ := t128 hD.1 eb ea hb ha (fun z => q1.1 z.symm) hm7 r12 p128
                  cases e3
                  exact ⟨ey, e4⟩
              obtain ⟨e3, e4⟩ := tt
              subst e4
              have v12v : v12.toInt = -1 := by rw [ev3, e3]; exact hw2
              rcases q with ⟨x, _⟩ | ⟨_, hw, e5⟩
              · exact absurd v12v x
              · subst e5
                rw [hw]
                exact FIN_RES ⟨ok1, hD, l2⟩ (Int.le_refl _) (by omega) (Nat.le_refl _) (by omega)
            · obtain ⟨_, ⟨y, _⟩ | ⟨_, _, _, _, ee, _⟩⟩ := a131 hD.1 q6
              · omega
              · cases ee
            · rw [z1] at x
              exact absurd (by decide) x
    · omega
theorem s186_53 {n : Int} {N c : Nat} {k : Kt} {u6 u7 t0 : Int32} {w : mX} {σ σ' : mS} (h : S n N c k σ) (hn : n + 11 ≤ 300) (hc : c ≤ 900000) (l : LI N k (tc σ) 0 σ) (b6 : 0 ≤ u6.toInt ∧ u6.toInt ≤ N) (hw7 : u6.toInt < N → u7.toInt = 10 * oi σ u6.toNatClampNeg 6 + oi σ u6.toNatClampNeg 9) (ht : mb t0) (ht' : u6.toInt < N → t0.toInt = oi σ u6.toNatClampNeg 1) (p : J186_53 u6 u7 t0 σ w σ') : RES n N c k w σ' := by
  have z0 := i_0
  have nt := i_nat ht.1
  have ok149 : ∀ {n' : Int} {τ : mS} {b : Nat}, HI n' N τ → P149 τ t0 (.inr b) τ → False := by
    intro n' τ b hI q
    obtain ⟨_, ⟨a, _⟩ | ⟨_, v, e, _⟩⟩ := a149 hI q
    · exact a ht
    · cases e
  rcases p with ⟨v1, q1, v5, σ6, gf, hl, p172, p⟩ | ⟨b, q1, _⟩
  · obtain ⟨_, ⟨a, _⟩ | ⟨_, v, e, ev1, bv1⟩⟩ := a149 h.1 q1
    · exact absurd ht a
    cases e
    obtain ⟨y, p129, _, _, ev⟩ := d172_4 i_4 p172
    have sM0 : ∀ τ m, 0 ≤ sM τ m ∧ sM τ m ≤ 3 := fun τ m => by unfold sM; split <;> split <;> omega
    have e17 : m_i σ6 13 17 0 = m_i σ 13 17 0 := gf.i (by omega) 0
    rw [n_0, e17, l.n0] at p
    rcases a129 h hn hc p129 with ⟨a, ey, e⟩ | ⟨a, ea, aN, ⟨s9, ey, e⟩ | ⟨s9, v, ey, hD, m, o9, vv, eO', ⟨bb, six⟩, F⟩⟩
    · -- no such order
      subst e
      have v5v : v5.toInt = -3000000000 := by rw [ev, ey]; exact hv0
      rcases p with ⟨v9, q9, _, ⟨x, _⟩ | ⟨_, ⟨x, _⟩ | ⟨_, hw, e⟩⟩⟩ | ⟨b, q9, _⟩
      · omega
      · rw [litA] at x
        exact absurd v5v x
      · subst e
        rw [hw]
        exact RES_S h l ok1
      · exact (ok149 h.1 q9).elim
    · -- gone before
      subst e
      have v5v : v5.toInt = -1000000000 := by rw [ev, ey]; exact hv2
      have na : u6.toNatClampNeg = a := by have := i_nat (a := u6) (by omega); omega
      have u7v := hw7 (by omega)
      rw [na, s9] at u7v
      have lb := h.1.lb a aN
      have m7 : (u7 - u7 / Int32.ofInt 10 * Int32.ofInt 10).toInt = 0 := by
        rw [md32 (by omega) (by rw [i_10]; decide), i_10, u7v]
        omega
      rcases p with ⟨v9, q9, _, ⟨_, ⟨x, _⟩ | ⟨_, p⟩⟩ | ⟨x, _⟩⟩ | ⟨b, q9, _⟩
      · exact absurd m7 x
      · obtain ⟨_, ⟨a', _⟩ | ⟨_, v', e', ev9, _⟩⟩ := a149 h.1 q9
        · exact absurd ht a'
        cases e'
        have d : (v9 - v1).toInt = 0 := by rw [i_sub (by omega) (by omega)]; omega
        rcases p with ⟨x, _⟩ | ⟨_, ⟨x, _⟩ | ⟨_, hw, e⟩⟩
        · rw [litC] at x
          exact absurd v5v x
        · exact absurd d x
        · subst e
          rw [hw]
          exact RES_S h l ok1
      · exact absurd (by omega) x
      · exact (ok149 h.1 q9).elim
    · -- done
      have na : u6.toNatClampNeg = a := by have := i_nat (a := u6) (by omega); omega
      have u7v := hw7 (by omega)
      have t0v := ht' (by omega)
      rw [na] at u7v t0v
      have lb := h.1.lb a aN
      have s9' := (h.1.2.2.1 a aN).2.2.2.2.2.2.2.1
      have lb' : 0 ≤ oi σ a 6 ∧ oi σ a 6 ≤ 125000 := lb
      have v5v : v5.toInt = oi σ a 6 := by rw [ev, ey, l32 (by omega) (by omega)]; exact vv
      have m7 : (u7 - u7 / Int32.ofInt 10 * Int32.ofInt 10).toInt = oi σ a 9 := by
        rw [md32 (by omega) (by rw [i_10]; decide), i_10, u7v]
        omega
      have d7 : (u7 / Int32.ofInt 10).toInt = oi σ a 6 := by
        rw [dv32 (by omega) (by rw [i_10]; decide), i_10, u7v]
        omega
      have tcs : tc σ6 = tc σ := congrArg Int32.toInt (F.2 2 0 5 rfl).1
      have l2 : LI N k (tc σ6) 0 σ6 := by
        rw [tcs]
        refine l.keep gf (fun o k _ h1 h2 => (F.2 7 o k ?_).1) (fun o ho => (m o ho).1) (fun i _ => ⟨(F.2 8 i 5 rfl).1, (F.2 8 i 6 rfl).1⟩) (by rw [nF_of (fun i => (F.2 6 i 9 rfl).1)]; exact Int.le_refl _) (by rw [sm_fw F rfl]; exact l.mon) (fun j => ps_fw F rfl) (F.2 2 0 6 rfl).1 h.1.2.2.1 (fun o ho => by rcases (m o ho).2 with z | z | z; exact Or.inl z; exact Or.inr (Or.inl z); exact Or.inr (Or.inr z.2))
        have : k = 1 ∨ k = 2 ∨ k = 3 ∨ k = 4 := by omega
        rcases this with rfl | rfl | rfl | rfl <;> rfl
      have sMs : sM σ6 (t0.toNatClampNeg + 1) = sM σ (t0.toNatClampNeg + 1) := by
        have g : ∀ k, fwh (wl ((8, 7) :: (L71 ++ LD))) 6 k = true → mi6 σ6 (t0.toNatClampNeg + 1) k = mi6 σ (t0.toNatClampNeg + 1) k := fun k hk => congrArg Int32.toInt (F.2 6 _ k hk).1
        unfold sM
        rw [g 9 rfl, g 7 rfl, g 10 rfl]
      have m1 : (m_i σ 7 a 1).toNatClampNeg = t0.toNatClampNeg := by
        have : (m_i σ 7 a 1).toInt = t0.toInt := t0v.symm
        have := i_nat (a := m_i σ 7 a 1) (by omega)
        omega
      have fin : OKw w → σ' = σ6 → RES n N c k w σ' := fun o e => by
        subst e
        exact FIN_RES ⟨o, hD, l2⟩ (by omega) (by omega) (Nat.le_refl _) (by omega)
      rcases p with ⟨v9, q9, _, ⟨_, ⟨_, p⟩ | ⟨x, _⟩⟩ | ⟨x, _⟩⟩ | ⟨b, q9, _⟩
      · obtain ⟨_, ⟨a', _⟩ | ⟨_, v', e', ev9, bv9⟩⟩ := a149 hD.1 q9
        · exact absurd ht a'
        cases e'
        have cb := h.1.2.2.2.1.2.2.2.2.2.2.2.2.2.2.2.2.2.2 (t0.toNatClampNeg + 1) (by omega) (by have := ht.2; omega)
        have cb : 0 ≤ (m_i σ 6 (t0.toNatClampNeg + 1) 6).toInt ∧ (m_i σ 6 (t0.toNatClampNeg + 1) 6).toInt ≤ n + 2 * nF σ := cb
        have sp := h.1.sp
        have dd : mi6 σ6 (t0.toNatClampNeg + 1) 6 = mi6 σ (t0.toNatClampNeg + 1) 6 ∨ mi6 σ6 (t0.toNatClampNeg + 1) 6 = mi6 σ (t0.toNatClampNeg + 1) 6 + 1 := by
          show (m_i σ6 6 _ 6).toInt = _ ∨ (m_i σ6 6 _ 6).toInt = _
          rw [six, m1]
          cases bb with
          | false => exact Or.inl (by rw [if_neg (fun z => by cases z.2)])
          | true => exact Or.inr (by rw [if_pos ⟨rfl, rfl⟩]; exact i_inc cb.1 (by omega))
        have s0 := sM0 σ (t0.toNatClampNeg + 1)
        have ev1 : v1.toInt = 10 * (m_i σ 6 (t0.toNatClampNeg + 1) 6).toInt + sM σ (t0.toNatClampNeg + 1) := ev1
        have d : (v9 - v1).toInt = 0 ∨ (v9 - v1).toInt = 10 := by
          rw [sMs] at ev9
          rcases dd with dd | dd
          · left
            rw [i_sub (by omega) (by omega)]
            omega
          · right
            have dd : mi6 σ6 (t0.toNatClampNeg + 1) 6 = (m_i σ 6 (t0.toNatClampNeg + 1) 6).toInt + 1 := dd
            rw [i_sub (by omega) (by omega)]
            omega
        rcases p with ⟨x, _⟩ | ⟨_, ⟨v19, q19, p⟩ | ⟨b, q19, _⟩⟩
        · rw [i64, d7] at x
          exact absurd v5v x
        · obtain ⟨_, ⟨y, _⟩ | ⟨o, eo, oN, v', ee, ev'⟩⟩ := a131 hD.1 q19
          · omega
          · cases ee
            have eo : o = a := by omega
            subst eo
            have o6 : oi σ6 o 6 = 0 := (hD.1.2.2.1 o oN).2.2.2.2.2.2.2.2.1 o9
            rcases p with ⟨x, _⟩ | ⟨_, ⟨_, hw, e⟩ | ⟨x, ⟨x2, _⟩ | ⟨_, hw, e⟩⟩⟩
            · rw [o6, o9] at ev'
              exact absurd ev' x
            · rw [hw]
              rw [hw] at fin
              exact fin ok1 e
            · rcases d with d | d
              · exact absurd d x
              · exact absurd d x2
            · rw [hw]
              rw [hw] at fin
              exact fin ok1 e
        · obtain ⟨_, ⟨y, _⟩ | ⟨_, _, _, _, ee, _⟩⟩ := a131 hD.1 q19
          · omega
          · cases ee
      · rw [m7] at x
        exact absurd (Decidable.of_not_not x) s9
      · exact absurd (by omega) x
      · exact (ok149 hD.1 q9).elim
  · exact (ok149 h.1 q1).elim
theorem a186 {n : Int} {N c : Nat} {k : Kt} {x4 x5 x6 : Int32} {w : mX} {σ σ' : mS} (h : S n N c k σ) (hn : n + 11 ≤ 300) (hc : c ≤ 900000) (l : LI N k (tc σ) 0 σ) (b5 : 0 ≤ x5.toInt) (b6 : 0 ≤ x6.toInt) (p : P186 σ x4 x5 x6 w σ') : RES n N c k w σ' := by
  have z0 := i_0
  have n0 := l.n0
  have n60 := l.n60
  obtain ⟨_, n3, e3, _, p⟩ := p
  rw [n_0] at e3 p
  have vN : (m_i σ 13 17 0 + Int32.ofInt 1).toInt = N + 1 := by rw [i_inc (by omega) (by omega), n0]
  have mod : ∀ x : Int32, 0 ≤ x.toInt → 0 ≤ (x - x / (m_i σ 13 17 0 + Int32.ofInt 1) * (m_i σ 13 17 0 + Int32.ofInt 1)).toInt ∧ (x - x / (m_i σ 13 17 0 + Int32.ofInt 1) * (m_i σ 13 17 0 + Int32.ofInt 1)).toInt ≤ N := fun x hx => by
    rw [md32 hx (by rw [vN]; omega), vN]
    have a := Int.emod_nonneg x.toInt (show (N : Int) + 1 ≠ 0 by omega)
    have b := Int.emod_lt_of_pos x.toInt (show 0 < (N : Int) + 1 by omega)
    omega
  have b3 : 0 ≤ n3.toInt ∧ n3.toInt ≤ N := by rw [e3]; exact mod x5 b5
  have nn := i_nat b3.1
  have go : ∀ t0 : Int32, (n3.toInt < N → t0.toInt = 10 * oi σ n3.toNatClampNeg 6 + oi σ n3.toNatClampNeg 9) → J186_28 x4 x6 n3 t0 σ w σ' → RES n N c k w σ' := by
    intro t0 ht q
    rcases q with ⟨_, _, n4, e4, v6, σ7, gf, hl, p173, _, q⟩ | ⟨_, _, q⟩
    · rw [n_0] at e4
      exact s186_tie h hc l gf p173 b3 (by rw [e4]; exact mod x6 b6) ht q
    · rw [n_0] at q
      rcases q with ⟨a, q⟩ | ⟨a, _, q⟩
      · exact s186_53 h hn hc l b3 ht ⟨by omega, by omega⟩ (fun z => by omega) q
      · have m := l.md h.1 (x := n3) (by omega)
        have o1 := (h.1.2.2.1 n3.toNatClampNeg (by omega)).1
        exact s186_53 h hn hc l b3 ht ⟨by rw [m]; exact o1.1, by rw [m]; exact o1.2⟩ (fun _ => m) q
  rcases p with ⟨a, q⟩ | ⟨a, ⟨v7, q7, q⟩ | ⟨b, q7, _⟩⟩
  · exact go _ (fun z => by omega) q
  · obtain ⟨_, ⟨y, _⟩ | ⟨o, eo, oN, v', ee, ev'⟩⟩ := a131 h.1 q7
    · omega
    · cases ee
      have : n3.toNatClampNeg = o := by omega
      exact go _ (fun _ => by rw [this]; exact ev') q
  · obtain ⟨_, ⟨y, _⟩ | ⟨_, _, _, _, ee, _⟩⟩ := a131 h.1 q7
    · omega
    · cases ee
