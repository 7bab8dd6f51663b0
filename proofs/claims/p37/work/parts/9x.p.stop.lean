/-! the law: a stop -/
theorem i_5 : (Int32.ofInt 5).toInt = 5 := by decide
theorem i_20 : (Int32.ofInt 20).toInt = 20 := by decide
theorem i_60 : (Int32.ofInt 60).toInt = 60 := by decide
theorem i_90 : (Int32.ofInt 90).toInt = 90 := by decide
theorem i_100 : (Int32.ofInt 100).toInt = 100 := by decide
theorem i_600 : (Int32.ofInt 600).toInt = 600 := by decide
theorem i_40 : (Int32.ofInt 40).toInt = 40 := by decide
theorem i_50 : (Int32.ofInt 50).toInt = 50 := by decide
theorem i_7 : (Int32.ofInt 7).toInt = 7 := by decide
theorem i_4 : (Int32.ofInt 4).toInt = 4 := by decide
theorem i_11 : (Int32.ofInt 11).toInt = 11 := by decide
theorem i_120 : (Int32.ofInt 120).toInt = 120 := by decide
theorem n_0 : (Int32.ofInt 0).toNatClampNeg = 0 := by decide
theorem n_1 : (Int32.ofInt 1).toNatClampNeg = 1 := by decide
theorem n_3 : (Int32.ofInt 3).toNatClampNeg = 3 := by decide
theorem n_4 : (Int32.ofInt 4).toNatClampNeg = 4 := by decide
/-- a call's pieces that a member, an instrument, a side make -/
theorem m_sum {a b c : Int32} (ha : mb a) (hb : 0 ≤ b.toInt ∧ b.toInt < 4) (hc : sd c) : ((a + Int32.ofInt 10 * b) + Int32.ofInt 100 * c).toInt = a.toInt + 10 * b.toInt + 100 * c.toInt := by
  obtain ⟨a1, a2⟩ := ha
  obtain ⟨c1, c2⟩ := hc
  have m1 : (Int32.ofInt 10 * b).toInt = 10 * b.toInt := by rw [i_mul (by rw [i_10]; omega) (by rw [i_10]; omega), i_10]
  have m2 : (Int32.ofInt 100 * c).toInt = 100 * c.toInt := by rw [i_mul (by rw [i_100]; omega) (by rw [i_100]; omega), i_100]
  have m3 : (a + Int32.ofInt 10 * b).toInt = a.toInt + 10 * b.toInt := by rw [i_add (by rw [m1]; omega) (by rw [m1]; omega), m1]
  rw [i_add (by rw [m3, m2]; omega) (by rw [m3, m2]; omega), m3, m2]
theorem D_hi {n : Int} {N c : Nat} {k : Kt} {σ : mS} (h : D n N c k σ) : HI n N σ := h.1
theorem kT_tc {σ σ' : mS} (h : kT σ σ') : tc σ ≤ tc σ' := h.1
/-- what LR and LD leave -/
theorem lr_9 {σ σ' : mS} (F : fw_e (wl (LR ++ LD)) σ σ') : (∀ i, m_i σ' 6 i 9 = m_i σ 6 i 9) ∧ (∀ i, m_i σ' 8 i 5 = m_i σ 8 i 5 ∧ m_i σ' 8 i 6 = m_i σ 8 i 6) ∧ m_i σ' 2 0 6 = m_i σ 2 0 6 := ⟨fun i => (F.2 6 i 9 rfl).1, fun i => ⟨(F.2 8 i 5 rfl).1, (F.2 8 i 6 rfl).1⟩, (F.2 2 0 6 rfl).1⟩
theorem LI.ko {n : Int} {N c : Nat} {k : Kt} {T : Int} {σ σ' : mS} (h : LI N k T 0 σ) (hI : HI n N σ) (g : gF σ σ') (F : fw_e (wl (LR ++ LD)) σ σ') (K : kT σ σ') (e1 : ∀ o k, o < N → 1 ≤ k → k ≤ 4 → m_i σ' 7 o k = m_i σ 7 o k) (e6 : mO N σ σ') : LI N k T 0 σ' := by
  obtain ⟨f9, f8, f2⟩ := lr_9 F
  exact h.keep g e1 (fun o ho => (e6 o ho).1) (fun i _ => f8 i) (by rw [nF_of f9]; exact Int.le_refl _) (by rw [K.2.2.2.1]; exact h.mon) K.2.2.2.2 f2 hI.2.2.1 (fun o ho => by rcases (e6 o ho).2 with z | z | z; exact Or.inl z; exact Or.inr (Or.inl z); exact Or.inr (Or.inr z.2))
theorem a185 {n : Int} {N c : Nat} {k : Kt} {x5 x6 : Int32} {w : mX} {σ σ' : mS} (h : S n N c k σ) (hc : c ≤ 900000) (l : LI N k (tc σ) 0 σ) (b5 : 0 ≤ x5.toInt ∧ x5.toInt < 60000) (b6 : 0 ≤ x6.toInt ∧ x6.toInt < 70000) (p : P185 σ x5 x6 w σ') : RES n N c k w σ' := by
  have z0 := i_0
  have z1 := i_1
  obtain ⟨n2, e2, n6, e6, n10, e10, _, hh⟩ := p
  rw [n_0] at hh
  have v2 : n2.toInt = x5.toInt % 5 := by rw [e2, md32 b5.1 (by rw [i_5]; decide), i_5]
  have d5 : (x5 / Int32.ofInt 5).toInt = x5.toInt / 5 := by rw [dv32 b5.1 (by rw [i_5]; decide), i_5]
  have d20 : (x5 / Int32.ofInt 20).toInt = x5.toInt / 20 := by rw [dv32 b5.1 (by rw [i_20]; decide), i_20]
  have v6 : n6.toInt = x5.toInt / 5 % 3 := by rw [e6, md32 (by rw [d5]; omega) (by rw [i_3]; decide), i_3, d5]
  have v10 : n10.toInt = x5.toInt / 20 % 2 := by rw [e10, md32 (by rw [d20]; omega) (by rw [i_2]; decide), i_2, d20]
  have g60 := l.n60
  rcases hh with ⟨c60, n15, e15, v21, σ22, gf, hl, p172, hh⟩ | ⟨c60, hw, e⟩
  · have q20 : (x6 - x6 / Int32.ofInt 20 * Int32.ofInt 20).toInt = x6.toInt % 20 := by rw [md32 b6.1 (by rw [i_20]; decide), i_20]
    have v15 : n15.toInt = 90 + x6.toInt % 20 := by
      rw [e15, i_add (by rw [q20, i_90]; omega) (by rw [q20, i_90]; omega), q20, i_90]
    have dx : (x6 / Int32.ofInt 20).toInt = x6.toInt / 20 := by rw [dv32 b6.1 (by rw [i_20]; decide), i_20]
    have dy : (x6 / Int32.ofInt 600).toInt = x6.toInt / 600 := by rw [dv32 b6.1 (by rw [i_600]; decide), i_600]
    have qx : (x6 / Int32.ofInt 20 - x6 / Int32.ofInt 20 / Int32.ofInt 30 * Int32.ofInt 30).toInt = x6.toInt / 20 % 30 := by rw [md32 (by rw [dx]; omega) (by rw [i_30]; decide), i_30, dx]
    have qy : (x6 / Int32.ofInt 600 - x6 / Int32.ofInt 600 / Int32.ofInt 20 * Int32.ofInt 20).toInt = x6.toInt / 600 % 20 := by rw [md32 (by rw [dy]; omega) (by rw [i_20]; decide), i_20, dy]
    obtain ⟨qq, eqq⟩ : ∃ qq, qq = Int32.ofInt 1 + (x6 / Int32.ofInt 20 - x6 / Int32.ofInt 20 / Int32.ofInt 30 * Int32.ofInt 30) := ⟨_, rfl⟩
    obtain ⟨qz, eqz⟩ : ∃ qz, qz = Int32.ofInt 90 + (x6 / Int32.ofInt 600 - x6 / Int32.ofInt 600 / Int32.ofInt 20 * Int32.ofInt 20) := ⟨_, rfl⟩
    have vq : qq.toInt = 1 + x6.toInt / 20 % 30 := by rw [eqq, i_add (by rw [qx, i_1]; omega) (by rw [qx, i_1]; omega), qx, i_1]
    have vz : qz.toInt = 90 + x6.toInt / 600 % 20 := by rw [eqz, i_add (by rw [qy, i_90]; omega) (by rw [qy, i_90]; omega), qy, i_90]
    rw [← eqq, ← eqz] at p172
    rw [← eqq] at hh
    obtain ⟨y, p127, _, _, ev⟩ := d172_3 i_3 p172
    have mb2 : mb n2 := ⟨by omega, by omega⟩
    have ik6 : ik n6 := ⟨by omega, by omega⟩
    have sd10 : sd n10 := ⟨by omega, by omega⟩
    have nn2 := i_nat mb2.1
    have nn6 := i_nat ik6.1
    have bB : B127 n10 n15 qq qz := ⟨sd10, ⟨by omega, by omega⟩, ⟨by omega, by omega⟩, ⟨by omega, by omega⟩⟩
    have N60 : N < 60 := by have := l.n0; omega
    have gm0 : ∀ j, m_i σ22 13 17 j = m_i σ 13 17 j := fun j => gf.i (by omega) j
    rcases a127 h hc p127 with ⟨a, _⟩ | ⟨_, ⟨a, _⟩ | ⟨_, ⟨nc, ey, e⟩ | ⟨hC, v, ey, vN, hD, F, K, old, m, new, l6, l9, tcN⟩⟩⟩
    · exact absurd ⟨mb2, ik6⟩ a
    · exact absurd bB a
    · subst e
      subst ey
      have nf : ¬ nfl σ22 n2 := fun z => nc ⟨z, by omega⟩
      rcases hh with ⟨v25, p25, hh⟩ | ⟨b, p25, _⟩
      · obtain ⟨_, v, e, ⟨_, b⟩ | ⟨b, _⟩⟩ := a182 h.1 p25
        · exact absurd (b mb2) nf
        · cases e
          rcases hh with ⟨a, _⟩ | ⟨_, ⟨a, _⟩ | ⟨_, hw, e⟩⟩
          · exact absurd a b
          · rw [ev, litC] at a
            exact absurd hv2 a
          · subst e
            rw [hw]
            exact RES_S h l ok1
      · obtain ⟨_, v, e, _⟩ := a182 h.1 p25
        cases e
    · subst ey
      obtain ⟨f9, f8, f2⟩ := lr_9 F
      have ev2 : v21.toInt = N := by rw [ev, l32 (by omega) (by omega)]; exact vN
      have nf' : nfl σ22 n2 := by
        show (m_i σ22 6 _ 9).toInt = 0
        rw [f9]; exact hC.1
      have l2 : LI N k (tc σ) 0 σ22 := l.ko (c := c) h.1 gf F K (fun o k ho h1 h2 => old o k ho (by omega)) m
      rcases hh with ⟨v25, p25, hh⟩ | ⟨b, p25, _⟩
      · obtain ⟨_, v', e, ⟨b, _⟩ | ⟨_, _, b⟩⟩ := a182 hD.1 p25
        · cases e
          rcases hh with ⟨_, _, σ32, e32, _, _, σ36, e36, _, _, σ40, e40, _, _, hh⟩ | ⟨a, _⟩
          · have nN : (m_i σ 13 17 0).toNatClampNeg = N := by
              have := i_nat (a := m_i σ 13 17 0) (by rw [l.n0]; omega)
              have := l.n0
              omega
            rw [gm0, nN] at e32
            have e32' : m_i σ32 13 17 0 = m_i σ 13 17 0 := by rw [e32, mi_si, if_neg (fun z => by cases z.2.1), gm0]
            rw [e32', nN] at e36
            have e36' : m_i σ36 13 17 0 = m_i σ 13 17 0 := by rw [e36, mi_si, if_neg (fun z => by cases z.2.1), e32']
            rw [e36'] at e40
            have vn : (m_i σ 13 17 0 + Int32.ofInt 1).toInt = N + 1 := by rw [i_inc (by rw [l.n0]; omega) (by rw [l.n0]; omega), l.n0]
            obtain ⟨w1, w2, w3, w4⟩ := new
            have l3 : LI (N + 1) k (tc σ) 0 σ40 := by
              rw [e40, e36, e32]
              refine l2.wo N60 ?_ ?_ vn ?_ (by rw [l9]; decide)
              · show _ = (m_i σ22 7 N 4).toInt
                rw [w4]
              · show _ = (m_i σ22 7 N 1).toInt + 10 * (m_i σ22 7 N 2).toInt + 100 * (m_i σ22 7 N 3).toInt
                rw [w1, w2, w3]
                exact m_sum mb2 ⟨by omega, by omega⟩ sd10
              · intro i hi
                rw [l6]
                have hi : (m_i σ22 7 N 2).toInt = i := hi
                rw [w2] at hi
                have := (hD.1.po i (by omega)).2.2.2.2.1
                omega
            have D3 : D n (N + 1) c k σ40 := by
              rw [e40, e36, e32]
              exact D_13 (D_13 (D_13 hD (by omega)) (by omega)) (by omega)
            have g40 : m_i σ40 13 17 0 = m_i σ 13 17 0 + Int32.ofInt 1 := by rw [e40, mi_si, if_pos ⟨rfl, rfl, rfl⟩]
            have s1 : (m_i σ40 13 17 0 - Int32.ofInt 1).toInt = N := by rw [g40, i_sub (by rw [vn, i_1]; omega) (by rw [vn, i_1]; omega), vn, i_1]; omega
            have tcs : tc σ40 = tc σ := by
              rw [← tcN]
              show (m_i σ40 2 0 5).toInt = (m_i σ22 2 0 5).toInt
              rw [e40, mi_si, if_neg (fun z => by cases z.1), e36, mi_si, if_neg (fun z => by cases z.1), e32, mi_si, if_neg (fun z => by cases z.1)]
            rcases hh with ⟨a, _⟩ | ⟨_, _, hh⟩
            · rw [ev2, i64, s1] at a
              exact absurd rfl a
            · rcases hh with ⟨v45, p45, hh⟩ | ⟨b, p45, _⟩
              · obtain ⟨_, ⟨a, _⟩ | ⟨a, ea, aN, v', e, ev'⟩⟩ := a131 D3.1 p45
                · rw [s1] at a
                  omega
                · cases e
                  have aN : a = N := by omega
                  subst aN
                  have f6 : oi σ40 a 6 = oi σ22 a 6 := by
                    show (m_i σ40 7 a 6).toInt = _
                    rw [e40, mi_si, if_neg (fun z => by cases z.1), e36, mi_si, if_neg (fun z => by cases z.1), e32, mi_si, if_neg (fun z => by cases z.1)]
                  have f99 : oi σ40 a 9 = oi σ22 a 9 := by
                    show (m_i σ40 7 a 9).toInt = _
                    rw [e40, mi_si, if_neg (fun z => by cases z.1), e36, mi_si, if_neg (fun z => by cases z.1), e32, mi_si, if_neg (fun z => by cases z.1)]
                  rw [f6, f99, l6, l9] at ev'
                  rcases hh with ⟨b, _⟩ | ⟨_, hw, e⟩
                  · have m1 : (Int32.ofInt 10 * qq).toInt = 10 * qq.toInt := by rw [i_mul (by rw [i_10]; omega) (by rw [i_10]; omega), i_10]
                    rw [i_add (by rw [m1, i_2]; omega) (by rw [m1, i_2]; omega), m1, i_2] at b
                    exact absurd ev' b
                  · subst e
                    rw [hw]
                    refine ⟨ok1, n, a + 1, k, Int.le_refl _, by omega, by omega, Nat.le_refl _, Nat.le_refl _, by omega, D3, ?_⟩
                    rw [tcs]; exact l3
              · obtain ⟨_, ⟨_, e⟩ | ⟨_, _, _, _, e, _⟩⟩ := a131 D3.1 p45
                · cases e
                  obtain ⟨_, ⟨a, _⟩ | ⟨_, _, _, _, e, _⟩⟩ := a131 D3.1 p45
                  · rw [s1] at a
                    omega
                  · cases e
                · cases e
          · exact absurd b a
        · exact absurd nf' b
      · obtain ⟨_, v, e, _⟩ := a182 hD.1 p25
        cases e
  · subst e
    rw [hw]
    exact RES_S h l ok1
