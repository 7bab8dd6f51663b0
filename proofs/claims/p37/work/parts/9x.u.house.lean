/-! the law: the house sells, settles; trades are broken -/
theorem hxm : hx (Int32.ofInt (-1)) = 0 := by decide
theorem im1 : (Int32.ofInt (-1)).toInt = -1 := by decide
theorem hxb {x : Int32} (h : 0 ≤ x.toInt) : hx x = x.toNatClampNeg + 1 := by
  unfold hx
  rw [if_neg (by omega)]
theorem k144 {n : Int} {N : Nat} {x1 x2 : Int32} {w : mX} {σ σ' : mS} (h : HI n N σ) (h1 : mh x1) (h2 : ik x2) (p : P144 σ x1 x2 w σ') : w = .inl (some (.inr (.inl (m_l σ 14 (hx x1) x2.toNatClampNeg)))) := by
  obtain ⟨_, ⟨a, _⟩ | ⟨_, e⟩⟩ := a144 h p
  · exact absurd ⟨h1, h2⟩ a
  · exact e
theorem k145 {x1 x2 : Int32} {w : mX} {σ σ' : mS} (h1 : mh x1) (h2 : b3 x2) (p : P145 σ x1 x2 w σ') : ∃ v : Int64, w = .inl (some (.inr (.inl v))) ∧ (x2.toInt = 0 → v = m_l σ 6 (hx x1) 2) ∧ (x2.toInt = 1 → v = m_l σ 6 (hx x1) 3) ∧ (x2.toInt = 2 → v = m_l σ 6 (hx x1) 4) := by
  obtain ⟨_, ⟨a, _⟩ | ⟨_, ⟨a, _⟩ | ⟨_, r⟩⟩⟩ := a145 p
  · exact absurd h1 a
  · exact absurd h2 a
  · exact r
theorem k149 {n : Int} {N : Nat} {x : Int32} {w : mX} {σ σ' : mS} (h : HI n N σ) (h1 : mb x) (p : P149 σ x w σ') : ∃ v : Int32, w = .inl (some (.inl v)) ∧ (v - v / Int32.ofInt 10 * Int32.ofInt 10).toInt = sM σ (x.toNatClampNeg + 1) ∧ v.toInt = 10 * mi6 σ (x.toNatClampNeg + 1) 6 + sM σ (x.toNatClampNeg + 1) ∧ 0 ≤ mi6 σ (x.toNatClampNeg + 1) 6 := by
  obtain ⟨_, ⟨a, _⟩ | ⟨_, v, e, e2, e3⟩⟩ := a149 h p
  · exact absurd h1 a
  · have s : 0 ≤ sM σ (x.toNatClampNeg + 1) ∧ sM σ (x.toNatClampNeg + 1) ≤ 3 := by unfold sM; split <;> split <;> omega
    refine ⟨v, e, ?_, e2, e3⟩
    rw [md32 (by omega) (by rw [i_10]; decide), i_10, e2]
    omega
theorem s188_129 {n : Int} {N c : Nat} {k : Kt} {u : Int64} {w : mX} {σ σ' : mS} (h : S n N c k σ) (l : LI N k (tc σ) 0 σ) (e : u.toInt = -1000000000) (p : J188_129 u σ w σ') : RES n N c k w σ' := by
  rcases p with ⟨a, _⟩ | ⟨_, hw, e2⟩
  · rw [litC] at a
    exact absurd e a
  · subst e2
    rw [hw]
    exact RES_S h l ok1
theorem s188_98 {n : Int} {N c : Nat} {k : Kt} {u : Int64} {w : mX} {σ σ' : mS} (h : S n N c k σ) (l : LI N k (tc σ) 0 σ) (e : u.toInt = -3000000000) (p : J188_98 u σ w σ') : RES n N c k w σ' := by
  rcases p with ⟨a, _⟩ | ⟨_, hw, e2⟩
  · rw [litA] at a
    exact absurd e a
  · subst e2
    rw [hw]
    exact RES_S h l ok1
theorem s188_60 {n : Int} {N c : Nat} {k : Kt} {u4 u5 u6 : Int32} {u7 t0 : Int64} {w : mX} {σ σ' : mS} (h : S n N c k σ) (hn : n + 12 ≤ 300) (hc : c ≤ 900000) (l : LI N k (tc σ) 0 σ) (b4 : 0 ≤ u4.toInt) (b5 : 0 ≤ u5.toInt ∧ u5.toInt ≤ 3) (b6 : 0 ≤ u6.toInt ∧ u6.toInt ≤ 5) (e7 : u5.toInt < 3 → u7 = m_l σ 14 0 u5.toNatClampNeg) (e0 : u5.toInt < 3 → u6.toInt < 5 → t0 = m_l σ 14 (u6.toNatClampNeg + 1) u5.toNatClampNeg) (p : J188_60 u4 u5 u6 u7 t0 σ w σ') : RES n N c k w σ' := by
  obtain ⟨v2, σ3, gf, hl, p172, p⟩ := p
  have i200 : (Int32.ofInt 200).toInt = 200 := by decide
  have m200 : (u4 - u4 / Int32.ofInt 200 * Int32.ofInt 200).toInt = u4.toInt % 200 := by rw [md32 b4 (by rw [i200]; decide), i200]
  have q200 : (Int32.ofInt 1 + (u4 - u4 / Int32.ofInt 200 * Int32.ofInt 200)).toInt = 1 + u4.toInt % 200 := by rw [i_add (by rw [m200, i_1]; omega) (by rw [m200, i_1]; omega), m200, i_1]
  obtain ⟨y, p151, _, _, ev⟩ := d172_12 (by decide) p172
  have nn5 := i_nat b5.1
  have nn6 := i_nat b6.1
  have z0 : (Int64.ofNat 0).toInt = 0 := by decide
  rcases a151 h hn hc p151 with ⟨a, ey, e⟩ | ⟨⟨i5, m6⟩, ⟨a, _⟩ | ⟨_, ⟨a, ey, e⟩ | ⟨q1, q2, v, ey, hD, es, ep, vv, p0, pm, f9, F⟩⟩⟩
  · subst e
    have v2v : v2.toInt = -3000000000 := by rw [ev, ey]; exact hv0
    rcases p with ⟨_, q⟩ | ⟨c1, ⟨c2, _⟩ | ⟨_, q⟩⟩
    · exact s188_98 h l v2v q
    · exact absurd ⟨⟨b5.1, by omega⟩, b6.1, by omega⟩ a
    · exact s188_98 h l v2v q
  · exact absurd ⟨by omega, by omega⟩ a
  · subst e
    have v2v : v2.toInt = -1000000000 := by rw [ev, ey]; exact hv2
    have e7 := e7 i5.2
    rcases p with ⟨c1, _⟩ | ⟨_, ⟨_, p⟩ | ⟨c2, _⟩⟩
    · have := i5.2
      omega
    · rcases p with ⟨_, q⟩ | ⟨c3, ⟨v9, q9, ⟨c4, _⟩ | ⟨_, q⟩⟩ | ⟨b, q9, _⟩⟩
      · exact s188_129 h l v2v q
      · obtain ⟨_, v, e, ⟨_, f⟩ | ⟨f, _⟩⟩ := a182 h.1 q9
        · rcases a with a | a
          · rw [z0, e7] at c3
            exact absurd a c3
          · exact absurd (f m6) a
        · cases e
          exact absurd c4 f
      · exact s188_129 h l v2v q
      · obtain ⟨_, v, e, _⟩ := a182 h.1 q9
        cases e
    · have := m6.2
      exact absurd (by omega) c2
  · have e7 := e7 i5.2
    have e0 := e0 i5.2 m6.2
    have v2v : v2 = u7 := by
      rw [ev, ey, e7]
      exact vv
    have tcs : tc σ3 = tc σ := congrArg Int32.toInt (F.2 2 0 5 rfl).1
    have l2 : LI N k (tc σ3) 0 σ3 := by
      rw [tcs]
      exact l.kq gf F rfl (by rw [es]; exact l.mon) ep h.1.2.2.1
    rcases p with ⟨c1, _⟩ | ⟨_, ⟨_, p⟩ | ⟨c2, _⟩⟩
    · have := i5.2
      omega
    · rcases p with ⟨c3, _⟩ | ⟨_, ⟨v9, q9, ⟨_, p⟩ | ⟨c4, _⟩⟩ | ⟨b, q9, _⟩⟩
      · rw [z0, e7] at c3
        exact absurd c3 q1
      · rcases p with ⟨c5, _⟩ | ⟨_, ⟨v15, q15, p⟩ | ⟨b, q15, _⟩⟩
        · rw [v2v] at c5
          exact absurd rfl c5
        · have := k144 hD.1 ⟨by rw [im1]; decide, by rw [im1]; decide⟩ i5 q15
          cases this
          rw [hxm] at p
          rcases p with ⟨c6, _⟩ | ⟨_, ⟨v20, q20, p⟩ | ⟨b, q20, _⟩⟩
          · rw [z0] at c6
            exact absurd p0 c6
          · have := k144 hD.1 ⟨by have := m6.1; omega, m6.2⟩ i5 q20
            cases this
            rw [hxb m6.1, pm, ← e0, vv, ← e7] at p
            rcases p with ⟨c7, _⟩ | ⟨_, hw, e⟩
            · exact absurd rfl c7
            · subst e
              rw [hw]
              exact FIN_RES ⟨ok1, hD, l2⟩ (by omega) (by omega) (Nat.le_refl _) (by omega)
          · have := k144 hD.1 ⟨by have := m6.1; omega, m6.2⟩ i5 q20
            cases this
        · have := k144 hD.1 ⟨by rw [im1]; decide, by rw [im1]; decide⟩ i5 q15
          cases this
      · obtain ⟨_, v', e, ⟨f, _⟩ | ⟨_, _, f⟩⟩ := a182 hD.1 q9
        · cases e
          exact absurd f c4
        · have : nfl σ3 u6 := by
            show (m_i σ3 6 _ 9).toInt = 0
            rw [f9]
            exact q2
          exact absurd this f
      · obtain ⟨_, v', e, _⟩ := a182 hD.1 q9
        cases e
    · have := m6.2
      exact absurd (by omega) c2
theorem s188_34 {n : Int} {N c : Nat} {k : Kt} {u4 u5 u6 : Int32} {t0 : Int64} {w : mX} {σ σ' : mS} (h : S n N c k σ) (hn : n + 12 ≤ 300) (hc : c ≤ 900000) (l : LI N k (tc σ) 0 σ) (b4 : 0 ≤ u4.toInt) (b5 : 0 ≤ u5.toInt ∧ u5.toInt ≤ 3) (b6 : 0 ≤ u6.toInt ∧ u6.toInt ≤ 5) (e7 : u5.toInt < 3 → t0 = m_l σ 14 0 u5.toNatClampNeg) (p : J188_34 u4 u5 u6 t0 σ w σ') : RES n N c k w σ' := by
  rcases p with ⟨a, q⟩ | ⟨a, ⟨b, q⟩ | ⟨b, ⟨v3, q3, q⟩ | ⟨b', q3, _⟩⟩⟩
  · exact s188_60 h hn hc l b4 b5 b6 e7 (fun z => by omega) q
  · exact s188_60 h hn hc l b4 b5 b6 e7 (fun _ z => by omega) q
  · have := k144 h.1 ⟨by omega, by omega⟩ ⟨b5.1, by omega⟩ q3
    cases this
    exact s188_60 h hn hc l b4 b5 b6 e7 (fun _ _ => by rw [hxb b6.1]) q
  · have := k144 h.1 ⟨by omega, by omega⟩ ⟨b5.1, by omega⟩ q3
    cases this
/-! settling -/
theorem s188_331 {u5 : Int32} {u8 : Int64} {t0 : Int32} {w : mX} {σ σ' : mS} (hm : mh u5) (ht : t0.toInt = if 0 < (m_l σ 6 (hx u5) 2).toInt then 0 else 1) (h8 : 0 < u8.toInt → (m_l σ 6 (hx u5) 2).toInt ≤ 0) (p : J188_331 u5 u8 t0 σ w σ') : OKw w ∧ σ' = σ := by
  have z0 : (Int64.ofNat 0).toInt = 0 := by decide
  have i0 := i_0
  have i1 := i_1
  have fin : ∀ x : Int32, t0.toInt = x.toInt → J188_355 x t0 σ w σ' → OKw w ∧ σ' = σ := by
    intro x e q
    rcases q with ⟨a, _⟩ | ⟨_, hw, e2⟩
    · exact absurd e a
    · exact ⟨by rw [hw]; exact ok1, e2⟩
  rcases p with ⟨a, q⟩ | ⟨a, ⟨v2, q2, ⟨b, q⟩ | ⟨b, q⟩⟩ | ⟨bb, q2, _⟩⟩
  · rw [z0] at a
    exact fin _ (by rw [ht, if_neg (by have := h8 a; omega), i1]) q
  · obtain ⟨v, e, r0, _⟩ := k145 hm ⟨by omega, by omega⟩ q2
    cases e
    rw [r0 i0, z0] at b
    exact fin _ (by rw [ht, if_pos b, i0]) q
  · obtain ⟨v, e, r0, _⟩ := k145 hm ⟨by omega, by omega⟩ q2
    cases e
    rw [r0 i0, z0] at b
    exact fin _ (by rw [ht, if_neg b, i1]) q
  · obtain ⟨v, e, _⟩ := k145 hm ⟨by omega, by omega⟩ q2
    cases e
theorem q188_s {n : Int} {N c : Nat} {k : Kt} {σ : mS} {M : Int} (h : S n N c k σ) (hn : n + 11 ≤ 300) (hc : c ≤ 900000) (l : LI N k (tc σ) 0 σ) (hM : ∀ i : Nat, 1 ≤ i → i < 6 → (sM σ i = 2 ↔ (i : Int) = M)) (h1 : 1 ≤ M) : ∀ m (u5 u6 : Int32) (w : mX) (σ' : mS), Q188_200 m u5 u6 σ w σ' → 0 ≤ u6.toInt → u6.toInt ≤ 5 → (u5.toInt = if M ≤ u6.toInt then M - 1 else -1) → RES n N c k w σ' := by
  have i0 := i_0
  have i1 := i_1
  have z0 : (Int64.ofNat 0).toInt = 0 := by decide
  have hmm : mh (Int32.ofInt (-1)) := ⟨by rw [im1]; decide, by rw [im1]; decide⟩
  have b31 : b3 (Int32.ofInt 1) := ⟨by omega, by omega⟩
  have b30 : b3 (Int32.ofInt 0) := ⟨by omega, by omega⟩
  intro m
  induction m with
  | zero => intro u5 u6 w σ' q; exact q.elim
  | succ m IH =>
    intro u5 u6 w σ' qq p0 p5 hu
    replace qq : B188_200 (Q188_200 m) u5 u6 σ w σ' := qq
    have n6 := i_nat p0
    rcases qq with ⟨c5, ⟨v2, q2, v6, σ7, gf, hl, p172, q⟩ | ⟨b, q2, _⟩⟩ | ⟨c5, ⟨v29, q29, q⟩ | ⟨b, q29, _⟩⟩
    · obtain ⟨v, e, _, r1, _⟩ := k145 hmm b31 q2
      cases e
      have r1 := r1 i1
      rw [hxm] at r1
      obtain ⟨y, p152, _, _, ev⟩ := d172_13 (by decide) p172
      rcases a152 h hn hc p152 with ⟨a, ey, e⟩ | ⟨m', v, m1, m6, mr, ⟨f9, f10⟩, ey, hD, es, ep, g10, ⟨v0, vv⟩, v1, F⟩
      · subst e
        -- none is due
        have none' : ¬ M ≤ 5 := by
          intro z
          have s2 := (hM M.toNat (by omega) (by omega)).mpr (by omega)
          rcases h.1.2.2.2.1.2.2.2.2.1 with ⟨_, s⟩ | ⟨m, _, _, s, _⟩
          · unfold sM at s2
            split at s2
            · split at s2 <;> omega
            · split at s2
              · rename_i a1 a2
                have f := (h.1.2.2.2.1.2.2.2.1 M.toNat (by omega) (by omega)).2.1
                rcases f with f | f
                · exact absurd f a1
                · have := s M.toNat (by omega) (by omega) f
                  omega
              · omega
          · rw [a] at s
            cases s
        rw [if_neg (by omega)] at hu
        have v6v : v6.toInt = -1000000000 := by rw [ev, ey]; exact hv2
        rcases q with ⟨x, _⟩ | ⟨_, ⟨x, _⟩ | ⟨_, hw, e⟩⟩
        · omega
        · rw [litC] at x
          exact absurd v6v x
        · subst e
          rw [hw]
          exact RES_S h l ok1
      · have eM : (m' : Int) = M := by
          refine (hM m' m1 m6).mp ?_
          unfold sM
          rw [if_neg (by omega), if_pos f10]
        have hu : u5.toInt = M - 1 := by rw [hu, if_pos (by omega)]
        have n5 : u5.toNatClampNeg + 1 = m' := by have := i_nat (a := u5) (by omega); omega
        have mb5 : mb u5 := ⟨by omega, by omega⟩
        have mh5 : mh u5 := ⟨by omega, by omega⟩
        have hx5 : hx u5 = m' := by rw [hxb mb5.1, n5]
        have v6v : v6 = v := by rw [ev, ey]; rfl
        have tcs : tc σ7 = tc σ := congrArg Int32.toInt (F.2 2 0 5 rfl).1
        have l2 : LI N k (tc σ7) 0 σ7 := by
          rw [tcs]
          exact l.kq gf F rfl (by rw [es]; exact l.mon) ep h.1.2.2.1
        have fin : OKw w ∧ σ' = σ7 → RES n N c k w σ' := fun ⟨o, e⟩ => by
          subst e
          exact FIN_RES ⟨o, hD, l2⟩ (by omega) (by omega) (Nat.le_refl _) (by omega)
        rcases q with ⟨_, ⟨x, _⟩ | ⟨_, ⟨v12, q12, q⟩ | ⟨b, q12, _⟩⟩⟩ | ⟨x, _⟩
        · rw [z0, v6v] at x
          omega
        · obtain ⟨v', e, _, r12, _⟩ := k145 hmm b31 q12
          cases e
          have r12 := r12 i1
          rw [hxm] at r12
          rcases q with ⟨x, _⟩ | ⟨_, ⟨v17, q17, q⟩ | ⟨b, q17, _⟩⟩
          · rw [r12, vv, r1, v6v] at x
            exact absurd rfl x
          · obtain ⟨v', e, r17, _⟩ := k149 hD.1 mb5 q17
            cases e
            have s3 : sM σ7 (u5.toNatClampNeg + 1) = 3 := by
              rw [n5]
              unfold sM
              have : mi6 σ7 m' 9 = mi6 σ m' 9 := congrArg Int32.toInt (F.2 6 m' 9 rfl).1
              rw [if_neg (by omega), if_neg (by omega)]
            rcases q with ⟨x, _⟩ | ⟨_, ⟨v23, q23, q⟩ | ⟨b, q23, _⟩⟩
            · rw [r17] at x
              exact absurd s3 x
            · obtain ⟨v', e, r23, _⟩ := k145 mh5 b30 q23
              cases e
              have r23 := r23 i0
              rw [r23, z0] at q
              have h8 : 0 < v6.toInt → (m_l σ7 6 (hx u5) 2).toInt ≤ 0 := fun z => by rw [hx5]; exact v1 (by rw [← v6v]; exact z)
              rcases q with ⟨x, q⟩ | ⟨x, q⟩
              · exact fin (s188_331 mh5 (by rw [if_pos x, i0]) h8 q)
              · exact fin (s188_331 mh5 (by rw [if_neg x, i1]) h8 q)
            · obtain ⟨v', e, _⟩ := k145 mh5 b30 q23
              cases e
          · obtain ⟨v', e, _⟩ := k149 hD.1 mb5 q17
            cases e
        · obtain ⟨v', e, _⟩ := k145 hmm b31 q12
          cases e
        · omega
    · obtain ⟨v, e, _⟩ := k145 hmm b31 q2
      cases e
    · have inc : (u6 + Int32.ofInt 1).toInt = u6.toInt + 1 := i_inc p0 (by omega)
      obtain ⟨v', e, r29, _⟩ := k149 h.1 ⟨p0, by omega⟩ q29
      cases e
      have hM6 := hM (u6.toNatClampNeg + 1) (by omega) (by omega)
      rw [r29] at q
      rcases q with ⟨x, q⟩ | ⟨x, q⟩
      · refine IH _ _ _ _ q (by omega) (by omega) ?_
        have : ((u6.toNatClampNeg + 1 : Nat) : Int) ≠ M := fun z => x (hM6.mpr z)
        rw [hu, inc]
        by_cases y : M ≤ u6.toInt
        · rw [if_pos y, if_pos (by omega)]
        · rw [if_neg y, if_neg (by omega)]
      · refine IH _ _ _ _ q (by omega) (by omega) ?_
        have := hM6.mp (Decidable.of_not_not x)
        rw [inc, if_pos (by omega)]
        omega
    · obtain ⟨v', e, _⟩ := k149 h.1 ⟨p0, by omega⟩ q29
      cases e
theorem s188_settle {n : Int} {N c m : Nat} {k : Kt} {w : mX} {σ σ' : mS} (h : S n N c k σ) (hn : n + 11 ≤ 300) (hc : c ≤ 900000) (l : LI N k (tc σ) 0 σ) (q : Q188_200 m (Int32.ofInt (-1)) (Int32.ofInt 0) σ w σ') : RES n N c k w σ' := by
  have f := h.1.2.2.2.1.2.2.2.1
  have key : ∃ M : Int, 1 ≤ M ∧ ∀ i : Nat, 1 ≤ i → i < 6 → (sM σ i = 2 ↔ (i : Int) = M) := by
    rcases h.1.2.2.2.1.2.2.2.2.1 with ⟨_, s⟩ | ⟨m, m1, m6, _, s9, s10, s⟩
    · refine ⟨100, by decide, fun i i1 i6 => ⟨fun z => ?_, fun z => by omega⟩⟩
      exfalso
      unfold sM at z
      split at z
      · split at z <;> omega
      · split at z
        · rename_i a1 a2
          rcases (f i i1 i6).2.1 with f | f
          · exact absurd f a1
          · have := s i i1 i6 f
            omega
        · omega
    · refine ⟨m, by omega, fun i i1 i6 => ⟨fun z => ?_, fun z => ?_⟩⟩
      · by_cases e : i = m
        · rw [e]
        · exfalso
          unfold sM at z
          split at z
          · split at z <;> omega
          · split at z
            · rename_i a1 a2
              rcases (f i i1 i6).2.1 with f | f
              · exact absurd f a1
              · have := s i i1 i6 e f
                omega
            · omega
      · have : i = m := by omega
        rw [this]
        unfold sM
        rw [if_neg (by omega), if_pos s10]
  obtain ⟨M, h1, hM⟩ := key
  exact q188_s h hn hc l hM h1 m _ _ _ _ q (by rw [i_0]; decide) (by rw [i_0]; decide) (by rw [im1, i_0, if_neg (by omega)])
/-! breaking a trade -/
theorem s188_464 {n' : Int} {N' : Nat} {u5 u8 t0 : Int32} {G : Int} {w : mX} {σ σ' : mS} (hI : HI n' N' σ) (hg : (m_i σ 13 17 3).toInt = G) (tcs : G = tc σ) (b5 : 0 ≤ u5.toInt ∧ u5.toInt ≤ G) (O : (u5.toInt = G ∧ u8.toInt = -3) ∨ (u5.toInt ≠ G ∧ ((t0.toInt ≠ 0 ∧ u8.toInt = -1) ∨ (t0.toInt = 0 ∧ ((u8.toInt = -1 ∧ ti σ u5.toNatClampNeg 9 = 0) ∨ (u8.toInt = 0 ∧ ti σ u5.toNatClampNeg 9 = 1)))))) (p : J188_464 u5 u8 t0 σ w σ') : OKw w ∧ σ' = σ := by
  have i0 := i_0
  have i3 := i_3
  have nn := i_nat b5.1
  obtain ⟨_, p⟩ := p
  rw [n_3, hg] at p
  have b33 : bk4 (Int32.ofInt 3) := ⟨by omega, by omega⟩
  have j524 : u5.toInt ≠ G → u8.toInt = 0 → ti σ u5.toNatClampNeg 9 = 1 → J188_524 u5 u8 σ w σ' → OKw w ∧ σ' = σ := by
    intro ne e8 e9 q
    rcases q with ⟨x, _⟩ | ⟨_, ⟨v2, q2, ⟨x, _⟩ | ⟨_, hw, e⟩⟩ | ⟨b, q2, _⟩⟩
    · exact absurd e8 x
    · obtain ⟨v, e, _, _, _, r3⟩ := k142 (t := u5.toNatClampNeg) hI (by omega) (by omega) b33 q2
      cases e
      rcases r3 i3 with r | r
      · omega
      · exact absurd r.1 x
    · exact ⟨by rw [hw]; exact ok1, e⟩
    · obtain ⟨v, e, _⟩ := k142 (t := u5.toNatClampNeg) hI (by omega) (by omega) b33 q2
      cases e
  rcases p with ⟨c1, p⟩ | ⟨c1, ⟨x, _⟩ | ⟨_, hw, e⟩⟩
  · rcases O with ⟨a, _⟩ | ⟨_, O⟩
    · exact absurd a c1
    · rcases p with ⟨c2, p⟩ | ⟨c2, ⟨x, _⟩ | ⟨_, hw, e⟩⟩
      · rcases O with ⟨a, _⟩ | ⟨_, O⟩
        · exact absurd c2 a
        · rcases p with ⟨x, q⟩ | ⟨x, ⟨v5, q5, ⟨_, hw, e⟩ | ⟨y, q⟩⟩ | ⟨b, q5, _⟩⟩
          · rcases O with ⟨a, _⟩ | ⟨a1, a2⟩
            · exact absurd a x
            · exact j524 c1 a1 a2 q
          · exact ⟨by rw [hw]; exact ok1, e⟩
          · rcases O with ⟨_, a2⟩ | ⟨a1, a2⟩
            · obtain ⟨v, e, _, _, _, r3⟩ := k142 (t := u5.toNatClampNeg) hI (by omega) (by omega) b33 q5
              cases e
              rcases r3 i3 with r | r
              · exact absurd r.1 y
              · exact absurd a2 r.2
            · exact j524 c1 a1 a2 q
          · obtain ⟨v, e, _⟩ := k142 (t := u5.toNatClampNeg) hI (by omega) (by omega) b33 q5
            cases e
      · rcases O with ⟨_, a⟩ | ⟨a, _⟩
        · exact absurd a x
        · exact absurd a c2
      · exact ⟨by rw [hw]; exact ok1, e⟩
  · rcases O with ⟨_, a⟩ | ⟨a, _⟩
    · exact absurd a x
    · exact absurd (Decidable.of_not_not c1) a
  · exact ⟨by rw [hw]; exact ok1, e⟩
theorem s188_418 {n : Int} {N c : Nat} {k : Kt} {u5 u6 t0 : Int32} {w : mX} {σ σ' : mS} (h : S n N c k σ) (hn : n + 11 ≤ 300) (hc : c ≤ 900000) (l : LI N k (tc σ) 0 σ) (b5 : 0 ≤ u5.toInt ∧ u5.toInt ≤ tc σ) (h6 : u5.toInt < tc σ → u6.toInt = 10 * ti σ u5.toNatClampNeg 3 + ti σ u5.toNatClampNeg 4) (ht : t0.toInt ≠ 0 ↔ u5.toInt < tc σ ∧ ti σ u5.toNatClampNeg 9 = 1) (h60 : ¬ u5.toInt < tc σ → u6.toInt = 0) (p : J188_418 u5 u6 t0 σ w σ') : RES n N c k w σ' := by
  have i0 := i_0
  have i1 := i_1
  have nn := i_nat b5.1
  obtain ⟨v1, σ2, gf, hl, p173, p⟩ := p
  obtain ⟨y, p176, _, _, ev⟩ := d173_2 i_2 p173
  have g3 : (m_i σ2 13 17 3).toInt = tc σ := by rw [gf.i (by omega)]; exact l.t3
  -- what it came to
  have O : (u5.toInt = tc σ ∧ v1.toInt = -3 ∧ σ2 = σ) ∨ (u5.toInt < tc σ ∧ ((v1.toInt = -1 ∧ σ2 = σ) ∨ (v1.toInt = 0 ∧ (ti σ u5.toNatClampNeg 9 = 0 ∧ nfl σ (m_i σ 10 u5.toNatClampNeg 3) ∧ nfl σ (m_i σ 10 u5.toNatClampNeg 4)) ∧ D (n + 1) N c k σ2 ∧ sm σ2 = sm σ ∧ (∀ j, ps σ2 j = ps σ j) ∧ ti σ2 u5.toNatClampNeg 9 = 1 ∧ fw_e (wl ([(6, 2), (8, 7), (10, 9), (14, 0)] ++ LD)) σ σ2))) := by
    have tt : tc σ = (m_i σ 2 0 5).toInt := rfl
    rcases p176 with ⟨σ3, _, q, ey, rfl⟩ | ⟨b, _, q, ey⟩
    · rcases a143 h hn hc q with ⟨_, z, _⟩ | ⟨t, et, tl', ⟨z, _⟩ | ⟨qq, _, hD, es, ep, _, r9, F⟩⟩
      · cases z
      · cases z
      · have : u5.toNatClampNeg = t := by omega
        rw [this]
        exact Or.inr ⟨by omega, Or.inr ⟨by rw [ev, ey]; exact i0, qq, hD, es, ep, r9, F⟩⟩
    · rcases a143 h hn hc q with ⟨a, z, e⟩ | ⟨t, et, tl', ⟨z, e⟩ | ⟨_, z, _⟩⟩
      · cases z
        exact Or.inl ⟨by omega, by rw [ev, ey]; exact hw0, e⟩
      · cases z
        exact Or.inr ⟨by omega, Or.inl ⟨by rw [ev, ey]; exact hw2, e⟩⟩
      · cases z
  -- members of the trade
  have t03 : u5.toInt < tc σ → (0 ≤ ti σ u5.toNatClampNeg 3 ∧ ti σ u5.toNatClampNeg 3 < 5) ∧ (0 ≤ ti σ u5.toNatClampNeg 4 ∧ ti σ u5.toNatClampNeg 4 < 5) ∧ (ti σ u5.toNatClampNeg 9 = 0 ∨ ti σ u5.toNatClampNeg 9 = 1) := fun z => by
    obtain ⟨_, _, _, a3, a4, _, _, _, a9⟩ := h.1.to.2 u5.toNatClampNeg (by show _ < tc σ; omega)
    exact ⟨a3, a4, a9⟩
  have d6 : (u6 / Int32.ofInt 10).toInt = u6.toInt / 10 ∧ (u6 - u6 / Int32.ofInt 10 * Int32.ofInt 10).toInt = u6.toInt % 10 := by
    have : 0 ≤ u6.toInt := by
      by_cases z : u5.toInt < tc σ
      · have := h6 z
        have := t03 z
        omega
      · have := h60 z
        omega
    exact ⟨by rw [dv32 this (by rw [i_10]; decide), i_10], by rw [md32 this (by rw [i_10]; decide), i_10]⟩
  -- an end behind it
  have fin : ∀ t1 : Int32, ((u5.toInt = tc σ ∧ v1.toInt = -3) ∨ (u5.toInt ≠ tc σ ∧ ((t1.toInt ≠ 0 ∧ v1.toInt = -1) ∨ (t1.toInt = 0 ∧ ((v1.toInt = -1 ∧ ti σ2 u5.toNatClampNeg 9 = 0) ∨ (v1.toInt = 0 ∧ ti σ2 u5.toNatClampNeg 9 = 1)))))) → J188_464 u5 v1 t1 σ2 w σ' → RES n N c k w σ' := by
    intro t1 H q
    rcases O with ⟨_, _, e⟩ | ⟨_, ⟨_, e⟩ | ⟨_, _, hD, es, ep, _, F⟩⟩
    · subst e
      obtain ⟨o, e⟩ := s188_464 h.1 g3 rfl b5 H q
      subst e
      exact RES_S h l o
    · subst e
      obtain ⟨o, e⟩ := s188_464 h.1 g3 rfl b5 H q
      subst e
      exact RES_S h l o
    · have tcs : tc σ2 = tc σ := congrArg Int32.toInt (F.2 2 0 5 rfl).1
      have l2 : LI N k (tc σ2) 0 σ2 := by
        rw [tcs]
        exact l.kq gf F rfl (by rw [es]; exact l.mon) ep h.1.2.2.1
      obtain ⟨o, e⟩ := s188_464 hD.1 g3 tcs.symm b5 H q
      subst e
      exact FIN_RES ⟨o, hD, l2⟩ (by omega) (by omega) (Nat.le_refl _) (by omega)
  have HI2 : ∃ n', HI n' N σ2 := by
    rcases O with ⟨_, _, e⟩ | ⟨_, ⟨_, e⟩ | ⟨_, _, hD, _⟩⟩
    · exact ⟨n, by rw [e]; exact h.1⟩
    · exact ⟨n, by rw [e]; exact h.1⟩
    · exact ⟨n + 1, hD.1⟩
  obtain ⟨n', hI2⟩ := HI2
  have f9 : ∀ i, m_i σ2 6 i 9 = m_i σ 6 i 9 := fun i => by
    rcases O with ⟨_, _, e⟩ | ⟨_, ⟨_, e⟩ | ⟨_, _, _, _, _, _, F⟩⟩
    · rw [e]
    · rw [e]
    · exact (F.2 6 i 9 rfl).1
  -- a failed one, or one that was broken: it cannot be
  have cannot : (u5.toInt < tc σ → ti σ u5.toNatClampNeg 9 = 1 ∨ ¬ nfl σ (m_i σ 10 u5.toNatClampNeg 3) ∨ ¬ nfl σ (m_i σ 10 u5.toNatClampNeg 4)) → J188_459 u5 v1 σ2 w σ' → RES n N c k w σ' := by
    intro H q
    refine fin _ ?_ q
    rcases O with ⟨a, b, _⟩ | ⟨a, ⟨b, _⟩ | ⟨_, ⟨b1, b2, b3⟩, _⟩⟩
    · exact Or.inl ⟨a, b⟩
    · exact Or.inr ⟨by omega, Or.inl ⟨by rw [i1]; decide, b⟩⟩
    · rcases H a with z | z | z
      · omega
      · exact absurd b2 z
      · exact absurd b3 z
  have nfl_of : ∀ {x : Int32} {m : Int}, x.toInt = m → ∀ y : Int32, y.toInt = m → nfl σ2 x → nfl σ y := by
    intro x m e y e2 z
    have : x = y := Int32.toInt_inj.mp (by rw [e, e2])
    subst this
    show (m_i σ 6 _ 9).toInt = 0
    rw [← f9]
    exact z
  rcases p with ⟨c1, q⟩ | ⟨c1, ⟨v7, q7, p⟩ | ⟨b, q7, _⟩⟩
  · exact cannot (fun _ => Or.inl (ht.mp c1).2) q
  · obtain ⟨_, v, e, f7⟩ := a182 hI2 q7
    cases e
    rcases p with ⟨c2, q⟩ | ⟨c2, ⟨v13, q13, p⟩ | ⟨b, q13, _⟩⟩
    · refine cannot (fun z => Or.inr (Or.inl (fun y => ?_))) q
      rcases f7 with ⟨a, _⟩ | ⟨_, _, a⟩
      · exact c2 a
      · have e1 : (u6 / Int32.ofInt 10).toInt = ti σ u5.toNatClampNeg 3 := by
          have := h6 z
          have := t03 z
          rw [d6.1]
          omega
        have : u6 / Int32.ofInt 10 = m_i σ 10 u5.toNatClampNeg 3 := Int32.toInt_inj.mp e1
        rw [this] at a
        refine a ?_
        show (m_i σ2 6 _ 9).toInt = 0
        rw [f9]
        exact y
    · obtain ⟨_, v, e, f13⟩ := a182 hI2 q13
      cases e
      rcases p with ⟨c3, q⟩ | ⟨c3, q⟩
      · -- it can be
        refine fin _ ?_ q
        rcases O with ⟨a, b, _⟩ | ⟨a, ⟨b, e⟩ | ⟨b, _, _, _, _, r9, _⟩⟩
        · exact Or.inl ⟨a, b⟩
        · refine Or.inr ⟨by omega, Or.inr ⟨i0, Or.inl ⟨b, ?_⟩⟩⟩
          rw [e]
          rcases (t03 a).2.2 with z | z
          · exact z
          · exact absurd (ht.mpr ⟨a, z⟩) c1
        · exact Or.inr ⟨by omega, Or.inr ⟨i0, Or.inr ⟨b, r9⟩⟩⟩
      · refine cannot (fun z => Or.inr (Or.inr (fun y => ?_))) q
        rcases f13 with ⟨a, _⟩ | ⟨_, _, a⟩
        · exact c3 a
        · have e1 : (u6 - u6 / Int32.ofInt 10 * Int32.ofInt 10).toInt = ti σ u5.toNatClampNeg 4 := by
            have := h6 z
            have := t03 z
            rw [d6.2]
            omega
          have : u6 - u6 / Int32.ofInt 10 * Int32.ofInt 10 = m_i σ 10 u5.toNatClampNeg 4 := Int32.toInt_inj.mp e1
          rw [this] at a
          refine a ?_
          show (m_i σ2 6 _ 9).toInt = 0
          rw [f9]
          exact y
    · obtain ⟨_, v, e, _⟩ := a182 hI2 q13
      cases e
  · obtain ⟨_, v, e, _⟩ := a182 hI2 q7
    cases e
theorem a188 {n : Int} {N c : Nat} {k : Kt} {x3 x4 x5 : Int32} {w : mX} {σ σ' : mS} (h : S n N c k σ) (hn : n + 12 ≤ 300) (hc : c ≤ 900000) (l : LI N k (tc σ) 0 σ) (b4 : 0 ≤ x4.toInt) (b5 : 0 ≤ x5.toInt) (p : P188 σ x3 x4 x5 w σ') : RES n N c k w σ' := by
  have i0 := i_0
  have i1 := i_1
  have i3 := i_3
  have t0 : 0 ≤ tc σ ∧ tc σ ≤ 200 := h.1.to.1
  rcases p with ⟨_, ⟨_, _, n5, e5, _, p⟩ | ⟨_, m, q⟩⟩ | ⟨_, n14, e14, n18, e18, p⟩
  · rw [n_3] at e5 p
    have g3 := l.t3
    have vT : (m_i σ 13 17 3 + Int32.ofInt 1).toInt = tc σ + 1 := by rw [i_inc (by omega) (by omega), g3]
    have b5' : 0 ≤ n5.toInt ∧ n5.toInt ≤ tc σ := by
      rw [e5, md32 b4 (by rw [vT]; omega), vT]
      have a := Int.emod_nonneg x4.toInt (show tc σ + 1 ≠ 0 by omega)
      have b := Int.emod_lt_of_pos x4.toInt (show 0 < tc σ + 1 by omega)
      omega
    have nn := i_nat b5'.1
    rw [g3] at p
    have go : ∀ u6 : Int32, (n5.toInt < tc σ → u6.toInt = 10 * ti σ n5.toNatClampNeg 3 + ti σ n5.toNatClampNeg 4) → (¬ n5.toInt < tc σ → u6.toInt = 0) → J188_392 n5 u6 σ w σ' → RES n N c k w σ' := by
      intro u6 h6 h60 q
      obtain ⟨_, q⟩ := q
      rw [n_3, g3] at q
      rcases q with ⟨a, q⟩ | ⟨a, ⟨v3, q3, q⟩ | ⟨b, q3, _⟩⟩
      · exact s188_418 h (by omega) hc l b5' h6 ⟨fun z => absurd i0 z, fun z => by omega⟩ h60 q
      · obtain ⟨v, e, _, _, _, r3⟩ := k142 (t := n5.toNatClampNeg) h.1 nn.symm (by omega) ⟨by omega, by omega⟩ q3
        cases e
        have a9 := (h.1.to.2 n5.toNatClampNeg (by show _ < tc σ; omega)).2.2.2.2.2.2.2.2
        rcases q with ⟨x, q⟩ | ⟨x, q⟩
        · exact s188_418 h (by omega) hc l b5' h6 ⟨fun z => absurd i0 z, fun z => by
            rcases r3 i3 with r | r
            · omega
            · exact absurd r.1 x⟩ h60 q
        · exact s188_418 h (by omega) hc l b5' h6 ⟨fun _ => ⟨by omega, by
            rcases r3 i3 with r | r
            · omega
            · rcases a9 with z | z
              · exact absurd z r.2
              · exact z⟩, fun _ => by rw [i1]; decide⟩ h60 q
      · obtain ⟨v, e, _⟩ := k142 (t := n5.toNatClampNeg) h.1 nn.symm (by omega) ⟨by omega, by omega⟩ q3
        cases e
    rcases p with ⟨a, q⟩ | ⟨a, ⟨v9, q9, q⟩ | ⟨b, q9, _⟩⟩
    · exact go _ (fun z => by omega) (fun _ => i0) q
    · obtain ⟨v, e, _, _, r2, _⟩ := k142 (t := n5.toNatClampNeg) h.1 nn.symm (by omega) ⟨by rw [i_2]; decide, by rw [i_2]; decide⟩ q9
      cases e
      exact go _ (fun _ => r2 i_2) (fun z => by omega) q
    · obtain ⟨v, e, _⟩ := k142 (t := n5.toNatClampNeg) h.1 nn.symm (by omega) ⟨by rw [i_2]; decide, by rw [i_2]; decide⟩ q9
      cases e
  · exact s188_settle h (by omega) hc l q
  · have v14 : n14.toInt = x4.toInt % 4 := by rw [e14, md32 b4 (by rw [i_4]; decide), i_4]
    have d4 : (x4 / Int32.ofInt 4).toInt = x4.toInt / 4 := by rw [dv32 b4 (by rw [i_4]; decide), i_4]
    have i6 : (Int32.ofInt 6).toInt = 6 := by decide
    have v18 : n18.toInt = x4.toInt / 4 % 6 := by rw [e18, md32 (by rw [d4]; omega) (by rw [i6]; decide), i6, d4]
    rcases p with ⟨a, q⟩ | ⟨a, ⟨v21, q21, q⟩ | ⟨b, q21, _⟩⟩
    · exact s188_34 h hn hc l b5 (by omega) (by omega) (fun z => by omega) q
    · have := k144 h.1 ⟨by rw [im1]; decide, by rw [im1]; decide⟩ ⟨by omega, by omega⟩ q21
      cases this
      exact s188_34 h hn hc l b5 (by omega) (by omega) (fun _ => by rw [hxm]) q
    · have := k144 h.1 ⟨by rw [im1]; decide, by rw [im1]; decide⟩ ⟨by omega, by omega⟩ q21
      cases this
