/-! the law: reader 1 -/
theorem p52 {σ σ' : mS} {x : Int32} {w : mR} (p : P52 σ x w σ') : σ' = σ ∧ ((¬ (0 ≤ x.toInt ∧ x.toInt < 2) ∧ w = none) ∨ ((0 ≤ x.toInt ∧ x.toInt < 2) ∧ w = some (9, x.toNatClampNeg))) := by
  rcases p with ⟨a, b, c⟩ | ⟨a, ⟨b, _, c, d⟩ | ⟨b, c, d⟩⟩
  · exact ⟨c, Or.inl ⟨by omega, b⟩⟩
  · exact ⟨d, Or.inr ⟨⟨by omega, b⟩, c⟩⟩
  · exact ⟨d, Or.inl ⟨by omega, c⟩⟩
/-- what leaves hall and law alone but readers -/
theorem rd_keep {n : Int} {N c : Nat} {k k' : Kt} {L : Nat → Nat → Bool} {σ σ' : mS} (h : S n N c k σ) (l : LI N k (tc σ) 0 σ) (g : gF σ σ') (F : fw_e L σ σ') (hs : HS σ') (q : ((((List.range 13).all (fun k => fwh L 7 k) && (fwh L 8 6 && (fwh L 0 1 && fwh L 6 9))) && ((((CL.all (fun q => fwh L q.1 q.2)) && fwh L 6 7)) && (fwh L 8 7 && fwh L 2 6))) && (((List.range 13).all (fun k => fwh L 7 k) && ((fwh L 8 5 && fwh L 8 6) && (fwh L 6 9 && fwh L 2 6))) && (((fwh L 6 2 && (fwh L 6 3 && fwh L 6 4)) && fwh L 14 0) && fwh L 2 5))) = true) (e : k'.2 = k.2) : HI n N σ' ∧ LI N k' (tc σ') 0 σ' := by
  obtain ⟨q1, q2⟩ := Bool.and_eq_true_iff.mp q
  obtain ⟨q3, q4⟩ := Bool.and_eq_true_iff.mp q2
  obtain ⟨q5, q6⟩ := Bool.and_eq_true_iff.mp q4
  obtain ⟨q7, q8⟩ := Bool.and_eq_true_iff.mp q5
  have t : tc σ' = tc σ := congrArg Int32.toInt (F.2 2 0 5 q6).1
  refine ⟨HI_fw h.1 hs F q1, ?_⟩
  rw [t]
  refine LI.k (l.kq g F q3 ?_ (fun j => ps_fw F q8) h.1.2.2.1) (fun s j _ => by rw [e])
  rw [sm_fw F q7]
  exact l.mon
theorem RES_D {n : Int} {N c : Nat} {k k' : Kt} {w : mX} {σ' : mS} (h : HI n N σ') (f : FY σ' c k') (l : LI N k' (tc σ') 0 σ') (k0 : k.1 ≤ k'.1) (k1 : k'.1 ≤ k.1 + 1) (ok : OKw w) : RES n N c k w σ' := ⟨ok, n, N, k', Int.le_refl _, by omega, Nat.le_refl _, by omega, k0, k1, S_D ⟨h, f⟩, l⟩
theorem hs90 {σ : mS} (hs : HS σ) : m_r σ 9 1 0 = some (5, 3) := by
  have e : (.inr (.inr (m_r σ 9 1 0)) : mV) = rf 5 (2 + 1) := hs.2.2.2.2.2.2.2.2.1 1 (by decide)
  have : (Sum.inr (Sum.inr (m_r σ 9 1 0)) : mV) = .inr (.inr (some (5, 3))) := e
  injection this with e1
  injection e1
/-- reader 1 reads -/
theorem a153 {n : Int} {N c : Nat} {k : Kt} {x : Int32} {w : mX} {σ σ' : mS} (h : S n N c k σ) (hc : c ≤ 1000000) (hk : k.1 < 300) (hx : x.toInt = 1) (l : LI N k (tc σ) 0 σ) (g : gF σ σ') (p : P153 σ x w σ') : S n N c (k.1 + 1, k.2) σ' ∧ LI N (k.1 + 1, k.2) (tc σ') 0 σ' ∧ ∃ v : Int32, w = .inl (some (.inl v)) ∧ -2 ≤ v.toInt ∧ fw_e w55 σ σ' ∧ P55 σ (some (9, 1)) v σ' := by
  obtain ⟨v1, σ2, _, p1, hh⟩ := p
  obtain ⟨e, ⟨a, _⟩ | ⟨_, ev⟩⟩ := p52 p1
  · exact absurd ⟨by omega, by omega⟩ a
  subst e
  have nx : x.toNatClampNeg = 1 := by have := i_nat (a := x) (by omega); omega
  rw [nx] at ev
  rw [ev] at hh
  rcases hh with ⟨z, _⟩ | ⟨q, eq, v9, σ10, F, p55, hw, e⟩
  · cases z
  cases eq
  subst e
  have hs := HS_w h.1.1 F (by decide)
  obtain ⟨f1, f2⟩ := FY_r1 h.1.1 h.2 hc hk F p55
  obtain ⟨i1, i2⟩ := rd_keep (k' := (k.1 + 1, k.2)) h l g F hs rfl rfl
  exact ⟨⟨i1, f1⟩, i2, v9, hw, f2, F, p55⟩
/-- reader 1 loses -/
theorem a154 {n : Int} {N c : Nat} {k : Kt} {x : Int32} {w : mX} {σ σ' : mS} (h : S n N c k σ) (hc : c ≤ 900000) (hx : x.toInt = 1) (l : LI N k (tc σ) 0 σ) (g : gF σ σ') (p : P154 σ x w σ') : S n N c k σ' ∧ LI N k (tc σ') 0 σ' ∧ (w = .inr 2 ∨ ∃ v : Int32, w = .inl (some (.inl v)) ∧ 0 ≤ v.toInt) := by
  have z0 := i_0
  have z1 := i_1
  obtain ⟨v1, σ2, _, p1, hh⟩ := p
  obtain ⟨e, ⟨a, _⟩ | ⟨_, ev⟩⟩ := p52 p1
  · exact absurd ⟨by omega, by omega⟩ a
  subst e
  have nx : x.toNatClampNeg = 1 := by have := i_nat (a := x) (by omega); omega
  rw [nx] at ev
  rw [ev] at hh
  rcases hh with ⟨z, _⟩ | ⟨q, eq, i9, e9, hh⟩
  · cases z
  cases eq
  cases e9
  rcases hh with ⟨_, p⟩ | ⟨b, p⟩
  · rcases c2 p with ⟨t, _⟩ | ⟨_, hw, e⟩
    · exact absurd z0 t
    · subst e
      exact ⟨h, l, Or.inl hw⟩
  · rcases c2 p with ⟨_, v5, σ6, F, p56, hw, e⟩ | ⟨t, _⟩
    · subst e
      have hs := HS_w h.1.1 F (by decide)
      obtain ⟨f1, f2⟩ := FY_l1 h.2 hc (by omega) p56
      obtain ⟨i1, i2⟩ := rd_keep (k' := k) h l g F hs rfl rfl
      exact ⟨⟨i1, f1⟩, i2, Or.inr ⟨v5, hw, f2⟩⟩
    · rw [z1] at t
      cases t
/-- reader 1 copies -/
theorem a155 {n : Int} {N c : Nat} {k : Kt} {x : Int32} {w : mX} {σ σ' : mS} (h : S n N c k σ) (hc : c ≤ 1000000) (hx : x.toInt = 1) (l : LI N k (tc σ) 0 σ) (g : gF σ σ') (p : P155 σ x w σ') : S n N c k σ' ∧ LI N k (tc σ') 0 σ' ∧ ∃ v : Int32, w = .inl (some (.inl v)) ∧ 0 ≤ v.toInt ∧ (∀ w2 σ2, P87 σ' 3 (m_r σ' 3 0 4) w2 σ2 → w2 = Int32.ofInt 0 ∧ σ2 = σ') ∧ (∀ w3 σ3, P55 σ' (some (9, 1)) w3 σ3 → w3 = Int32.ofInt (-1) ∧ σ3 = σ') := by
  obtain ⟨v1, σ2, _, p1, hh⟩ := p
  obtain ⟨e, ⟨a, _⟩ | ⟨_, ev⟩⟩ := p52 p1
  · exact absurd ⟨by omega, by omega⟩ a
  subst e
  have nx : x.toNatClampNeg = 1 := by have := i_nat (a := x) (by omega); omega
  rw [nx] at ev
  rw [ev] at hh
  rcases hh with ⟨z, _⟩ | ⟨q, eq, v9, σ10, F, p57, hw, e⟩
  · cases z
  cases eq
  subst e
  have hs := HS_w h.1.1 F (by decide)
  obtain ⟨f1, f2, f3, f4⟩ := FY_c1 h.1.1 h.2 hc F p57
  obtain ⟨i1, i2⟩ := rd_keep (k' := k) h l g F hs rfl rfl
  exact ⟨⟨i1, f1⟩, i2, v9, hw, f2, f3, f4⟩
/-- how wrong is reader 1? -/
theorem a156 {x : Int32} {w : mX} {σ σ' : mS} (hs : HS σ) (hx : x.toInt = 1) (p : P156 σ x w σ') : ∃ v : Int32, w = .inl (some (.inl v)) ∧ P87 σ 3 (m_r σ 3 0 4) v σ' ∧ fw_e w87 σ σ' := by
  obtain ⟨v1, σ2, _, p1, hh⟩ := p
  obtain ⟨e, ⟨a, _⟩ | ⟨_, ev⟩⟩ := p52 p1
  · exact absurd ⟨by omega, by omega⟩ a
  subst e
  have nx : x.toNatClampNeg = 1 := by have := i_nat (a := x) (by omega); omega
  rw [nx] at ev
  rw [ev] at hh
  rcases hh with ⟨z, _⟩ | ⟨q, eq, i9, e9, i11, e11, v13, σ14, F, p87, hw, e⟩
  · cases z
  cases eq
  cases e9
  rw [hs90 hs] at e11
  cases e11
  subst e
  exact ⟨v13, hw, p87, F⟩
theorem o153 {x : Int32} {w : mX} {σ σ' : mS} (hx : x.toInt = 2) (p : P153 σ x w σ') : w = .inr 0 ∧ σ' = σ := by
  obtain ⟨v1, σ2, _, p1, hh⟩ := p
  obtain ⟨e, ⟨_, ev⟩ | ⟨a, _⟩⟩ := p52 p1
  · rw [ev] at hh
    rcases hh with ⟨_, hw, e2⟩ | ⟨q, z, _⟩
    · exact ⟨hw, e2.trans e⟩
    · cases z
  · omega
theorem o154 {x : Int32} {w : mX} {σ σ' : mS} (hx : x.toInt = 2) (p : P154 σ x w σ') : w = .inr 0 ∧ σ' = σ := by
  obtain ⟨v1, σ2, _, p1, hh⟩ := p
  obtain ⟨e, ⟨_, ev⟩ | ⟨a, _⟩⟩ := p52 p1
  · rw [ev] at hh
    rcases hh with ⟨_, hw, e2⟩ | ⟨q, z, _⟩
    · exact ⟨hw, e2.trans e⟩
    · cases z
  · omega
theorem o155 {x : Int32} {w : mX} {σ σ' : mS} (hx : x.toInt = 2) (p : P155 σ x w σ') : w = .inr 0 ∧ σ' = σ := by
  obtain ⟨v1, σ2, _, p1, hh⟩ := p
  obtain ⟨e, ⟨_, ev⟩ | ⟨a, _⟩⟩ := p52 p1
  · rw [ev] at hh
    rcases hh with ⟨_, hw, e2⟩ | ⟨q, z, _⟩
    · exact ⟨hw, e2.trans e⟩
    · cases z
  · omega
theorem a189 {n : Int} {N c : Nat} {k : Kt} {x2 x3 : Int32} {w : mX} {σ σ' : mS} (h : S n N c k σ) (hc : c ≤ 900000) (hk : k.1 < 200) (l : LI N k (tc σ) 0 σ) (b2 : 0 ≤ x2.toInt) (p : P189 σ x2 x3 w σ') : RES n N c k w σ' := by
  have z0 := i_0
  have z1 := i_1
  obtain ⟨n2, e2, hh⟩ := p
  rcases hh with ⟨_, ⟨_, ⟨_, hh⟩ | ⟨_, hh⟩⟩ | ⟨_, v34, σ35, gf, hl, p172, hh⟩⟩ | ⟨_, v39, σ40, gf, hl, p172, hh⟩
  · -- read, then wrong
    rcases hh with ⟨v9, σ10, gf, p153, hh⟩ | ⟨b, gf, p153, _⟩
    · obtain ⟨s1, l1, v, e, hv, _, _⟩ := a153 h (by omega) (by omega) z1 l gf p153
      cases e
      rcases hh with ⟨a, _⟩ | ⟨_, ⟨v14, σ15, gf2, p156, hh⟩ | ⟨b, gf2, p156, _⟩⟩
      · have : (v9.toInt < -2) := a
        omega
      · obtain ⟨v, e, p87, F⟩ := a156 s1.1.1 z1 p156
        cases e
        have r := r87 (y87 s1.1.1 p87)
        have hs := HS_w s1.1.1 F (by decide)
        obtain ⟨i1, i2⟩ := rd_keep (k' := (k.1 + 1, k.2)) s1 l1 gf2 F hs rfl rfl
        rcases hh with ⟨a, _⟩ | ⟨_, hw, e⟩
        · omega
        · subst e
          rw [hw]
          exact RES_D i1 (FY_fw s1.2 F rfl) i2 (Nat.le_succ _) (Nat.le_refl _) ok1
      · obtain ⟨v, e, _⟩ := a156 s1.1.1 z1 p156
        cases e
    · obtain ⟨_, _, v, e, _⟩ := a153 h (by omega) (by omega) z1 l gf p153
      cases e
  · -- copy, wrong, read
    rcases hh with ⟨v19, σ20, gf, p155, hh⟩ | ⟨b, gf, p155, _⟩
    · obtain ⟨s1, l1, v, e, hv, w0', w1'⟩ := a155 h (by omega) z1 l gf p155
      cases e
      rcases hh with ⟨a, _⟩ | ⟨_, ⟨v24, σ25, gf2, p156, hh⟩ | ⟨b, gf2, p156, _⟩⟩
      · omega
      · obtain ⟨v, e, p87, F⟩ := a156 s1.1.1 z1 p156
        cases e
        obtain ⟨e1, e2⟩ := w0' _ _ p87
        subst e2
        rcases hh with ⟨a, _⟩ | ⟨_, ⟨v29, σ30, gf3, p153, hh⟩ | ⟨b, gf3, p153, _⟩⟩
        · rw [e1] at a
          exact absurd z0 a
        · obtain ⟨s2, l2, v, e, hv2, F2, p55⟩ := a153 s1 (by omega) (by omega) z1 l1 gf3 p153
          cases e
          obtain ⟨e3, e4⟩ := w1' _ _ p55
          rcases hh with ⟨a, _⟩ | ⟨_, hw, e⟩
          · rw [e3] at a
            exact absurd (by decide) a
          · subst e
            rw [hw]
            exact RES_D s2.1 s2.2 l2 (Nat.le_succ _) (Nat.le_refl _) ok1
        · obtain ⟨_, _, v, e, _⟩ := a153 s1 (by omega) (by omega) z1 l1 gf3 p153
          cases e
      · obtain ⟨v, e, _⟩ := a156 s1.1.1 z1 p156
        cases e
    · obtain ⟨_, _, v, e, _⟩ := a155 h (by omega) z1 l gf p155
      cases e
  · -- lose
    obtain ⟨y, p154, _, _, ev⟩ := d172_15 (by decide) p172
    obtain ⟨s1, l1, o⟩ := a154 h hc z1 l gf p154
    have vb : -1000000000 ≤ v34.toInt := by
      rw [ev]
      rcases o with o | ⟨v, o, hv⟩
      · rw [o]
        show -1000000000 ≤ (hv 2).toInt
        rw [hv2]
        decide
      · rw [o]
        show _ ≤ v.toInt64.toInt
        rw [i64]
        omega
    rcases hh with ⟨a, _⟩ | ⟨_, hw, e⟩
    · rw [litC] at a
      omega
    · subst e
      rw [hw]
      exact RES_D s1.1 s1.2 l1 (Nat.le_refl _) (Nat.le_succ _) ok1
  · -- no such reader
    obtain ⟨y, q1, _, _, ev⟩ := d172_14 (by decide) p172
    obtain ⟨ey, e⟩ := o153 i_2 q1
    subst e
    rcases hh with ⟨a, _⟩ | ⟨_, v44, σ45, gf2, hl2, p172', hh⟩
    · rw [ev, ey, litA] at a
      exact absurd hv0 a
    · obtain ⟨y', q2, _, _, ev'⟩ := d172_15 (by decide) p172'
      obtain ⟨ey', e⟩ := o154 i_2 q2
      subst e
      rcases hh with ⟨a, _⟩ | ⟨_, v49, σ50, gf3, hl3, p172'', hh⟩
      · rw [ev', ey', litA] at a
        exact absurd hv0 a
      · obtain ⟨y'', q3, _, _, ev''⟩ := d172_16 (by decide) p172''
        obtain ⟨ey'', e⟩ := o155 i_2 q3
        subst e
        rcases hh with ⟨a, _⟩ | ⟨_, hw, e⟩
        · rw [ev'', ey'', litA] at a
          exact absurd hv0 a
        · subst e
          rw [hw]
          exact RES_S h l ok1
