/-! the law: a member's worth and margin -/
/-- a part of a scenario's sum -/
def tS (σ : mS) (m s j : Nat) : Int64 := ((m_l σ 14 m j * (m_i σ 8 j 2).toInt64) * (m_i σ 13 s j).toInt64) / Int64.ofInt 100
def pS' (σ : mS) (m s : Nat) : Nat → Int64
  | 0 => Int64.ofNat 0
  | j + 1 => pS' σ m s j + tS σ m s j
/-- the margin by the first scenarios -/
def mG (σ : mS) (m : Nat) : Nat → Int64
  | 0 => Int64.ofNat 0
  | s + 1 => lmax (mG σ m s) (-(pS' σ m s 3))
def wS (σ : mS) (m : Nat) : Nat → Int64
  | 0 => m_l σ 6 m 2 + m_l σ 6 m 3
  | j + 1 => wS σ m j + m_l σ 14 m j * (m_i σ 8 j 2).toInt64
theorem q41_s {σ : mS} {m s : Nat} (hs : HS σ) (hm : m < 6) (h4 : s < 4) : ∀ n (u3 : Int64) (u5 : Int32) (w : Int64), Q41_5 σ (some (6, m)) s n u3 u5 w → 0 ≤ u5.toInt → u5.toInt ≤ 3 → u3 = pS' σ m s u5.toNatClampNeg → w = -(pS' σ m s 3) := by
  have ln : σ.2.1 13 s = 3 := hs.2.2.1.2.2.2.2.2.2.2.2.1 s h4
  intro n
  induction n with
  | zero => intro u3 u5 w q; exact q.elim
  | succ n IH =>
    intro u3 u5 w qq p0 p3 hu
    replace qq : B41_5 σ (some (6, m)) s (Q41_5 σ (some (6, m)) s n) u3 u5 w := qq
    have nn := i_nat p0
    have inc : (u5 + Int32.ofInt 1).toInt = u5.toInt + 1 := i_inc p0 (by omega)
    have ni : (u5 + Int32.ofInt 1).toNatClampNeg = u5.toNatClampNeg + 1 := by have := i_nat (a := u5 + Int32.ofInt 1) (by omega); omega
    rw [B41_5, ln] at qq
    have l3 : (Int32.ofNat 3).toInt = 3 := by decide
    rw [l3] at qq
    rcases qq with ⟨a, rfl⟩ | ⟨a, ⟨b, rfl⟩ | ⟨b, i3, e3, v5, q5, _, _, n12, e12, q⟩⟩
    · rw [hu, show u5.toNatClampNeg = 3 by omega]
    · omega
    · cases e3
      have e5 := p90 hs hm ⟨p0, by omega⟩ q5
      subst e5
      refine IH _ _ _ q (by omega) (by omega) ?_
      rw [ni, e12, hu]
      rfl
theorem p41 {σ : mS} {m s : Nat} {w : Int64} (hs : HS σ) (hm : m < 6) (h4 : s < 4) (p : P41 σ (some (6, m)) s w) : w = -(pS' σ m s 3) := by
  obtain ⟨n, q⟩ := p
  exact q41_s hs hm h4 n _ _ _ q (by rw [i_0]; decide) (by rw [i_0]; decide) (by rw [n_0]; rfl)
theorem q40_s {σ : mS} {m sc : Nat} (hs : HS σ) (hm : m < 6) (hsc : (m_i σ 2 0 6).toInt = sc) (h4 : sc ≤ 4) : ∀ n (u2 : Int64) (u4 : Int32) (w : Int64), Q40_5 σ (some (6, m)) n u2 u4 w → 0 ≤ u4.toInt → u4.toInt ≤ sc → u2 = mG σ m u4.toNatClampNeg → w = mG σ m sc := by
  intro n
  induction n with
  | zero => intro u2 u4 w q; exact q.elim
  | succ n IH =>
    intro u2 u4 w qq p0 p3 hu
    replace qq : B40_5 σ (some (6, m)) (Q40_5 σ (some (6, m)) n) u2 u4 w := qq
    have nn := i_nat p0
    have inc : (u4 + Int32.ofInt 1).toInt = u4.toInt + 1 := i_inc p0 (by omega)
    have ni : (u4 + Int32.ofInt 1).toNatClampNeg = u4.toNatClampNeg + 1 := by have := i_nat (a := u4 + Int32.ofInt 1) (by omega); omega
    rw [B40_5, hsc] at qq
    rcases qq with ⟨a, rfl⟩ | ⟨a, ⟨b, rfl⟩ | ⟨b, _, v4, q4, q⟩⟩
    · rw [hu, show u4.toNatClampNeg = sc by omega]
    · rw [hu, show u4.toNatClampNeg = sc by omega]
    · have e4 := p41 hs hm (by omega) q4
      subst e4
      refine IH _ _ _ q (by omega) (by omega) ?_
      rw [ni, hu]
      rfl
theorem a147 {n : Int} {N sc : Nat} {x : Int32} {w : mX} {σ σ' : mS} (h : HI n N σ) (hx : mb x) (hsc : (m_i σ 2 0 6).toInt = sc) (p : P147 σ x w σ') : w = .inl (some (.inr (.inl (mG σ (x.toNatClampNeg + 1) sc)))) := by
  have n1 := i_nat hx.1
  have h4 := h.2.2.2.2.2.2
  obtain ⟨v1, p1, hh⟩ := p
  rcases p22' p1 with ⟨e1, b1⟩ | ⟨e1, b1⟩
  · exact absurd hx b1
  rw [e1] at hh
  rcases hh with ⟨z, _⟩ | ⟨q, eq, v9, ⟨m, q9⟩, hw, _⟩
  · cases z
  cases eq
  have := q40_s h.1 (by have := hx.2; omega) hsc (by omega) m _ _ _ q9 (by rw [i_0]; decide) (by rw [i_0]; omega) (by rw [n_0]; rfl)
  rw [hw, this]
theorem q39_s {σ : mS} {m : Nat} (hs : HS σ) (hm : m < 6) : ∀ n (u2 : Int64) (u6 : Int32) (w : Int64), Q39_24 σ m (Int32.ofInt 3) n u2 u6 w → 0 ≤ u6.toInt → u6.toInt ≤ 3 → u2 = wS σ m u6.toNatClampNeg → w = wS σ m 3 := by
  have i3 := i_3
  intro n
  induction n with
  | zero => intro u2 u6 w q; exact q.elim
  | succ n IH =>
    intro u2 u6 w qq p0 p3 hu
    replace qq : B39_24 σ m (Int32.ofInt 3) (Q39_24 σ m (Int32.ofInt 3) n) u2 u6 w := qq
    have nn := i_nat p0
    have inc : (u6 + Int32.ofInt 1).toInt = u6.toInt + 1 := i_inc p0 (by omega)
    have ni : (u6 + Int32.ofInt 1).toNatClampNeg = u6.toNatClampNeg + 1 := by have := i_nat (a := u6 + Int32.ofInt 1) (by omega); omega
    rcases qq with ⟨a, rfl⟩ | ⟨a, _, v3, q3, n7, e7, q⟩
    · rw [hu, show u6.toNatClampNeg = 3 by omega]
    · have num : m_i σ 8 u6.toNatClampNeg 0 = u6 := by
        rw [pn hs (by omega)]
        exact Int32.toInt_inj.mp (by rw [i_ofNat (by omega)]; exact nn)
      rw [num] at q3
      have e3 := p90 hs hm ⟨p0, by omega⟩ q3
      subst e3
      refine IH _ _ _ q (by omega) (by omega) ?_
      rw [ni, e7, hu]
      rfl
theorem a148 {n : Int} {N : Nat} {x : Int32} {w : mX} {σ σ' : mS} (h : HI n N σ) (hx : mb x) (p : P148 σ x w σ') : w = .inl (some (.inr (.inl (wS σ (x.toNatClampNeg + 1) 3)))) := by
  have n1 := i_nat hx.1
  obtain ⟨v1, p1, hh⟩ := p
  rcases p22' p1 with ⟨e1, b1⟩ | ⟨e1, b1⟩
  · exact absurd hx b1
  rw [e1] at hh
  rcases hh with ⟨z, _⟩ | ⟨q, eq, v9, ⟨i, ei, n3, en, m, q9⟩, hw, _⟩
  · cases z
  cases eq
  cases ei
  have := q39_s h.1 (by have := hx.2; omega) m _ _ _ q9 (by rw [i_0]; decide) (by rw [i_0]; decide) (by rw [n_0, en]; rfl)
  rw [hw, this]
theorem s178_256 {u3 u8 : Int32} {m : Nat} {w : mX} {σ σ' : mS} (hx3 : mb u3) (em : hx u3 = m) (h8 : (u8 - u8 / Int32.ofInt 10 * Int32.ofInt 10).toInt = 3 → (m_l σ 6 m 3).toInt = 0) (b8 : (u8 - u8 / Int32.ofInt 10 * Int32.ofInt 10).toInt ≤ 3) (p : J178_256 u3 u8 σ w σ') : OKw w ∧ σ' = σ := by
  have z0 : (Int64.ofNat 0).toInt = 0 := by decide
  rcases p with ⟨_, hw, e⟩ | ⟨a, p⟩
  · exact ⟨by rw [hw]; exact ok1, e⟩
  · replace p := m145 (i := m) (j := 3) ⟨by have := hx3.1; omega, hx3.2⟩ b31' em (by decide) p
    rw [z0] at p
    rcases p with ⟨x, _⟩ | ⟨_, hw, e⟩
    · exact absurd (h8 (by omega)) x
    · exact ⟨by rw [hw]; exact ok1, e⟩
theorem sM_v {n : Int} {N m : Nat} {σ : mS} (h : HI n N σ) (m1 : 1 ≤ m) (m6 : m < 6) : 0 ≤ sM σ m ∧ sM σ m ≤ 3 ∧ (1 < sM σ m → ∀ j, j < 3 → pI σ m j = 0) ∧ (sM σ m = 3 → (m_l σ 6 m 3).toInt = 0) := by
  obtain ⟨_, f9, f10, _, _, fp, fd⟩ := h.2.2.2.1.2.2.2.1 m m1 m6
  unfold sM
  refine ⟨by split <;> split <;> omega, by split <;> split <;> omega, fun z => ?_, fun z => ?_⟩
  · rcases f9 with f | f
    · rw [if_pos f] at z
      split at z <;> omega
    · exact fp f
  · rcases f10 with f | f
    · split at z
      · split at z <;> omega
      · omega
    · exact fd f
theorem s178_169 {n : Int} {N c sc : Nat} {k : Kt} {u3 u8 t0 : Int32} {u4 u6 : Int64} {w : mX} {σ σ' : mS} (h : S n N c k σ) (hx3 : mb u3) (hsc : (m_i σ 2 0 6).toInt = sc) (e4 : u4 = wS σ (u3.toNatClampNeg + 1) 3) (e6 : u6 = mG σ (u3.toNatClampNeg + 1) sc) (b8 : 0 ≤ u8.toInt) (e8 : (u8 - u8 / Int32.ofInt 10 * Int32.ofInt 10).toInt = sM σ (u3.toNatClampNeg + 1)) (ht : t0.toInt ≠ 0 → 1 < sM σ (u3.toNatClampNeg + 1)) (p : J178_169 u3 u4 u6 u8 t0 σ w σ') : OKw w ∧ σ' = σ := by
  have z0 : (Int64.ofNat 0).toInt = 0 := by decide
  have n1 := i_nat hx3.1
  have m3 : mh u3 := ⟨by have := hx3.1; omega, hx3.2⟩
  have em : hx u3 = u3.toNatClampNeg + 1 := hxb hx3.1
  obtain ⟨s0, s3, sp, sd'⟩ := sM_v h.1 (m := u3.toNatClampNeg + 1) (by omega) (by have := hx3.2; omega)
  have f4 := (h.1.2.2.2.1.2.2.2.2.2.2.2.2.2.2.1 (u3.toNatClampNeg + 1) (by have := hx3.2; omega)).1
  have fin : J178_256 u3 u8 σ w σ' → OKw w ∧ σ' = σ := fun q => s178_256 hx3 em (fun z => sd' (by omega)) (by omega) q
  rcases p with ⟨v1, q1, p⟩ | ⟨b, q1, _⟩
  · have e1 := a148 h.1 hx3 q1
    cases e1
    rcases p with ⟨x, _⟩ | ⟨_, ⟨v6, q6, p⟩ | ⟨b, q6, _⟩⟩
    · rw [e4] at x
      exact absurd rfl x
    · have e2 := a147 h.1 hx3 hsc q6
      cases e2
      rcases p with ⟨x, _⟩ | ⟨_, ⟨x, _⟩ | ⟨_, ⟨x, _⟩ | ⟨_, p⟩⟩⟩
      · rw [e6] at x
        exact absurd rfl x
      · omega
      · omega
      · replace p := m145 (i := u3.toNatClampNeg + 1) (j := 4) m3 b32' em (by decide) p
        rw [z0] at p
        rcases p with ⟨x, _⟩ | ⟨_, ⟨_, q⟩ | ⟨t, p⟩⟩
        · omega
        · exact fin q
        · have sp := sp (ht t)
          replace p := m144 (i := u3.toNatClampNeg + 1) (j := 0) h.1 m3 ik0 em (by decide) p
          rcases p with ⟨x, _⟩ | ⟨_, p⟩
          · exact absurd (sp 0 (by decide)) x
          replace p := m144 (i := u3.toNatClampNeg + 1) (j := 1) h.1 m3 ik1 em (by decide) p
          rcases p with ⟨x, _⟩ | ⟨_, p⟩
          · exact absurd (sp 1 (by decide)) x
          replace p := m144 (i := u3.toNatClampNeg + 1) (j := 2) h.1 m3 ik2 em (by decide) p
          rcases p with ⟨x, _⟩ | ⟨_, q⟩
          · exact absurd (sp 2 (by decide)) x
          exact fin q
    · have e2 := a147 h.1 hx3 hsc q6
      cases e2
  · have e1 := a148 h.1 hx3 q1
    cases e1
theorem r178_59 {n : Int} {N c sc : Nat} {k : Kt} {c1 : Int32} {c2 : Int64} {σ : mS} (h : S n N c k σ) (l : LI N k (tc σ) 0 σ) (h1 : mb c1) (hsc : (m_i σ 2 0 6).toInt = sc) (e2 : c2 = wS σ (c1.toNatClampNeg + 1) 3) : ∀ m (u6 : Int64) (u8 : Int32) (w : mX) (σ' : mS), Q178_59 c1 c2 m u6 u8 σ w σ' → 0 ≤ u8.toInt → u8.toInt ≤ sc → u6 = mG σ (c1.toNatClampNeg + 1) u8.toNatClampNeg → OKw w ∧ σ' = σ := by
  have i0 := i_0
  have i1 := i_1
  have h4 := h.1.2.2.2.2.2.2
  have m3 : mh c1 := ⟨by have := h1.1; omega, h1.2⟩
  have em : hx c1 = c1.toNatClampNeg + 1 := hxb h1.1
  have g1 := l.g1
  intro m
  induction m with
  | zero => intro u6 u8 w σ' q; exact q.elim
  | succ m IH =>
    intro u6 u8 w σ' qq p0 p1 hu
    replace qq : B178_59 c1 c2 (Q178_59 c1 c2 m) u6 u8 σ w σ' := qq
    obtain ⟨_, qq⟩ := qq
    rw [n_1, g1, hsc] at qq
    have nn := i_nat p0
    rcases qq with ⟨a, p⟩ | ⟨a, p⟩
    · have eN : u8.toNatClampNeg = sc := by omega
      rw [eN] at hu
      obtain ⟨v3, e3, b3', p⟩ := m149 h.1 h1 p
      have s := sM_v h.1 (m := c1.toNatClampNeg + 1) (by omega) (by have := i_nat h1.1; have := h1.2; omega)
      rcases p with ⟨x, q⟩ | ⟨x, q⟩
      · exact s178_169 h h1 hsc e2 hu b3' e3 (fun z => absurd i0 z) q
      · exact s178_169 h h1 hsc e2 hu b3' e3 (fun _ => by omega) q
    · have inc : (u8 + Int32.ofInt 1).toInt = u8.toInt + 1 := i_inc p0 (by omega)
      have ni : (u8 + Int32.ofInt 1).toNatClampNeg = u8.toNatClampNeg + 1 := by have := i_nat (a := u8 + Int32.ofInt 1) (by omega); omega
      have m3' : (Int32.ofInt 3 * u8).toInt = 3 * u8.toInt := by rw [i_mul (by rw [i_3]; omega) (by rw [i_3]; omega), i_3]
      have ix : ∀ (j : Nat) (x : Int32), x.toInt = j → j < 3 → (Int32.ofInt 3 * u8 + x).toNatClampNeg = 3 * u8.toNatClampNeg + j := fun j x hx hj => by
        have e : (Int32.ofInt 3 * u8 + x).toInt = 3 * u8.toInt + j := by rw [i_add (by rw [m3']; omega) (by rw [m3']; omega), m3', hx]
        have := i_nat (a := Int32.ofInt 3 * u8 + x) (by omega)
        omega
      have row : ∀ j, j < 3 → m_i σ 13 16 (3 * u8.toNatClampNeg + j) = m_i σ 13 u8.toNatClampNeg j := fun j hj => (l.rows u8.toNatClampNeg j (by omega) hj).trans (FY_rw h.2 _ _ (by omega)).symm
      rw [ix 0 _ i_0 (by decide), ix 1 _ i_1 (by decide), ix 2 _ i_2 (by decide), row 0 (by decide), row 1 (by decide), row 2 (by decide)] at p
      replace p := m144 (i := c1.toNatClampNeg + 1) (j := 0) h.1 m3 ik0 em (by decide) p
      obtain ⟨v14, e14, _, n21, e21, p⟩ := m140 (j := 0) h.1 ik0 (by decide) p
      replace p := m144 (i := c1.toNatClampNeg + 1) (j := 1) h.1 m3 ik1 em (by decide) p
      obtain ⟨v28, e28, _, n35, e35, p⟩ := m140 (j := 1) h.1 ik1 (by decide) p
      replace p := m144 (i := c1.toNatClampNeg + 1) (j := 2) h.1 m3 ik2 em (by decide) p
      obtain ⟨v42, e42, _, n49, e49, p⟩ := m140 (j := 2) h.1 ik2 (by decide) p
      have es : n49 = pS' σ (c1.toNatClampNeg + 1) u8.toNatClampNeg 3 := by
        rw [e49, e35, e21, e14, e28, e42]
        rfl
      have mg : mG σ (c1.toNatClampNeg + 1) (u8.toNatClampNeg + 1) = lmax u6 (-n49) := by
        rw [hu, es]
        rfl
      rcases p with ⟨x, q⟩ | ⟨x, q⟩
      · refine IH _ _ _ _ q (by omega) (by omega) ?_
        rw [ni, mg]
        unfold lmax
        by_cases y : -n49 < u6
        · rw [if_pos y]
        · rw [if_neg y]
          have : ¬ (-n49).toInt < u6.toInt := fun z => y (Int64.lt_iff_toInt_lt.mpr z)
          exact Int64.toInt_inj.mp (by omega)
      · refine IH _ _ _ _ q (by omega) (by omega) ?_
        rw [ni, mg]
        unfold lmax
        rw [if_neg (fun z => by have := Int64.lt_iff_toInt_lt.mp z; omega)]
theorem a178 {n : Int} {N c : Nat} {k : Kt} {x4 : Int32} {w : mX} {σ σ' : mS} (h : S n N c k σ) (l : LI N k (tc σ) 0 σ) (hx4 : mb x4) (p : P178 σ x4 w σ') : OKw w ∧ σ' = σ := by
  have m3 : mh x4 := ⟨by have := hx4.1; omega, hx4.2⟩
  have em : hx x4 = x4.toNatClampNeg + 1 := hxb hx4.1
  have h6 := h.1.2.2.2.2.2.1
  have nn := i_nat h6
  unfold P178 at p
  replace p := m145 (i := x4.toNatClampNeg + 1) (j := 2) m3 b30' em (by decide) p
  replace p := m145 (i := x4.toNatClampNeg + 1) (j := 3) m3 b31' em (by decide) p
  replace p := m144 (i := x4.toNatClampNeg + 1) (j := 0) h.1 m3 ik0 em (by decide) p
  obtain ⟨v14, e14, n19, e19, p⟩ := m140 (j := 0) h.1 ik0 (by decide) p
  replace p := m144 (i := x4.toNatClampNeg + 1) (j := 1) h.1 m3 ik1 em (by decide) p
  obtain ⟨v26, e26, n31, e31, p⟩ := m140 (j := 1) h.1 ik1 (by decide) p
  replace p := m144 (i := x4.toNatClampNeg + 1) (j := 2) h.1 m3 ik2 em (by decide) p
  obtain ⟨v38, e38, n43, e43, m, q⟩ := m140 (j := 2) h.1 ik2 (by decide) p
  refine r178_59 (sc := (m_i σ 2 0 6).toNatClampNeg) h l hx4 nn.symm ?_ m _ _ _ _ q (by rw [i_0]; decide) (by rw [i_0]; omega) (by rw [n_0]; rfl)
  rw [e43, e31, e19, e14, e26, e38]
  rfl
