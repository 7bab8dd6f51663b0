/-! the law's loop: a scenario -/
def scw (s : Nat) (x1 x2 x3 v : Int32) (τ : mS) : mS := m_set (m_set (m_set (m_set τ 13 16 (3 * s) (.inl x1)) 13 16 (3 * s + 1) (.inl x2)) 13 16 (3 * s + 2) (.inl x3)) 13 17 1 (.inl v)
theorem scw_ne {s a b c : Nat} {x1 x2 x3 v : Int32} {τ : mS} (h : ¬ (c = 13 ∧ (a = 16 ∨ a = 17))) : m_i (scw s x1 x2 x3 v τ) c a b = m_i τ c a b := by
  unfold scw
  rw [mi_si, if_neg (fun z => h ⟨z.1, Or.inr z.2.1⟩), mi_si, if_neg (fun z => h ⟨z.1, Or.inl z.2.1⟩), mi_si, if_neg (fun z => h ⟨z.1, Or.inl z.2.1⟩), mi_si, if_neg (fun z => h ⟨z.1, Or.inl z.2.1⟩)]
theorem scw_17 {s b : Nat} {x1 x2 x3 v : Int32} {τ : mS} (h : b ≠ 1) : m_i (scw s x1 x2 x3 v τ) 13 17 b = m_i τ 13 17 b := by
  unfold scw
  rw [mi_si, if_neg (fun z => h z.2.2), mi_si, if_neg (fun z => by omega), mi_si, if_neg (fun z => by omega), mi_si, if_neg (fun z => by omega)]
theorem scw_1 {s : Nat} {x1 x2 x3 v : Int32} {τ : mS} : m_i (scw s x1 x2 x3 v τ) 13 17 1 = v := by
  unfold scw
  rw [mi_si, if_pos ⟨rfl, rfl, rfl⟩]
theorem scw_16 {s b : Nat} {x1 x2 x3 v : Int32} {τ : mS} : m_i (scw s x1 x2 x3 v τ) 13 16 b = if b = 3 * s + 2 then x3 else if b = 3 * s + 1 then x2 else if b = 3 * s then x1 else m_i τ 13 16 b := by
  unfold scw
  rw [mi_si, if_neg (fun z => by omega), mi_si]
  by_cases c : b = 3 * s + 2
  · rw [if_pos ⟨rfl, rfl, c⟩, if_pos c]
  rw [if_neg (fun z => c z.2.2), if_neg c, mi_si]
  by_cases c : b = 3 * s + 1
  · rw [if_pos ⟨rfl, rfl, c⟩, if_pos c]
  rw [if_neg (fun z => c z.2.2), if_neg c, mi_si]
  by_cases c : b = 3 * s
  · rw [if_pos ⟨rfl, rfl, c⟩, if_pos c]
  rw [if_neg (fun z => c z.2.2), if_neg c]
theorem LI.sc {N s : Nat} {k k' : Kt} {T : Int} {σ τ : mS} {x1 x2 x3 v : Int32} (l : LI N k T 0 σ) (g : gF σ τ) (F : fw_e (wl ((2, 6) :: (13, 0) :: (8, 7) :: LD)) σ τ) (hs : (m_i σ 2 0 6).toInt = s) (s4 : s < 4) (h6 : (m_i τ 2 0 6).toInt = s + 1) (hk : ∀ i j, i < 4 → i ≠ s → k'.2 i j = k.2 i j) (hks : k'.2 s 0 = x1 ∧ k'.2 s 1 = x2 ∧ k'.2 s 2 = x3) (hv : v.toInt = s + 1) : LI N k' T 0 (scw s x1 x2 x3 v τ) := by
  have e7 : ∀ o k, k < 13 → m_i (scw s x1 x2 x3 v τ) 7 o k = m_i σ 7 o k := by
    intro o k hk
    rw [scw_ne (fun z => by cases z.1)]
    have q : ((List.range 13).all (fun k => fwh (wl ((2, 6) :: (13, 0) :: (8, 7) :: LD)) 7 k)) = true := rfl
    exact (F.2 7 o k (List.all_eq_true.mp q k (List.mem_range.mpr hk))).1
  refine ⟨?_, ?_, ?_, ?_, ?_, ?_, ?_, ?_, ?_, ?_, ?_, ?_, ?_⟩
  · exact g.1
  · rw [scw_17 (by decide), g.i (by omega)]; exact l.n0
  · exact l.n60
  · intro o ho
    rw [scw_ne (fun z => by omega), scw_ne (fun z => by omega), g.i (by omega), g.i (by omega)]
    unfold oi
    rw [e7 _ _ (by decide), e7 _ _ (by decide), e7 _ _ (by decide), e7 _ _ (by decide)]
    exact l.ord o ho
  · rw [scw_17 (by decide), g.i (by omega)]; exact l.t3
  · rw [scw_17 (by decide), g.i (by omega)]
    have : nF (scw s x1 x2 x3 v τ) = nF σ := nF_of (fun i => (scw_ne (fun z => by cases z.1)).trans (F.2 6 i 9 rfl).1)
    rw [this]
    exact l.g4
  · intro i hi
    rw [scw_17 (by omega), g.i (by omega)]
    unfold pv
    rw [scw_ne (fun z => by cases z.1), (F.2 8 i 5 rfl).1]
    exact l.sp i hi
  · have e1 : m_l (scw s x1 x2 x3 v τ) 14 6 0 = m_l τ 14 6 0 := rfl
    have e2 : sm (scw s x1 x2 x3 v τ) = sm τ := rfl
    rw [e1, e2, g.l, sm_fw F rfl]
    exact l.mon
  · intro j hj
    have e2 : ps (scw s x1 x2 x3 v τ) j = ps τ j := rfl
    rw [e2, ps_fw F rfl]
    exact l.pos j hj
  · intro o ho i hi
    unfold oi at hi ⊢
    unfold pv
    rw [e7 _ _ (by decide)] at hi
    rw [e7 _ _ (by decide), scw_ne (fun z => by cases z.1), (F.2 8 i 6 rfl).1]
    exact l.b60 o ho i hi
  · rw [scw_1, scw_ne (fun z => by cases z.1), hv, h6]
  · intro i j hi hj
    rw [scw_ne (fun z => by cases z.1), h6] at hi
    rw [scw_16]
    by_cases c : i = s
    · subst c
      have : j = 0 ∨ j = 1 ∨ j = 2 := by omega
      rcases this with rfl | rfl | rfl
      · rw [if_neg (by omega), if_neg (by omega), if_pos (by omega)]; exact hks.1.symm
      · rw [if_neg (by omega), if_pos (by omega)]; exact hks.2.1.symm
      · rw [if_pos (by omega)]; exact hks.2.2.symm
    · rw [if_neg (by omega), if_neg (by omega), if_neg (by omega), g.i (by omega), hk i j (by omega) c]
      exact l.rows i j (by omega) hj
  · intro o ho
    unfold oi
    rw [e7 _ _ (by decide)]
    exact l.st2 o ho
abbrev sx2 (u11 : Int32) : Int32 := u11 - u11 / Int32.ofInt 101 * Int32.ofInt 101 - Int32.ofInt 50
abbrev sx3 (u11 : Int32) : Int32 := u11 / Int32.ofInt 101 - u11 / Int32.ofInt 101 / Int32.ofInt 101 * Int32.ofInt 101 - Int32.ofInt 50
def PW (IV : mS → Prop) (t : Int) (u11 u12 : Int32) (u13 : Int64) (τ : mS) : Prop := ∃ (n : Int) (N c : Nat) (k : Kt) (s : Nat), D n N c k τ ∧ IV τ ∧ n ≤ 3 + 2 * t ∧ (c : Int) ≤ 240 * t ∧ (k.1 : Int) ≤ t + 1 ∧ s < 4 ∧ (m_i τ 13 17 1).toInt = s ∧ u13.toInt = s + 1 ∧ ∀ v : Int32, v.toInt = s + 1 → LI N k (tc τ) 0 (scw s u12 (sx2 u11) (sx3 u11) v τ)
def Z525 (IV : mS → Prop) (G : Prop) (u7 u8 u11 u12 : Int32) (u13 : Int64) (τ : mS) : Prop := u7.toInt ≠ 0 → tr u8 → 0 ≤ u11.toInt → ((u13.toInt ≤ 0 ∧ PS IV u8.toInt τ) ∨ PW IV u8.toInt u11 u12 u13 τ) → G
def Z480 (IV : mS → Prop) (G : Prop) (u8 u11 u12 : Int32) (u13 : Int64) (u15 : Int32) (τ : mS) : Prop := tr u8 → 0 ≤ u11.toInt → ((PS IV u8.toInt τ ∧ ((u15.toInt = 0 ∧ u13.toInt = -2000000000) ∨ (u15.toInt ≠ 0 ∧ (m_i τ 13 17 1).toInt = 4 ∧ u13.toInt = -1000000000))) ∨ (u15.toInt ≠ 0 ∧ PW IV u8.toInt u11 u12 u13 τ)) → G
theorem s525 {G : Prop} {IV : mS → Prop} (hI : IVc IV) {u7 u8 u11 u12 : Int32} {u13 : Int64} {τ : mS} {w : mX} {σ' : mS} (q : T525 (Z925 IV G) u7 u8 u11 u12 u13 τ w σ') : Z525 IV G u7 u8 u11 u12 u13 τ := by
  intro h7 h8 h11 p
  have o0 : (Int64.ofNat 0).toInt = 0 := by decide
  rcases q with ⟨a, q⟩ | ⟨a, _, σ4, e4, _, _, σ9, e9, _, _, σ15, e15, _, _, σ19, e19, _, q⟩
  · rcases p with ⟨_, n, N, c, k, h, l, iv, b1, b2, b3⟩ | ⟨_, _, _, _, s, _, _, _, _, _, _, _, z, _⟩
    · exact q h7 h8 h11 ⟨n, N, c, k, S_D h, l, iv, by omega, b2, by omega⟩
    · omega
  · rcases p with ⟨z, _⟩ | ⟨n, N, c, k, s, h, iv, b1, b2, b3, s4, g1, _, l⟩
    · omega
    rw [n_1] at e4 e9 e15 e19
    have i3 := i_3
    have i1 := i_1
    have i2 := i_2
    have m3 : (Int32.ofInt 3 * m_i τ 13 17 1).toInt = 3 * s := by rw [i_mul (by rw [i3, g1]; omega) (by rw [i3, g1]; omega), i3, g1]
    have m4 : (Int32.ofInt 3 * m_i τ 13 17 1 + Int32.ofInt 1).toInt = 3 * s + 1 := by rw [i_add (by rw [m3, i1]; omega) (by rw [m3, i1]; omega), m3, i1]
    have m5 : (Int32.ofInt 3 * m_i τ 13 17 1 + Int32.ofInt 2).toInt = 3 * s + 2 := by rw [i_add (by rw [m3, i2]; omega) (by rw [m3, i2]; omega), m3, i2]
    have c3 : (Int32.ofInt 3 * m_i τ 13 17 1).toNatClampNeg = 3 * s := by
      have := i_nat (a := Int32.ofInt 3 * m_i τ 13 17 1) (by omega)
      omega
    have c4 : (Int32.ofInt 3 * m_i τ 13 17 1 + Int32.ofInt 1).toNatClampNeg = 3 * s + 1 := by
      have := i_nat (a := Int32.ofInt 3 * m_i τ 13 17 1 + Int32.ofInt 1) (by omega)
      omega
    have c5 : (Int32.ofInt 3 * m_i τ 13 17 1 + Int32.ofInt 2).toNatClampNeg = 3 * s + 2 := by
      have := i_nat (a := Int32.ofInt 3 * m_i τ 13 17 1 + Int32.ofInt 2) (by omega)
      omega
    have f4 : m_i σ4 13 17 1 = m_i τ 13 17 1 := by rw [e4, mi_si, if_neg (fun z => by omega)]
    have f9 : m_i σ9 13 17 1 = m_i τ 13 17 1 := by rw [e9, mi_si, if_neg (fun z => by omega), f4]
    have f15 : m_i σ15 13 17 1 = m_i τ 13 17 1 := by rw [e15, mi_si, if_neg (fun z => by omega), f9]
    rw [c3] at e4
    rw [f4, c4] at e9
    rw [f9, c5] at e15
    rw [f15] at e19
    have vn : (m_i τ 13 17 1 + Int32.ofInt 1).toInt = s + 1 := by rw [i_inc (by omega) (by omega), g1]
    have l' := l _ vn
    have es : σ19 = scw s u12 (sx2 u11) (sx3 u11) (m_i τ 13 17 1 + Int32.ofInt 1) τ := by
      rw [e19, e15, e9, e4]
      rfl
    have et : tc σ19 = tc τ := by
      rw [e19, e15, e9, e4, tc_13, tc_13, tc_13, tc_13]
    refine q h7 h8 h11 ⟨n, N, c, k, ?_, ?_, ?_, b1, b2, b3⟩
    · rw [e19, e15, e9, e4]
      exact D_13 (D_13 (D_13 (D_13 h (by decide)) (by decide)) (by decide)) (by decide)
    · rw [et, es]
      exact l'
    · rw [e19, e15, e9, e4]
      exact hI.2 _ _ _ _ (by decide) (hI.2 _ _ _ _ (by decide) (hI.2 _ _ _ _ (by decide) (hI.2 _ _ _ _ (by decide) iv)))
theorem s480 {G : Prop} {IV : mS → Prop} {u8 u11 u12 u15 : Int32} {u13 : Int64} {τ : mS} {w : mX} {σ' : mS} (q : T480 (Z525 IV G) u8 u11 u12 u13 u15 τ w σ') : Z480 IV G u8 u11 u12 u13 u15 τ := by
  intro h8 h11 p
  have i1 : (Int32.ofInt 1).toInt ≠ 0 := by decide
  rcases q with ⟨a, _, q⟩ | ⟨a, q⟩
  · rw [n_1] at q
    rcases p with ⟨p, ⟨z, _⟩ | ⟨_, g1, v⟩⟩ | ⟨_, p⟩
    · exact absurd z a
    · rcases q with ⟨z, _⟩ | ⟨_, ⟨z, _⟩ | ⟨_, q⟩⟩
      · exact absurd g1 z
      · exact absurd (v.trans litC.symm) z
      · exact q i1 h8 h11 (Or.inl ⟨by omega, p⟩)
    · have p' := p
      obtain ⟨n, N, c, k, s, h, iv, b1, b2, b3, s4, g1, v, l⟩ := p'
      rcases q with ⟨_, _, ⟨z, _⟩ | ⟨_, q⟩⟩ | ⟨z, _⟩
      · rw [i64, i_inc (by omega) (by omega), g1] at z
        exact absurd v z
      · exact q i1 h8 h11 (Or.inr p)
      · omega
  · rcases p with ⟨p, ⟨_, v⟩ | ⟨z, _⟩⟩ | ⟨z, _⟩
    · rcases q with ⟨z, _⟩ | ⟨_, q⟩
      · exact absurd (v.trans litB.symm) z
      · exact q i1 h8 h11 (Or.inl ⟨by omega, p⟩)
    · exact absurd z a
    · exact absurd z a
theorem s409 {G : Prop} {IV : mS → Prop} (hI : IVc IV) {u8 u9 u10 u11 : Int32} {τ : mS} {w : mX} {σ' : mS} (q : T409 (Z480 IV G) (Z214 IV G) u8 u9 u10 u11 τ w σ') : Z214 IV G u8 u9 u10 u11 τ := by
  intro h8 h9 h10 h11 p
  rcases q with ⟨_, q⟩ | ⟨_, q⟩
  · exact q h8 h9 h10 h11 p
  obtain ⟨n, N, c, k, h, l, iv, b1, b2, b3⟩ := p
  have hl : HL τ := ⟨h.1.1, l.gh⟩
  have c61 := h8.2
  obtain ⟨n3, e3, v8, σ9, g, _, r, p, q⟩ := q
  have iv2 : IV σ9 := hI.1 172 _ _ _ _ rfl rfl hl iv r
  obtain ⟨y, p146, _, _, ev⟩ := d172_10 (by decide) p
  have j103 : (Int32.ofInt 103).toInt = 103 := by decide
  have j51 : (Int32.ofInt 51).toInt = 51 := by decide
  have j101 : (Int32.ofInt 101).toInt = 101 := by decide
  have j50 := i_50
  have m103 : (u10 - u10 / Int32.ofInt 103 * Int32.ofInt 103).toInt = u10.toInt % 103 := by rw [md32 h10.1 (by rw [j103]; decide), j103]
  have v3 : n3.toInt = u10.toInt % 103 - 51 := by rw [e3, i_sub (by rw [m103, j51]; omega) (by rw [m103, j51]; omega), m103, j51]
  have m101 : (u11 - u11 / Int32.ofInt 101 * Int32.ofInt 101).toInt = u11.toInt % 101 := by rw [md32 h11.1 (by rw [j101]; decide), j101]
  have d101 : (u11 / Int32.ofInt 101).toInt = u11.toInt / 101 := by rw [dv32 h11.1 (by rw [j101]; decide), j101]
  have x2 : pct (sx2 u11) := by
    have : (sx2 u11).toInt = u11.toInt % 101 - 50 := by rw [i_sub (by rw [m101, j50]; omega) (by rw [m101, j50]; omega), m101, j50]
    exact ⟨by omega, by omega⟩
  have m102 : (u11 / Int32.ofInt 101 - u11 / Int32.ofInt 101 / Int32.ofInt 101 * Int32.ofInt 101).toInt = u11.toInt / 101 % 101 := by rw [md32 (by rw [d101]; omega) (by rw [j101]; decide), j101, d101]
  have x3 : pct (sx3 u11) := by
    have : (sx3 u11).toInt = u11.toInt / 101 % 101 - 50 := by rw [i_sub (by rw [m102, j50]; omega) (by rw [m102, j50]; omega), m102, j50]
    exact ⟨by omega, by omega⟩
  have h6 := h.1.2.2.2.2.2.1
  have nn := i_nat h6
  have i0 := i_0
  have i1 : (Int32.ofInt 1).toInt ≠ 0 := by decide
  rcases a146 (s := (m_i τ 2 0 6).toNatClampNeg) h (by omega) nn.symm p146 with ⟨a, ey, e⟩ | ⟨a, s4, ey, e⟩ | ⟨a, s4, v, ey, vn, k', k1, hD, t6, hk, hks, F⟩
  · have z : n3.toInt ≤ -51 ∨ 51 ≤ n3.toInt := by
      have : ¬ pct n3 := fun z => a ⟨z, x2, x3⟩
      unfold pct at this
      omega
    have tv : v8.toInt = -2000000000 := by rw [ev, ey]; exact hv1
    subst e
    have P : PS IV u8.toInt σ9 := ⟨n, N, c, k, h, l, iv, b1, b2, b3⟩
    rcases q with ⟨_, q⟩ | ⟨_, ⟨_, q⟩ | ⟨_, q⟩⟩
    · exact q h8 h11.1 (Or.inl ⟨P, Or.inl ⟨i0, tv⟩⟩)
    · exact q h8 h11.1 (Or.inl ⟨P, Or.inl ⟨i0, tv⟩⟩)
    · omega
  · obtain ⟨z1, z2⟩ := a.1
    have tv : v8.toInt = -1000000000 := by rw [ev, ey]; exact hv2
    subst e
    have P : PS IV u8.toInt σ9 := ⟨n, N, c, k, h, l, iv, b1, b2, b3⟩
    have g1 := l.g1
    rcases q with ⟨_, q⟩ | ⟨_, ⟨_, q⟩ | ⟨_, q⟩⟩
    · omega
    · omega
    · exact q h8 h11.1 (Or.inl ⟨P, Or.inr ⟨i1, by omega, tv⟩⟩)
  · obtain ⟨z1, z2⟩ := a.1
    have tv : v8.toInt = v.toInt := by rw [ev, ey]; exact l32 (by omega) (by omega)
    have et : tc σ9 = tc τ := congrArg Int32.toInt (F.2 2 0 5 rfl).1
    have g1 := l.g1
    have gg : m_i σ9 13 17 1 = m_i τ 13 17 1 := g.i (by omega) 1
    have P : PW IV u8.toInt u11 n3 v8 σ9 := by
      refine ⟨n, N, c, k', (m_i τ 2 0 6).toNatClampNeg, hD, iv2, by omega, b2, by omega, s4, by rw [gg]; omega, by omega, fun v hv => ?_⟩
      rw [et]
      exact l.sc g F nn.symm s4 t6 hk hks hv
    rcases q with ⟨_, q⟩ | ⟨_, ⟨_, q⟩ | ⟨_, q⟩⟩
    · omega
    · omega
    · exact q h8 h11.1 (Or.inr ⟨i1, P⟩)
