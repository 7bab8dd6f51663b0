/-! the law's loop: time passes -/
theorem n_4' : (Int32.ofInt 4).toNatClampNeg = 4 := by decide
/-- g[4] is told -/
theorem LI.w4 {N : Nat} {k : Kt} {T : Int} {d : Int64} {σ : mS} {v : Int32} (h : LI N k T d σ) (b : 0 ≤ v.toInt ∧ v.toInt ≤ nF σ) : LI N k T d (m_set σ 13 17 4 (.inl v)) := by
  refine ⟨?_, ?_, ?_, ?_, ?_, ?_, ?_, ?_, ?_, ?_, ?_, ?_, ?_⟩
  · exact h.gh
  · rw [mi_si, if_neg (fun z => by omega)]; exact h.n0
  · exact h.n60
  · intro o ho
    have e : ∀ c a b, (c, a) ≠ (13, 17) → m_i (m_set σ 13 17 4 (.inl v)) c a b = m_i σ c a b := fun c a b hc => by rw [mi_si, if_neg (fun z => hc (by rw [z.1, z.2.1]))]
    show (m_i _ 13 14 o).toInt = (m_i _ 7 o 4).toInt ∧ (m_i _ 13 15 o).toInt = (m_i _ 7 o 1).toInt + 10 * (m_i _ 7 o 2).toInt + 100 * (m_i _ 7 o 3).toInt
    rw [e 13 14 o (fun z => by cases z), e 13 15 o (fun z => by cases z), e 7 o 4 (fun z => by cases z), e 7 o 1 (fun z => by cases z), e 7 o 2 (fun z => by cases z), e 7 o 3 (fun z => by cases z)]
    exact h.ord o ho
  · rw [mi_si, if_neg (fun z => by omega)]; exact h.t3
  · rw [mi_si, if_pos ⟨rfl, rfl, rfl⟩]
    exact b
  · exact fun i hi => by rw [mi_si, if_neg (fun z => by omega)]; exact h.sp i hi
  · exact h.mon
  · exact h.pos
  · exact h.b60
  · rw [mi_si, if_neg (fun z => by omega)]; exact h.g1
  · exact fun s j hs hj => by rw [mi_si, if_neg (fun z => by omega)]; exact h.rows s j hs hj
  · intro o ho
    show (m_i _ 7 o 9).toInt ≤ 2
    rw [mi_si, if_neg (fun z => by cases z.1)]
    exact h.st2 o ho
theorem tc_13 {σ : mS} {i k : Nat} {v : Int32} : tc (m_set σ 13 i k (.inl v)) = tc σ := by
  show (m_i _ 2 0 5).toInt = _
  rw [mi_si, if_neg (fun z => by cases z.1)]
def PK (IV : mS → Prop) (t : Int) (u13 : Int64) (τ : mS) : Prop := ∃ (n : Int) (N c : Nat) (k : Kt), D n N c k τ ∧ LI N k (tc τ) 0 τ ∧ IV τ ∧ n ≤ 3 + 2 * t ∧ (c : Int) ≤ 240 * t ∧ (k.1 : Int) ≤ t + 1 ∧ 0 ≤ u13.toInt ∧ u13.toInt ≤ nF τ
def Z690 (IV : mS → Prop) (G : Prop) (u7 u8 u11 u12 : Int32) (u13 : Int64) (τ : mS) : Prop := u7.toInt ≠ 0 → tr u8 → 0 ≤ u11.toInt → ((u12.toInt ≤ 50 ∧ PK IV u8.toInt u13 τ) ∨ (50 < u12.toInt ∧ PS IV u8.toInt τ)) → G
def Z623 (IV : mS → Prop) (G : Prop) (u8 u11 u12 : Int32) (τ : mS) : Prop := tr u8 → 0 ≤ u11.toInt → ((1 ≤ u12.toInt ∧ u12.toInt ≤ 3) ∨ u12.toInt = 51) → PS IV u8.toInt τ → G
theorem nF_up {σ σ' : mS} (h : fl σ) (h' : fl σ') (e : ∀ i, mi6 σ i 9 = 1 → mi6 σ' i 9 = 1) : nF σ ≤ nF σ' := by
  have f : ∀ i, 1 ≤ i → i < 6 → mi6 σ i 9 ≤ mi6 σ' i 9 := by
    intro i h1 h6
    have a : mi6 σ i 9 = 0 ∨ mi6 σ i 9 = 1 := (h i h1 h6).2.1
    have b : mi6 σ' i 9 = 0 ∨ mi6 σ' i 9 = 1 := (h' i h1 h6).2.1
    have := e i
    omega
  have := f 1 (by decide) (by decide)
  have := f 2 (by decide) (by decide)
  have := f 3 (by decide) (by decide)
  have := f 4 (by decide) (by decide)
  have := f 5 (by decide) (by decide)
  unfold nF
  omega
theorem s690 {G : Prop} {IV : mS → Prop} (hI : IVc IV) {u7 u8 u11 u12 : Int32} {u13 : Int64} {τ : mS} {w : mX} {σ' : mS} (q : T690 (Z925 IV G) u7 u8 u11 u12 u13 τ w σ') : Z690 IV G u7 u8 u11 u12 u13 τ := by
  intro h7 h8 h11 p
  rcases q with ⟨a, σ, e, _, q⟩ | ⟨a, _, σ, e, _, q⟩
  · rcases p with ⟨_, n, N, c, k, h, l, iv, b1, b2, b3, v0, v1⟩ | ⟨z, _⟩
    rotate_left
    · omega
    have f5 := (nF_b h.1.2.2.2.1.2.2.2.1).2
    have ev : u13.toInt32.toInt = u13.toInt := by rw [Int64.toInt_toInt32]; exact bmod_id (by omega) (by omega)
    rw [n_4'] at e
    refine q h7 h8 h11 ⟨n, N, c, k, ?_, ?_, ?_, b1, b2, b3⟩
    · rw [e]; exact D_13 h (by decide)
    · rw [e, tc_13]; exact l.w4 (by rw [ev]; exact ⟨v0, v1⟩)
    · rw [e]; exact hI.2 _ _ _ _ (by decide) iv
  · rcases p with ⟨z, _⟩ | ⟨_, n, N, c, k, h, l, iv, b1, b2, b3⟩
    · omega
    rw [n_4'] at e
    refine q h7 h8 h11 ⟨n, N, c, k, ?_, ?_, ?_, by omega, b2, by omega⟩
    · rw [e]; exact D_13 (S_D h) (by decide)
    · rw [e, tc_13]; exact l.w4 l.g4
    · rw [e]; exact hI.2 _ _ _ _ (by decide) iv
theorem s623 {G : Prop} {IV : mS → Prop} (hI : IVc IV) {u8 u11 u12 : Int32} {τ : mS} {w : mX} {σ' : mS} (q : T623 (Z690 IV G) u8 u11 u12 τ w σ') : Z623 IV G u8 u11 u12 τ := by
  intro h8 h11 b12 p
  obtain ⟨n, N, c, k, h, l, iv, b1, b2, b3⟩ := p
  have hl : HL τ := ⟨h.1.1, l.gh⟩
  have c61 := h8.2
  obtain ⟨v1, σ2, g, _, r, p, q⟩ := q
  have iv2 : IV σ2 := hI.1 172 _ _ _ _ rfl rfl hl iv r
  obtain ⟨y, p150, _, _, ev⟩ := d172_11 (by decide) p
  rw [n_4'] at q
  have e6 : (Int64.ofInt 6).toInt = 6 := by decide
  have e1 := i_1
  rcases a150 h (by omega) (by omega) p150 with ⟨a, ey, e⟩ | ⟨a, v, ey, hD, m, e7, es, ep, e9, vn, F⟩
  · have v51 : u12.toInt = 51 := by omega
    rcases q with ⟨z, _⟩ | ⟨_, q⟩
    · omega
    have tv : v1.toInt = -2000000000 := by rw [ev, ey]; exact hv1
    rcases q with ⟨z, _⟩ | ⟨_, q⟩
    · exact absurd (tv.trans litB.symm) z
    · subst e
      exact q (by rw [e1]; decide) h8 h11 (Or.inr ⟨by omega, n, N, c, k, h, l, iv, b1, b2, b3⟩)
  · have up := nF_up h.1.2.2.2.1.2.2.2.1 hD.1.2.2.2.1.2.2.2.1 e9
    have b5 := nF_b hD.1.2.2.2.1.2.2.2.1
    have tv : v1.toInt = v.toInt := by rw [ev, ey]; exact l32 (by omega) (by omega)
    have et : tc σ2 = tc τ := congrArg Int32.toInt (F.2 2 0 5 rfl).1
    have l2 : LI N k (tc σ2) 0 σ2 := by
      rw [et]
      exact l.keep g (fun o k _ _ h4 => e7 o k (by omega)) (fun o ho => (m o ho).1) (fun i _ => ⟨(F.2 8 i 5 rfl).1, (F.2 8 i 6 rfl).1⟩) up (by rw [es]; exact l.mon) ep (F.2 2 0 6 rfl).1 h.1.2.2.1 (fun o ho => by rcases (m o ho).2 with z | z | z; exact Or.inl z; exact Or.inr (Or.inl z); exact Or.inr (Or.inr z.2))
    have g4 := l.g4
    have ge : m_i σ2 13 17 4 = m_i τ 13 17 4 := g.i (by omega) 4
    rcases q with ⟨z, _, q⟩ | ⟨z, _⟩
    rotate_left
    · omega
    rcases q with ⟨y, _⟩ | ⟨_, q⟩
    · rw [i64, ge] at y
      omega
    rcases q with ⟨y, _⟩ | ⟨_, q⟩
    · omega
    exact q (by rw [e1]; decide) h8 h11 (Or.inl ⟨z, n, N, c, k, hD, l2, iv2, by omega, b2, by omega, by omega, by omega⟩)
theorem s595 {G : Prop} {IV : mS → Prop} {u8 u9 u10 u11 : Int32} {τ : mS} {w : mX} {σ' : mS} (q : T595 (Z623 IV G) (Z214 IV G) u8 u9 u10 u11 τ w σ') : Z214 IV G u8 u9 u10 u11 τ := by
  intro h8 h9 h10 h11 p
  rcases q with ⟨_, q⟩ | ⟨_, q⟩
  · exact q h8 h9 h10 h11 p
  rcases q with ⟨_, n5, e5, q⟩ | ⟨_, q⟩
  · have v3 : (u10 - u10 / Int32.ofInt 3 * Int32.ofInt 3).toInt = u10.toInt % 3 := by rw [md32 h10.1 (by rw [i_3]; decide), i_3]
    have v5 : n5.toInt = 1 + u10.toInt % 3 := by rw [e5, i_add (by rw [v3, i_1]; omega) (by rw [v3, i_1]; omega), v3, i_1]
    exact q h8 h11.1 (Or.inl ⟨by omega, by omega⟩) p
  · exact q h8 h11.1 (Or.inr (by decide)) p
