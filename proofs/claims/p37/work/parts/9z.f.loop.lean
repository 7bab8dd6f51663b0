/-! the law's loop: what is held at its cuts -/
def gA (v : mV) : Bool := match v with
  | .inl _ => true
  | .inr (.inr (some (c, i))) => (Nat.beq c 13 && (Nat.ble 14 i && Nat.ble i 17)) || (Nat.beq c 14 && Nat.beq i 6)
  | _ => false
def lJ : List Nat := [153, 155, 156, 172, 177, 178, 179, 180, 181, 183, 184, 185, 186, 187, 188, 189]
/-- what is asked of an invariant that only replays know -/
def IVc (IV : mS → Prop) : Prop := (∀ j as σ x σ', lJ.any (Nat.beq j) = true → as.all gA = true → HL σ → IV σ → ev_run sm_all j (rf 11 0 :: as) σ x σ' → IV σ') ∧ (∀ σ i k v, (14 ≤ i ∧ i < 18) → IV σ → IV (m_set σ 13 i k (.inl v)))
def PS (IV : mS → Prop) (t : Int) (τ : mS) : Prop := ∃ (n : Int) (N c : Nat) (k : Kt), S n N c k τ ∧ LI N k (tc τ) 0 τ ∧ IV τ ∧ n ≤ 1 + 2 * t ∧ (c : Int) ≤ 240 * t ∧ (k.1 : Int) ≤ t
def PD (IV : mS → Prop) (t : Int) (τ : mS) : Prop := ∃ (n : Int) (N c : Nat) (k : Kt), D n N c k τ ∧ LI N k (tc τ) 0 τ ∧ IV τ ∧ n ≤ 3 + 2 * t ∧ (c : Int) ≤ 240 * t ∧ (k.1 : Int) ≤ t + 1
def PT (IV : mS → Prop) (t : Int) (τ : mS) : Prop := ∃ (n : Int) (N c : Nat) (k : Kt) (T : Int), D n N c k τ ∧ LI N k T 0 τ ∧ IV τ ∧ n ≤ 3 + 2 * t ∧ (c : Int) ≤ 240 * t ∧ (k.1 : Int) ≤ t + 1 ∧ 0 ≤ T ∧ T ≤ tc τ ∧ ∀ i : Nat, T ≤ i → (i : Int) < tc τ → ti τ i 9 = 0
def PR (IV : mS → Prop) (t : Int) (u12 u13 : Int32) (τ : mS) : Prop := ∃ (n : Int) (N c : Nat) (k : Kt), HI n N τ ∧ LI N k (tc τ) 0 τ ∧ IV τ ∧ n ≤ 3 + 2 * t ∧ (c : Int) ≤ 240 * t + 240 ∧ (k.1 : Int) ≤ t + 1 ∧ 0 ≤ u13.toInt ∧ ((u12.toInt = -1 ∧ FY τ c k) ∨ (u12.toInt = -2 ∧ FL τ c k) ∨ (0 ≤ u12.toInt ∧ ∃ x c0, FO τ c x c0 k ∧ c ≤ c0 + 240 ∧ (c : Int) - x ≤ 29 - u13.toInt))
def PE (IV : mS → Prop) (t : Int) (u12 : Int32) (τ : mS) : Prop := ∃ (n : Int) (N c : Nat) (k : Kt), HI n N τ ∧ LI N k (tc τ) 0 τ ∧ IV τ ∧ n ≤ 3 + 2 * t ∧ (c : Int) ≤ 240 * t + 240 ∧ (k.1 : Int) ≤ t + 1 ∧ ((u12.toInt ≠ -2 ∧ FY τ c k) ∨ (u12.toInt = -2 ∧ FL τ c k))
def tr (u8 : Int32) : Prop := 0 ≤ u8.toInt ∧ u8.toInt ≤ 61
def Z162 (IV : mS → Prop) (G : Prop) (u7 u8 : Int32) (τ : mS) : Prop := u7.toInt ≠ 0 → (0 ≤ u8.toInt ∧ u8.toInt ≤ 62) → PS IV u8.toInt τ → G
def Z925 (IV : mS → Prop) (G : Prop) (u7 u8 u11 : Int32) (τ : mS) : Prop := u7.toInt ≠ 0 → tr u8 → 0 ≤ u11.toInt → PD IV u8.toInt τ → G
def Z944 (IV : mS → Prop) (G : Prop) (u7 u8 u11 u12 u13 : Int32) (τ : mS) : Prop := u7.toInt ≠ 0 → tr u8 → 0 ≤ u11.toInt → PR IV u8.toInt u12 u13 τ → G
def Z977 (IV : mS → Prop) (G : Prop) (u7 u8 u11 u12 : Int32) (τ : mS) : Prop := u7.toInt ≠ 0 → tr u8 → 0 ≤ u11.toInt → PE IV u8.toInt u12 τ → G
def Z1091 (IV : mS → Prop) (G : Prop) (u7 : Int32) (τ : mS) : Prop := u7.toInt ≠ 0 → HL τ → IV τ → G
/-- readers only -/
theorem rk {n : Int} {N : Nat} {k k' : Kt} {L : Nat → Nat → Bool} {σ σ' : mS} (h : HI n N σ) (l : LI N k (tc σ) 0 σ) (g : gF σ σ') (F : fw_e L σ σ') (hs : HS σ') (q : ((((List.range 13).all (fun k => fwh L 7 k) && (fwh L 8 6 && (fwh L 0 1 && fwh L 6 9))) && ((((CL.all (fun q => fwh L q.1 q.2)) && fwh L 6 7)) && (fwh L 8 7 && fwh L 2 6))) && (((List.range 13).all (fun k => fwh L 7 k) && ((fwh L 8 5 && fwh L 8 6) && (fwh L 6 9 && fwh L 2 6))) && (((fwh L 6 2 && (fwh L 6 3 && fwh L 6 4)) && fwh L 14 0) && fwh L 2 5))) = true) (e : k'.2 = k.2) : HI n N σ' ∧ LI N k' (tc σ') 0 σ' := by
  obtain ⟨q1, q2⟩ := Bool.and_eq_true_iff.mp q
  obtain ⟨q3, q4⟩ := Bool.and_eq_true_iff.mp q2
  obtain ⟨q5, q6⟩ := Bool.and_eq_true_iff.mp q4
  obtain ⟨q7, q8⟩ := Bool.and_eq_true_iff.mp q5
  have t : tc σ' = tc σ := congrArg Int32.toInt (F.2 2 0 5 q6).1
  refine ⟨HI_fw h hs F q1, ?_⟩
  rw [t]
  refine LI.k (l.kq g F q3 ?_ (fun j => ps_fw F q8) h.2.2.1) (fun s j _ => by rw [e])
  rw [sm_fw F q7]
  exact l.mon
theorem p52_0 {σ σ' : mS} {w : mR} (p : P52 σ (Int32.ofInt 0) w σ') : σ' = σ ∧ w = some (9, 0) := by
  obtain ⟨e, ⟨a, _⟩ | ⟨_, ev⟩⟩ := p52 p
  · exact absurd ⟨by decide, by decide⟩ a
  · exact ⟨e, ev.trans (by rw [n_0])⟩
theorem hs90_0 {σ : mS} (hs : HS σ) : m_r σ 9 0 0 = some (5, 2) := by
  have e : (.inr (.inr (m_r σ 9 0 0)) : mV) = rf 5 (2 + 0) := hs.2.2.2.2.2.2.2.2.1 0 (by decide)
  have : (Sum.inr (Sum.inr (m_r σ 9 0 0)) : mV) = .inr (.inr (some (5, 2))) := e
  injection this with e1
  injection e1
/-- reader 0 reads -/
theorem r0_153 {n : Int} {N c x c0 : Nat} {k : Kt} {w : mX} {σ σ' : mS} (h : HI n N σ) (l : LI N k (tc σ) 0 σ) (f : FO σ c x c0 k) (hc : c ≤ 1000000) (hx : x ≤ c0 + 300) (g : gF σ σ') (p : P153 σ (Int32.ofInt 0) w σ') : ∃ v : Int32, w = .inl (some (.inl v)) ∧ HI n N σ' ∧ LI N k (tc σ') 0 σ' ∧ ((v.toInt = -1 ∧ FY σ' c k) ∨ (v.toInt = -2 ∧ x + 30 < c ∧ FL σ' c k) ∨ (0 ≤ v.toInt ∧ x < c ∧ c ≤ x + 30 ∧ FO σ' c (x + 1) c0 k)) := by
  obtain ⟨v1, σ2, _, p1, hh⟩ := p
  obtain ⟨e, ev⟩ := p52_0 p1
  subst e
  rw [ev] at hh
  rcases hh with ⟨z, _⟩ | ⟨q, eq, v9, σ10, F, p55, hw, e⟩
  · cases z
  cases eq
  subst e
  have hs := HS_w h.1 F (by decide)
  obtain ⟨i1, i2⟩ := rk (k' := k) h l g F hs rfl rfl
  refine ⟨v9, hw, i1, i2, ?_⟩
  rcases FO_read h.1 f hc hx F p55 with ⟨a, b, e⟩ | ⟨a, b, f'⟩ | ⟨a, b, d, f'⟩
  · subst e
    subst a
    exact Or.inl ⟨by rw [b]; decide, FO_end f⟩
  · exact Or.inr (Or.inl ⟨by rw [b]; decide, a, f'⟩)
  · exact Or.inr (Or.inr ⟨d, a, b, f'⟩)
/-- reader 0 copies -/
theorem r0_155 {n : Int} {N c : Nat} {k : Kt} {w : mX} {σ σ' : mS} (h : HI n N σ) (l : LI N k (tc σ) 0 σ) (f : FL σ c k) (g : gF σ σ') (p : P155 σ (Int32.ofInt 0) w σ') : ∃ v : Int32, w = .inl (some (.inl v)) ∧ 0 ≤ v.toInt ∧ S n N c k σ' ∧ LI N k (tc σ') 0 σ' := by
  obtain ⟨v1, σ2, _, p1, hh⟩ := p
  obtain ⟨e, ev⟩ := p52_0 p1
  subst e
  rw [ev] at hh
  rcases hh with ⟨z, _⟩ | ⟨q, eq, v9, σ10, F, p57, hw, e⟩
  · cases z
  cases eq
  subst e
  have hs := HS_w h.1 F (by decide)
  obtain ⟨i1, i2⟩ := rk (k' := k) h l g F hs rfl rfl
  obtain ⟨f1, f2⟩ := FL_copy h.1 f F p57
  exact ⟨v9, hw, f2, ⟨i1, f1⟩, i2⟩
/-- reader 0 is right -/
theorem r0_156 {c : Nat} {k : Kt} {w : mX} {σ σ' : mS} (hs : HS σ) (f : FY σ c k) (p : P156 σ (Int32.ofInt 0) w σ') : w = .inl (some (.inl (Int32.ofInt 0))) ∧ σ' = σ := by
  obtain ⟨v1, σ2, _, p1, hh⟩ := p
  obtain ⟨e, ev⟩ := p52_0 p1
  subst e
  rw [ev] at hh
  rcases hh with ⟨z, _⟩ | ⟨q, eq, i9, e9, i11, e11, v13, σ14, F, p87, hw, e⟩
  · cases z
  cases eq
  cases e9
  rw [hs90_0 hs] at e11
  cases e11
  obtain ⟨a, b⟩ := FY_w hs f p87
  exact ⟨by rw [hw, a], e.trans b⟩
/-- the checks, one after another -/
def CH (Z : Int32 → Int32 → mS → Prop) (u8 u11 : Int32) (σ4 : mS) (w : mX) (σ' : mS) : Prop := ((∃ v8 σ9, ev_run sm_all 177 [rf 11 (0), rf 14 (6)] σ4 (.inl (some (.inl v8))) σ9 ∧ P177 σ4 (.inl (some (.inl v8))) σ9 ∧ (HL σ9 → (((v8).toInt = (0 : Int) ∧ Z (Int32.ofInt 0) ((u8) + Int32.ofInt 1) σ9) ∨ (¬ ((v8).toInt = (0 : Int)) ∧ ((∃ v13 σ14, ev_run sm_all 180 [rf 11 (0), rf 13 (15), rf 13 (17)] σ9 (.inl (some (.inl v13))) σ14 ∧ P180 σ9 (.inl (some (.inl v13))) σ14 ∧ (HL σ14 → (((v13).toInt = (0 : Int) ∧ Z (Int32.ofInt 0) ((u8) + Int32.ofInt 1) σ14) ∨ (¬ ((v13).toInt = (0 : Int)) ∧ ((∃ v19 σ20, ev_run sm_all 178 [rf 11 (0), rf 13 (16), rf 13 (17), .inl ((u8) - (u8) / (Int32.ofInt 5) * (Int32.ofInt 5))] σ14 (.inl (some (.inl v19))) σ20 ∧ P178 σ14 ((u8) - (u8) / (Int32.ofInt 5) * (Int32.ofInt 5)) (.inl (some (.inl v19))) σ20 ∧ (HL σ20 → (((v19).toInt = (0 : Int) ∧ Z (Int32.ofInt 0) ((u8) + Int32.ofInt 1) σ20) ∨ (¬ ((v19).toInt = (0 : Int)) ∧ (0 ≤ (0 : Int) ∧ (0 : Int) < (σ20.2.1 13 (17) : Int)) ∧ (((m_i σ20 13 (17) (Int32.ofInt 0).toNatClampNeg).toInt = (0 : Int) ∧ ∃ v26, P141 σ20 v26 σ20 ∧ (0 ≤ (3 : Int) ∧ (3 : Int) < (σ20.2.1 13 (17) : Int)) ∧ (((v26).toInt ≠ (m_i σ20 13 (17) (Int32.ofInt 3).toNatClampNeg).toInt ∧ Z (Int32.ofInt 0) ((u8) + Int32.ofInt 1) σ20) ∨ (¬ ((v26).toInt ≠ (m_i σ20 13 (17) (Int32.ofInt 3).toNatClampNeg).toInt) ∧ Z (Int32.ofInt 1) ((u8) + Int32.ofInt 1) σ20))) ∨ (¬ ((m_i σ20 13 (17) (Int32.ofInt 0).toNatClampNeg).toInt = (0 : Int)) ∧ (0 ≤ (0 : Int) ∧ (0 : Int) < (σ20.2.1 13 (17) : Int)) ∧ ((∃ v34 σ35, ev_run sm_all 179 [rf 11 (0), rf 13 (14), rf 13 (15), rf 13 (17), .inl ((u11) - (u11) / (m_i σ20 13 (17) (Int32.ofInt 0).toNatClampNeg) * (m_i σ20 13 (17) (Int32.ofInt 0).toNatClampNeg))] σ20 (.inl (some (.inl v34))) σ35 ∧ P179 σ20 ((u11) - (u11) / (m_i σ20 13 (17) (Int32.ofInt 0).toNatClampNeg) * (m_i σ20 13 (17) (Int32.ofInt 0).toNatClampNeg)) (.inl (some (.inl v34))) σ35 ∧ (HL σ35 → (((v34).toInt = (0 : Int) ∧ Z (Int32.ofInt 0) ((u8) + Int32.ofInt 1) σ35) ∨ (¬ ((v34).toInt = (0 : Int)) ∧ ∃ v39, P141 σ35 v39 σ35 ∧ (0 ≤ (3 : Int) ∧ (3 : Int) < (σ35.2.1 13 (17) : Int)) ∧ (((v39).toInt ≠ (m_i σ35 13 (17) (Int32.ofInt 3).toNatClampNeg).toInt ∧ Z (Int32.ofInt 0) ((u8) + Int32.ofInt 1) σ35) ∨ (¬ ((v39).toInt ≠ (m_i σ35 13 (17) (Int32.ofInt 3).toNatClampNeg).toInt) ∧ Z (Int32.ofInt 1) ((u8) + Int32.ofInt 1) σ35)))))) ∨ (∃ b, P179 σ20 ((u11) - (u11) / (m_i σ20 13 (17) (Int32.ofInt 0).toNatClampNeg) * (m_i σ20 13 (17) (Int32.ofInt 0).toNatClampNeg)) (.inr b) σ' ∧ w = .inr b)))))))) ∨ (∃ b, P178 σ14 ((u8) - (u8) / (Int32.ofInt 5) * (Int32.ofInt 5)) (.inr b) σ' ∧ w = .inr b)))))) ∨ (∃ b, P180 σ9 (.inr b) σ' ∧ w = .inr b)))))) ∨ (∃ b, P177 σ4 (.inr b) σ' ∧ w = .inr b))
theorem s_ch {G : Prop} {IV : mS → Prop} {u8 u11 : Int32} {σ4 : mS} {w : mX} {σ' : mS} (h8 : tr u8) (h11 : 0 ≤ u11.toInt) (p : PS IV (u8.toInt + 1) σ4) (q : CH (Z162 IV G) u8 u11 σ4 w σ') : G := by
  obtain ⟨n, N, c, k, h, l, iv, b1, b2, b3⟩ := p
  have hl : HL σ4 := ⟨h.1.1, l.gh⟩
  have i1 : (Int32.ofInt 1).toInt = 1 := i_1
  have m5 : mb (u8 - u8 / Int32.ofInt 5 * Int32.ofInt 5) := by
    have e : (u8 - u8 / Int32.ofInt 5 * Int32.ofInt 5).toInt = u8.toInt % 5 := by rw [md32 h8.1 (by rw [i_5]; decide), i_5]
    exact ⟨by rw [e]; omega, by rw [e]; omega⟩
  have fin : Z162 IV G (Int32.ofInt 1) (u8 + Int32.ofInt 1) σ4 → G := by
    intro z
    have e8 : (u8 + Int32.ofInt 1).toInt = u8.toInt + 1 := i_inc h8.1 (by have := h8.2; omega)
    refine z (by rw [i1]; decide) ⟨by rw [e8]; have := h8.1; omega, by rw [e8]; have := h8.2; omega⟩ ?_
    rw [e8]
    exact ⟨n, N, c, k, h, l, iv, b1, b2, b3⟩
  have t3 : ∀ v : Int32, P141 σ4 v σ4 → ¬ v.toInt ≠ (m_i σ4 13 17 (Int32.ofInt 3).toNatClampNeg).toInt := by
    intro v pv hne
    have e3 : (Int32.ofInt 3).toNatClampNeg = 3 := by decide
    rw [e3, l.t3, pv.1] at hne
    exact hne rfl
  rcases q with ⟨v1, σ1, _, p71, q1⟩ | ⟨b, p71, _⟩
  rotate_left
  · obtain ⟨⟨_, e, _⟩, _⟩ := a177 h l p71
    cases e
  obtain ⟨⟨_, e, ne1⟩, e2⟩ := a177 h l p71
  cases e
  subst e2
  rcases q1 hl with ⟨a, _⟩ | ⟨_, q⟩
  · exact absurd a ne1
  rcases q with ⟨v2, σ2, _, p72, q2⟩ | ⟨b, p72, _⟩
  rotate_left
  · obtain ⟨⟨_, e, _⟩, _⟩ := a180 h l p72
    cases e
  obtain ⟨⟨_, e, ne2⟩, e2⟩ := a180 h l p72
  cases e
  subst e2
  rcases q2 hl with ⟨a, _⟩ | ⟨_, q⟩
  · exact absurd a ne2
  rcases q with ⟨v3, σ3, _, p73, q3⟩ | ⟨b, p73, _⟩
  rotate_left
  · obtain ⟨⟨_, e, _⟩, _⟩ := a178 h l m5 p73
    cases e
  obtain ⟨⟨_, e, ne3⟩, e2⟩ := a178 h l m5 p73
  cases e
  subst e2
  rcases q3 hl with ⟨a, _⟩ | ⟨_, _, q⟩
  · exact absurd a ne3
  rw [n_0] at q
  have n0 := l.n0
  rcases q with ⟨_, v, pv, _, q⟩ | ⟨hN, _, q⟩
  · rcases q with ⟨a, _⟩ | ⟨_, q⟩
    · exact absurd a (t3 v pv)
    · exact fin q
  have mN : 0 ≤ (u11 - u11 / m_i σ3 13 17 0 * m_i σ3 13 17 0).toInt ∧ (u11 - u11 / m_i σ3 13 17 0 * m_i σ3 13 17 0).toInt < N := by
    have e : (u11 - u11 / m_i σ3 13 17 0 * m_i σ3 13 17 0).toInt = u11.toInt % N := by rw [md32 h11 (by omega), n0]
    rw [e]
    exact ⟨Int.emod_nonneg _ (by omega), Int.emod_lt_of_pos _ (by omega)⟩
  rcases q with ⟨v4, σ4, _, p74, q4⟩ | ⟨b, p74, _⟩
  rotate_left
  · obtain ⟨⟨_, e, _⟩, _⟩ := a179 h l mN p74
    cases e
  obtain ⟨⟨_, e, ne4⟩, e2⟩ := a179 h l mN p74
  cases e
  subst e2
  rcases q4 hl with ⟨a, _⟩ | ⟨_, v, pv, _, q⟩
  · exact absurd a ne4
  rcases q with ⟨a, _⟩ | ⟨_, q⟩
  · exact absurd a (t3 v pv)
  · exact fin q
theorem s977 {G : Prop} {IV : mS → Prop} (hI : IVc IV) {u7 u8 u11 u12 : Int32} {τ : mS} {w : mX} {σ' : mS} (q : T977 (Z162 IV G) u7 u8 u11 u12 τ w σ') : Z977 IV G u7 u8 u11 u12 τ := by
  intro h7 h8 h11 p
  obtain ⟨n, N, c, k, h, l, iv, b1, b2, b3, hf⟩ := p
  have hl : HL τ := ⟨h.1, l.gh⟩
  rcases q with ⟨a, _⟩ | ⟨_, q⟩
  · exact absurd a h7
  rcases q with ⟨a, q⟩ | ⟨a, q⟩
  · rcases hf with ⟨_, f⟩ | ⟨z, _⟩
    rotate_left
    · exact absurd z a
    rcases q with ⟨v, σ, g, _, p6, q⟩ | ⟨b, g, p6, _⟩
    · obtain ⟨e, e2⟩ := r0_156 h.1 f p6
      cases e
      subst e2
      rcases q with ⟨x, _⟩ | ⟨_, q⟩
      · exact absurd i_0 x
      · exact s_ch h8 h11 ⟨n, N, c, k, ⟨h, f⟩, l, iv, by omega, by omega, b3⟩ q
    · cases (r0_156 h.1 f p6).1
  · rcases hf with ⟨z, _⟩ | ⟨_, f⟩
    · exact absurd z a
    rcases q with ⟨v, σ, g, r, p5, q⟩ | ⟨b, g, p5, _⟩
    · obtain ⟨v', e, v0, s, l'⟩ := r0_155 h l f g p5
      cases e
      rcases q with ⟨x, _⟩ | ⟨_, q⟩
      · omega
      · exact s_ch h8 h11 ⟨n, N, c, k, s, l', hI.1 155 _ _ _ _ rfl rfl hl iv r, by omega, by omega, b3⟩ q
    · obtain ⟨v', e, _⟩ := r0_155 h l f g p5
      cases e
theorem s944 {G : Prop} {IV : mS → Prop} (hI : IVc IV) {u7 u8 u11 u12 u13 : Int32} {τ : mS} {w : mX} {σ' : mS} (q : T944 (Z944 IV G) (Z977 IV G) u7 u8 u11 u12 u13 τ w σ') : Z944 IV G u7 u8 u11 u12 u13 τ := by
  intro h7 h8 h11 p
  obtain ⟨n, N, c, k, h, l, iv, b1, b2, b3, b13, hf⟩ := p
  have hl : HL τ := ⟨h.1, l.gh⟩
  have xc : ∀ {x c0 : Nat}, FO τ c x c0 k → c0 ≤ x ∧ x ≤ c := fun f => by
    obtain ⟨_, _, _, _, _, _, _, _, _, _, _, _, st, _⟩ := f
    exact ⟨st.1, st.2.1⟩
  have ne : u12.toInt ≠ 0 → True := fun _ => trivial
  rcases q with ⟨a, q⟩ | ⟨a, q⟩
  · refine q h7 h8 h11 ⟨n, N, c, k, h, l, iv, b1, b2, b3, ?_⟩
    rcases hf with ⟨z, f⟩ | ⟨z, f⟩ | ⟨z, x, c0, f, hc, hx⟩
    · exact Or.inl ⟨by omega, f⟩
    · exact Or.inr ⟨z, f⟩
    · have := (xc f).2
      omega
  rcases q with ⟨z1, q⟩ | ⟨z1, q⟩
  · refine q h7 h8 h11 ⟨n, N, c, k, h, l, iv, b1, b2, b3, ?_⟩
    rcases hf with ⟨z, f⟩ | ⟨z, f⟩ | ⟨z, x, c0, f, hc, hx⟩
    · exact Or.inl ⟨by omega, f⟩
    · omega
    · omega
  rcases q with ⟨z2, q⟩ | ⟨z2, q⟩
  · refine q h7 h8 h11 ⟨n, N, c, k, h, l, iv, b1, b2, b3, ?_⟩
    rcases hf with ⟨z, f⟩ | ⟨z, f⟩ | ⟨z, x, c0, f, hc, hx⟩
    · omega
    · exact Or.inr ⟨z, f⟩
    · omega
  rcases hf with ⟨z, f⟩ | ⟨z, f⟩ | ⟨z, x, c0, f, hc, hx⟩
  · omega
  · omega
  obtain ⟨xc1, xc2⟩ := xc f
  have c61 := h8.2
  rcases q with ⟨v, σ, g, r, p3, q⟩ | ⟨b, g, p3, _⟩
  · obtain ⟨v', e, i1, i2, hv⟩ := r0_153 h l f (by omega) (by omega) g p3
    cases e
    have e13 : (u13 + Int32.ofInt 1).toInt = u13.toInt + 1 := i_inc b13 (by omega)
    refine q h7 h8 h11 ⟨n, N, c, k, i1, i2, hI.1 153 _ _ _ _ rfl rfl hl iv r, b1, b2, b3, by omega, ?_⟩
    rcases hv with hv | ⟨_, y, _⟩ | ⟨y, y1, y2, f'⟩
    · exact Or.inl hv
    · omega
    · exact Or.inr (Or.inr ⟨y, x + 1, c0, f', hc, by omega⟩)
  · obtain ⟨v', e, _⟩ := r0_153 h l f (by omega) (by omega) g p3
    cases e
theorem s925 {G : Prop} {IV : mS → Prop} (hI : IVc IV) {u7 u8 u11 : Int32} {τ : mS} {w : mX} {σ' : mS} (q : T925 (Z944 IV G) u7 u8 u11 τ w σ') : Z925 IV G u7 u8 u11 τ := by
  intro h7 h8 h11 p
  obtain ⟨n, N, c, k, ⟨h, c', f, d1, d2⟩, l, iv, b1, b2, b3⟩ := p
  have hl : HL τ := ⟨h.1, l.gh⟩
  have c61 := h8.2
  rcases q with ⟨a, _⟩ | ⟨_, q⟩
  · exact absurd a h7
  rcases q with ⟨v, σ, g, r, p3, q⟩ | ⟨b, g, p3, _⟩
  · obtain ⟨v', e, i1, i2, hv⟩ := r0_153 h l f (by omega) (by omega) g p3
    cases e
    have z0 := i_0
    refine q h7 h8 h11 ⟨n, N, c', k, i1, i2, hI.1 153 _ _ _ _ rfl rfl hl iv r, b1, by omega, b3, by omega, ?_⟩
    rcases hv with hv | ⟨y0, y, f'⟩ | ⟨y, y1, y2, f'⟩
    · exact Or.inl hv
    · exact Or.inr (Or.inl ⟨y0, f'⟩)
    · exact Or.inr (Or.inr ⟨y, c + 1, c, f', d2, by omega⟩)
  · obtain ⟨v', e, _⟩ := r0_153 h l f (by omega) (by omega) g p3
    cases e
theorem run_fn {j : Nat} {avs : List mV} {σ σ1 σ2 : mS} {x y : mX} (h : ev_run sm_all j avs σ x σ1) (g : ev_run sm_all j avs σ y σ2) : x = y ∧ σ1 = σ2 := by
  obtain ⟨f, h⟩ := h
  obtain ⟨f', g⟩ := g
  have a := ev_c_mono (fun _ _ _ h => h) f (max f f') j avs σ _ (Nat.le_max_left _ _) h
  have b := ev_c_mono (fun _ _ _ h => h) f' (max f f') j avs σ _ (Nat.le_max_right _ _) g
  rw [a] at b
  cases b
  exact ⟨rfl, rfl⟩
theorem s1091 {G : Prop} {IV : mS → Prop} {u7 : Int32} {τ : mS} {w : mX} {σ' : mS} (hG : OKw w → G) (hr : u7.toInt ≠ 0 → ∃ (v : Int32) (σ2 : mS), ev_run sm_all 157 [rf 11 0] τ (.inl (some (.inl v))) σ2 ∧ v.toInt ≠ 0 ∧ HL σ2) (q : T1091 u7 τ w σ') : Z1091 IV G u7 τ := by
  intro h7 hl iv
  rcases q with ⟨a, _⟩ | ⟨_, v, σ, r, q⟩
  · exact absurd a h7
  obtain ⟨v2, σ2, r2, vn, hl3⟩ := hr h7
  obtain ⟨ev, es⟩ := run_fn r r2
  cases ev
  subst es
  rcases q hl3 with ⟨a, _⟩ | ⟨_, v7, σ8, _, _, _, p, q⟩
  · exact absurd a vn
  obtain ⟨y, p140, _, _, ev⟩ := d172_24 (by decide) p
  have : y = .inr 0 := by
    obtain ⟨v1, p1, hh⟩ := p140
    rcases p24' p1 with ⟨e1, b1⟩ | ⟨e1, b1⟩
    · rw [e1] at hh
      rcases hh with ⟨_, hw, e⟩ | ⟨q, z, _⟩
      · exact hw
      · cases z
    · exact absurd b1.2 (by decide)
  rw [this] at ev
  rcases q with ⟨a, _⟩ | ⟨_, hw, _⟩
  · exact absurd (by rw [ev]; exact hv0.trans litA.symm) a
  · exact hG (by rw [hw]; exact ok1)
