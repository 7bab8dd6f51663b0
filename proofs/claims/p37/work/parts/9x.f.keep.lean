/-! what the law writes leaves the hall alone; trades that have come -/
theorem dv32 {x d : Int32} (hx : 0 ≤ x.toInt) (hd : 0 < d.toInt) : (x / d).toInt = x.toInt / d.toInt := by
  have xb := (i_b x).2
  rw [Int32.toInt_div, Int.tdiv_eq_ediv_of_nonneg hx]
  have h0 : 0 ≤ x.toInt / d.toInt := Int.ediv_nonneg hx (by omega)
  have h1 : x.toInt / d.toInt ≤ x.toInt := Int.ediv_le_self _ hx
  exact bmod_id (by omega) (by omega)
theorem md32 {x d : Int32} (hx : 0 ≤ x.toInt) (hd : 0 < d.toInt) : (x - x / d * d).toInt = x.toInt % d.toInt := by
  have xb := (i_b x).2
  have e1 := dv32 hx hd
  have h0 : 0 ≤ x.toInt / d.toInt := Int.ediv_nonneg hx (by omega)
  have h2 := Int.mul_ediv_add_emod x.toInt d.toInt
  have h3 := Int.emod_nonneg x.toInt (show d.toInt ≠ 0 by omega)
  have h5 : 0 ≤ x.toInt / d.toInt * d.toInt := Int.mul_nonneg h0 (by omega)
  have h4 : x.toInt / d.toInt * d.toInt = d.toInt * (x.toInt / d.toInt) := Int.mul_comm _ _
  have e2 : (x / d * d).toInt = x.toInt / d.toInt * d.toInt := by rw [i_mul (by rw [e1]; omega) (by rw [e1]; omega), e1]
  rw [i_sub (by rw [e2]; omega) (by rw [e2]; omega), e2]
  omega
theorem FY_lw {σ σ' : mS} {c : Nat} {k : Kt} (h : FY σ c k) (e3 : m_r σ' 3 0 3 = m_r σ 3 0 3) (e4 : m_r σ' 3 0 4 = m_r σ 3 0 4) (e5 : m_i σ' 3 0 5 = m_i σ 3 0 5) (e2 : ∀ i, m_i σ' 5 i 2 = m_i σ 5 i 2) (e9 : ∀ i, m_i σ' 9 i 1 = m_i σ 9 i 1) (e13 : ∀ i j, i < 14 → m_i σ' 13 i j = m_i σ 13 i j) : FY σ' c k := by
  obtain ⟨f, t, n, MK, MQ, n0, n1, x1, h1, h2, h3, h4, h5, h6, h7, h8, h9⟩ := h
  have kk : ∀ i, 4 ≤ i → i < 14 → lK σ' i = lK σ i := fun i hi h' => funext fun j => congrArg Int32.toInt (e13 i j h')
  have qq : ∀ i, 4 ≤ i → i < 14 → lQ σ' i = lQ σ i := fun i hi h' => funext fun j => congrArg Int32.toInt (e13 i j h')
  have ht := h1.1
  refine ⟨f, t, n, MK, MQ, n0, n1, x1, FT_of h1 e3 e4 (fun i _ => e2 i) (fun i j a _ => e13 i j (by omega)), ms_of h2 e5 (fun i j a => e13 i j (by omega)), h3, rd_of h4 (e2 _) (fun i j a => e13 i j (by omega)) (e9 0), ?_, rd_of h6 (e2 _) (fun i j a => e13 i j (by omega)) (e9 1), h7, h8, fun i j hi => (e13 i j (by omega)).trans (h9 i j hi)⟩
  unfold rK rQ
  rw [kk _ (by omega) (by omega), qq _ (by omega) (by omega), kk _ (by omega) (by omega), qq _ (by omega) (by omega)]
  exact h5
theorem FO_lw {σ σ' : mS} {c x c0 : Nat} {k : Kt} (h : FO σ c x c0 k) (e3 : m_r σ' 3 0 3 = m_r σ 3 0 3) (e4 : m_r σ' 3 0 4 = m_r σ 3 0 4) (e5 : m_i σ' 3 0 5 = m_i σ 3 0 5) (e2 : ∀ i, m_i σ' 5 i 2 = m_i σ 5 i 2) (e9 : ∀ i, m_i σ' 9 i 1 = m_i σ 9 i 1) (e13 : ∀ i j, i < 14 → m_i σ' 13 i j = m_i σ 13 i j) : FO σ' c x c0 k := by
  obtain ⟨f, t, n, MK, MQ, n0, n1, x1, h1, h2, h3, h4, h5, h6, h7, h8, h9⟩ := h
  have kk : ∀ i, 4 ≤ i → i < 14 → lK σ' i = lK σ i := fun i hi h' => funext fun j => congrArg Int32.toInt (e13 i j h')
  have qq : ∀ i, 4 ≤ i → i < 14 → lQ σ' i = lQ σ i := fun i hi h' => funext fun j => congrArg Int32.toInt (e13 i j h')
  have ht := h1.1
  refine ⟨f, t, n, MK, MQ, n0, n1, x1, FT_of h1 e3 e4 (fun i _ => e2 i) (fun i j a _ => e13 i j (by omega)), ms_of h2 e5 (fun i j a => e13 i j (by omega)), h3, rd_of h4 (e2 _) (fun i j a => e13 i j (by omega)) (e9 0), ?_, rd_of h6 (e2 _) (fun i j a => e13 i j (by omega)) (e9 1), h7, h8, fun i j hi => (e13 i j (by omega)).trans (h9 i j hi)⟩
  unfold rK rQ
  rw [kk _ (by omega) (by omega), qq _ (by omega) (by omega), kk _ (by omega) (by omega), qq _ (by omega) (by omega)]
  exact h5
theorem mi_13 {σ : mS} {i j : Nat} {v : Int32} (hi : 14 ≤ i) : (∀ c a b, c ≠ 13 → m_i (m_set σ 13 i j (.inl v)) c a b = m_i σ c a b) ∧ ∀ a b, a < 14 → m_i (m_set σ 13 i j (.inl v)) 13 a b = m_i σ 13 a b := ⟨fun c a b h => by rw [mi_si, if_neg (fun z => h z.1)], fun a b h => by rw [mi_si, if_neg (fun z => by omega)]⟩
theorem HI_13 {n : Int} {N i j : Nat} {v : Int32} {σ : mS} (h : HI n N σ) : HI n N (m_set σ 13 i j (.inl v)) := HI_fw (w := wl [(13, 0)]) h (HS_set h.1 rfl) (fw_set (by unfold fwh; rw [if_neg (by decide)]; rfl)) rfl
theorem FY_13 {c i j : Nat} {k : Kt} {v : Int32} {σ : mS} (h : FY σ c k) (hi : 14 ≤ i) : FY (m_set σ 13 i j (.inl v)) c k := by
  obtain ⟨a, b⟩ := mi_13 (σ := σ) (j := j) (v := v) hi
  exact FY_lw h rfl rfl (a _ _ _ (by decide)) (fun _ => a _ _ _ (by decide)) (fun _ => a _ _ _ (by decide)) b
theorem FO_13 {c x c0 i j : Nat} {k : Kt} {v : Int32} {σ : mS} (h : FO σ c x c0 k) (hi : 14 ≤ i) : FO (m_set σ 13 i j (.inl v)) c x c0 k := by
  obtain ⟨a, b⟩ := mi_13 (σ := σ) (j := j) (v := v) hi
  exact FO_lw h rfl rfl (a _ _ _ (by decide)) (fun _ => a _ _ _ (by decide)) (fun _ => a _ _ _ (by decide)) b
theorem S_13 {n : Int} {N c i j : Nat} {k : Kt} {v : Int32} {σ : mS} (h : S n N c k σ) (hi : 14 ≤ i) : S n N c k (m_set σ 13 i j (.inl v)) := ⟨HI_13 h.1, FY_13 h.2 hi⟩
theorem D_13 {n : Int} {N c i j : Nat} {k : Kt} {v : Int32} {σ : mS} (h : D n N c k σ) (hi : 14 ≤ i) : D n N c k (m_set σ 13 i j (.inl v)) := by
  obtain ⟨a, c', b, d⟩ := h
  exact ⟨HI_13 a, c', FO_13 b hi, d⟩
theorem ml_14 {σ : mS} {v : Int64} {c i k : Nat} (h : ¬ (c = 14 ∧ i = 6)) : m_l (m_set σ 14 6 0 (.inr (.inl v))) c i k = m_l σ c i k := by rw [ml_sl, if_neg (fun z => h ⟨z.1, z.2.1⟩)]
theorem HI_14 {n : Int} {N : Nat} {v : Int64} {σ : mS} (h : HI n N σ) : HI n N (m_set σ 14 6 0 (.inr (.inl v))) := by
  obtain ⟨h1, h2, h3, h4, h5, h6⟩ := h
  refine ⟨HS_set h1 rfl, h2, h3, ?_, h5, h6⟩
  have e6 : ∀ i k, m_l (m_set σ 14 6 0 (.inr (.inl v))) 6 i k = m_l σ 6 i k := fun i k => ml_14 (fun z => by cases z.1)
  have e14 : ∀ i k, i < 6 → m_l (m_set σ 14 6 0 (.inr (.inl v))) 14 i k = m_l σ 14 i k := fun i k hi => ml_14 (fun z => by omega)
  have e8 : ∀ i k, m_l (m_set σ 14 6 0 (.inr (.inl v))) 8 i k = m_l σ 8 i k := fun i k => ml_14 (fun z => by cases z.1)
  have e2 : ∀ i k, m_l (m_set σ 14 6 0 (.inr (.inl v))) 2 i k = m_l σ 2 i k := fun i k => ml_14 (fun z => by cases z.1)
  have e10 : ∀ i k, m_l (m_set σ 14 6 0 (.inr (.inl v))) 10 i k = m_l σ 10 i k := fun i k => ml_14 (fun z => by cases z.1)
  obtain ⟨c1, c2, c3, c4, c5, c6, b1, b2, b3, b4, b5, b6, b7, b8, b9⟩ := h4
  have eF : nF (m_set σ 14 6 0 (.inr (.inl v))) = nF σ := rfl
  rw [eF]
  refine ⟨c1, c2, c3, fun m m1 m2 => ?_, c5, c6, fun j hj => ?_, ?_, fun i hi => ?_, ?_, fun m hm => ?_, fun m m1 m2 => ?_, ?_, fun t ht => ?_, b9⟩
  · obtain ⟨f1, f2, f3, f4, f5, f6, f7⟩ := c4 m m1 m2
    exact ⟨f1, f2, f3, f4, f5, fun z j hj => by show (m_l _ 14 m j).toInt = 0; rw [e14 m j m2]; exact f6 z j hj, fun z => by rw [e6]; exact f7 z⟩
  · have e : SP (m_set σ 14 6 0 (.inr (.inl v))) j = SP σ j := by
      unfold SP pI
      rw [e14 0 j (by decide), e14 1 j (by decide), e14 2 j (by decide), e14 3 j (by decide), e14 4 j (by decide), e14 5 j (by decide)]
    rw [e]
    exact b1 j hj
  · have e : CS (m_set σ 14 6 0 (.inr (.inl v))) = CS σ := by
      unfold CS cI
      rw [e6, e6, e6, e6, e6, e6]
    rw [e]
    exact b2
  · rw [e8]; exact b3 i hi
  · have := b4
    unfold cc at this ⊢
    simp only [e8, e2]
    exact this
  · rw [e6]; exact b5 m hm
  · rw [e6]; exact b6 m m1 m2
  · rw [e6]; exact b7
  · have := b8 t ht
    unfold fB at this ⊢
    simp only [e10]
    exact this
theorem S_14 {n : Int} {N c : Nat} {k : Kt} {v : Int64} {σ : mS} (h : S n N c k σ) : S n N c k (m_set σ 14 6 0 (.inr (.inl v))) := ⟨HI_14 h.1, FY_lw h.2 rfl rfl rfl (fun _ => rfl) (fun _ => rfl) (fun _ _ _ => rfl)⟩
theorem D_14 {n : Int} {N c : Nat} {k : Kt} {v : Int64} {σ : mS} (h : D n N c k σ) : D n N c k (m_set σ 14 6 0 (.inr (.inl v))) := by
  obtain ⟨a, c', b, d⟩ := h
  exact ⟨HI_14 a, c', FO_lw b rfl rfl rfl (fun _ => rfl) (fun _ => rfl) (fun _ _ _ => rfl), d⟩
/-! trades that have come -/
theorem hl181_122 {u : Int32} {τ σ' : mS} {w : mX} (h : HL τ) (p : J181_122 u τ w σ') : HL σ' := by
  obtain ⟨v1, _, σ6, e6, _, _, rfl⟩ := p
  rw [e6]
  exact HL_set h rfl
theorem hl181_20 : ∀ n (u2 u3 : Int32) (τ : mS) (w : mX) (σ' : mS), Q181_20 n u2 u3 τ w σ' → HL τ → HL σ' := by
  intro n
  induction n with
  | zero => intro u2 u3 τ w σ' h; exact h.elim
  | succ n IH =>
    intro u2 u3 τ w σ' h hl
    have h : B181_20 (Q181_20 n) u2 u3 τ w σ' := h
    have th : ∀ {A : Nat → Prop}, (∃ b, A b ∧ w = .inr b ∧ σ' = τ) → HL σ' := fun ⟨b, _, _, e⟩ => by rw [e]; exact hl
    obtain ⟨v1, _, ⟨_, h⟩ | ⟨_, ⟨_, h⟩ | ⟨_, ⟨v7, _, h⟩ | h⟩⟩⟩ := h
    · exact hl181_122 hl h
    · exact hl181_122 hl h
    · rcases h with ⟨v11, _, ⟨_, h⟩ | ⟨_, h⟩⟩ | h
      · exact IH _ _ _ _ _ h hl
      · rcases h with ⟨v16, _, ⟨_, h⟩ | ⟨_, h⟩⟩ | h
        · exact IH _ _ _ _ _ h hl
        · rcases h with ⟨v21, _, ⟨_, h⟩ | ⟨_, ⟨_, h⟩ | ⟨_, ⟨_, h⟩ | ⟨_, ⟨_, h⟩ | ⟨_, h⟩⟩⟩⟩⟩ | h
          · exact IH _ _ _ _ _ h hl
          · exact IH _ _ _ _ _ h hl
          · exact IH _ _ _ _ _ h hl
          · exact IH _ _ _ _ _ h hl
          · rcases h with ⟨v33, _, ⟨_, h⟩ | ⟨_, h⟩⟩ | h
            · exact IH _ _ _ _ _ h hl
            · exact IH _ _ _ _ _ h hl
            · exact th h
          · exact th h
        · exact th h
      · exact th h
    · exact th h
theorem hl181 {σ σ' : mS} {w : mX} (h : HL σ) (p : P181 σ w σ') : HL σ' := by
  obtain ⟨v1, _, _, ⟨_, _, n2, _, n, q⟩ | ⟨_, _, n2, _, n, q⟩⟩ := p
  · exact hl181_20 n _ _ _ _ _ q h
  · exact hl181_20 n _ _ _ _ _ q h
/-- an asking that is right -/
theorem k142 {n : Int} {N t : Nat} {x1 x2 : Int32} {w : mX} {σ σ' : mS} (h : HI n N σ) (e1 : x1.toInt = t) (ht : (t : Int) < tc σ) (h2 : bk4 x2) (p : P142 σ x1 x2 w σ') : ∃ v : Int32, w = .inl (some (.inl v)) ∧ (x2.toInt = 0 → v.toInt = ti σ t 1) ∧ (x2.toInt = 1 → v.toInt = ti σ t 2) ∧ (x2.toInt = 2 → v.toInt = 10 * ti σ t 3 + ti σ t 4) ∧ (x2.toInt = 3 → (v.toInt = 0 ∧ ti σ t 9 = 0) ∨ (v.toInt = 1 ∧ ti σ t 9 ≠ 0)) := by
  obtain ⟨_, ⟨b, _⟩ | ⟨t', e, _, ⟨b, _⟩ | ⟨_, r⟩⟩⟩ := a142 h p
  · omega
  · exact absurd h2 b
  · have : t' = t := by omega
    subst this
    exact r
theorem a181_20 {n : Int} {N : Nat} : ∀ m (u2 u3 : Int32) (τ : mS) (w : mX) (σ' : mS), Q181_20 m u2 u3 τ w σ' → HI n N τ → u2.toInt ≠ 0 → 0 ≤ u3.toInt → u3.toInt ≤ tc τ → (∀ t : Nat, u3.toInt ≤ t → (t : Int) < tc τ → ti τ t 9 = 0) → (∃ v : Int32, w = .inl (some (.inl v)) ∧ v.toInt ≠ 0) ∧ σ' = m_set τ 13 17 3 (.inl (m_i τ 2 0 5)) := by
  have z0 := i_0
  have z1 := i_1
  have z2 := i_2
  have z3 : (Int32.ofInt 3).toInt = 3 := by decide
  intro m
  induction m with
  | zero => intro u2 u3 τ w σ' h; exact h.elim
  | succ m IH =>
    intro u2 u3 τ w σ' h hI h2 p0 p1 hg
    have h : B181_20 (Q181_20 m) u2 u3 τ w σ' := h
    obtain ⟨v1, e1, h⟩ := h
    have e1 : v1 = m_i τ 2 0 5 := e1.1
    subst e1
    have tt : tc τ = (m_i τ 2 0 5).toInt := rfl
    have t200 := hI.to.1.2
    rcases h with ⟨c, p⟩ | ⟨c, ⟨c2, _⟩ | ⟨_, h⟩⟩
    · obtain ⟨v1, e1, σ6, e6, _, hw, rfl⟩ := p
      have e1 : v1 = m_i τ 2 0 5 := e1.1
      subst e1
      exact ⟨⟨u2, hw, h2⟩, e6⟩
    · exact absurd c2 h2
    · have n3 := i_nat p0
      have ht : (u3.toNatClampNeg : Int) < tc τ := by omega
      obtain ⟨o0, o1, o2, o3, o4, o5, o6, o7, o8⟩ := hI.to.2 _ ht
      have inc : (u3 + Int32.ofInt 1).toInt = u3.toInt + 1 := i_inc p0 (by omega)
      have bad : ∀ {A : Nat → Prop}, (∀ b, A b → False) → (∃ b, A b ∧ w = .inr b ∧ σ' = τ) → (∃ v : Int32, w = .inl (some (.inl v)) ∧ v.toInt ≠ 0) ∧ σ' = m_set τ 13 17 3 (.inl (m_i τ 2 0 5)) := fun H ⟨b, a, _⟩ => (H b a).elim
      have nb : ∀ {x : Int32} {b : Nat}, bk4 x → P142 τ u3 x (.inr b) τ → False := fun hx q => by
        obtain ⟨v, e, _⟩ := k142 hI n3.symm ht hx q
        cases e
      have b0 : bk4 (Int32.ofInt 0) := ⟨by omega, by omega⟩
      have b1 : bk4 (Int32.ofInt 1) := ⟨by omega, by omega⟩
      have b2 : bk4 (Int32.ofInt 2) := ⟨by omega, by omega⟩
      have b3 : bk4 (Int32.ofInt 3) := ⟨by omega, by omega⟩
      rcases h with ⟨v7, q7, h⟩ | ⟨b, q, _⟩
      · obtain ⟨v, e, _, _, r7, _⟩ := k142 hI n3.symm ht b2 q7
        cases e
        have r7 := r7 z2
        have d7 : (v7 / Int32.ofInt 10).toInt = ti τ u3.toNatClampNeg 3 := by
          rw [dv32 (by omega) (by rw [i_10]; decide), i_10, r7]
          omega
        have m7 : (v7 - v7 / Int32.ofInt 10 * Int32.ofInt 10).toInt = ti τ u3.toNatClampNeg 4 := by
          rw [md32 (by omega) (by rw [i_10]; decide), i_10, r7]
          omega
        rcases h with ⟨v11, q11, h⟩ | ⟨b, q, _⟩
        · obtain ⟨v, e, r11, _⟩ := k142 hI n3.symm ht b0 q11
          cases e
          have r11 := r11 z0
          rcases h with ⟨c, _⟩ | ⟨_, h⟩
          · omega
          rcases h with ⟨v16, q16, h⟩ | ⟨b, q, _⟩
          · obtain ⟨v, e, r16, _⟩ := k142 hI n3.symm ht b0 q16
            cases e
            have r16 := r16 z0
            rcases h with ⟨c, _⟩ | ⟨_, h⟩
            · omega
            rcases h with ⟨v21, q21, h⟩ | ⟨b, q, _⟩
            · obtain ⟨v, e, _, r21, _⟩ := k142 hI n3.symm ht b1 q21
              cases e
              have r21 := r21 z1
              rcases h with ⟨c, _⟩ | ⟨_, ⟨c, _⟩ | ⟨_, ⟨c, _⟩ | ⟨_, ⟨c, _⟩ | ⟨_, h⟩⟩⟩⟩
              · omega
              · omega
              · omega
              · omega
              rcases h with ⟨v33, q33, h⟩ | ⟨b, q, _⟩
              · obtain ⟨v, e, _, _, _, r33⟩ := k142 hI n3.symm ht b3 q33
                cases e
                have r33 := r33 z3
                have g9 := hg u3.toNatClampNeg (by omega) ht
                rcases h with ⟨c, _⟩ | ⟨_, h⟩
                · rcases r33 with r | r
                  · omega
                  · exact absurd g9 r.2
                · exact IH _ _ _ _ _ h hI (by rw [z1]; decide) (by omega) (by omega) (fun t a b => hg t (by omega) b)
              · exact (nb b3 q).elim
            · exact (nb b1 q).elim
          · exact (nb b0 q).elim
        · exact (nb b0 q).elim
      · exact (nb b2 q).elim
theorem a181 {n : Int} {N : Nat} {σ σ' : mS} {w : mX} (h : HI n N σ) (g0 : 0 ≤ (m_i σ 13 17 3).toInt) (g1 : (m_i σ 13 17 3).toInt ≤ tc σ) (hg : ∀ t : Nat, (m_i σ 13 17 3).toInt ≤ t → (t : Int) < tc σ → ti σ t 9 = 0) (p : P181 σ w σ') : (∃ v : Int32, w = .inl (some (.inl v)) ∧ v.toInt ≠ 0) ∧ σ' = m_set σ 13 17 3 (.inl (m_i σ 2 0 5)) := by
  have e3 : (Int32.ofInt 3).toNatClampNeg = 3 := by decide
  obtain ⟨v1, e1, _, h2⟩ := p
  have e1 : v1 = m_i σ 2 0 5 := e1.1
  subst e1
  have tt : tc σ = (m_i σ 2 0 5).toInt := rfl
  rw [e3] at h2
  rcases h2 with ⟨c, _⟩ | ⟨_, _, n2, en, m, q⟩
  · omega
  · rw [e3] at en
    subst en
    exact a181_20 m _ _ _ _ _ q h (by rw [i_1]; decide) g0 g1 hg
