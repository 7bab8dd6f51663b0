/-! the calls one by one: orders, stops, ties, cancelling, spreads, opening -/
theorem RT_9 {σ σ' : mS} (R : RT σ σ') : nF σ' = nF σ := nF_of (fun i => ((RT_fw R).2 6 i 9 rfl).1)
/-- what a call that may trade leaves of money, positions and trades -/
theorem RT_k {n : Int} {σ σ' : mS} (R : RT σ σ') (C : CI n σ) : kT σ σ' := (rt_k R C.2.1 C.2.2.1).2.2
def CW (n : Int) (σ : mS) (N c : Nat) (w : Int64) (σ' : mS) : Prop := w.toInt = N ∧ HI n (N + 1) σ' ∧ RT σ σ' ∧ kT σ σ' ∧ (∀ o k, o < N → k = 1 ∨ k = 2 ∨ k = 3 ∨ k = 4 → m_i σ' 7 o k = m_i σ 7 o k) ∧ mO N σ σ' ∧ (m_i σ' 7 N 1 = m_i σ 1 c 1 ∧ m_i σ' 7 N 2 = m_i σ 1 c 2 ∧ m_i σ' 7 N 3 = m_i σ 1 c 3 ∧ m_i σ' 7 N 4 = m_i σ 1 c 4) ∧ oi σ' N 6 ≤ (m_i σ 1 c 5).toInt
theorem k2 {n : Int} {N c : Nat} {σ σ' : mS} {w : Int64} (h : HI n N σ) (hk : (m_i σ 1 c 0).toInt = 2) (hl : N < 120) (h1 : 0 ≤ (m_i σ 1 c 1).toInt ∧ (m_i σ 1 c 1).toInt < 5) (h2 : 0 ≤ (m_i σ 1 c 2).toInt ∧ (m_i σ 1 c 2).toInt < 3) (h3 : 0 ≤ (m_i σ 1 c 3).toInt ∧ (m_i σ 1 c 3).toInt ≤ 1) (h4 : 1 ≤ (m_i σ 1 c 4).toInt ∧ (m_i σ 1 c 4).toInt ≤ 9999) (h5 : 1 ≤ (m_i σ 1 c 5).toInt ∧ (m_i σ 1 c 5).toInt ≤ 1000) (h6 : 0 ≤ (m_i σ 1 c 6).toInt ∧ (m_i σ 1 c 6).toInt ≤ 1000) (h0 : nfl σ (m_i σ 1 c 1)) (p : P61 σ (some (1, c)) w σ') :
    (w.toInt = -1 ∧ HI n N σ' ∧ fw_e (wl [(8, 7)]) σ σ' ∧ ((m_i σ 1 c 7).toInt = 2 ∨ (m_i σ 1 c 7).toInt = 3) ∧ pv σ (m_i σ 1 c 2).toNatClampNeg 1 = 0) ∨
    (CW n σ N c w σ' ∧ (oi σ' N 9 = 0 ∨ oi σ' N 9 = 1) ∧ ((m_i σ 1 c 7).toInt ≠ 0 → (m_i σ 1 c 7).toInt ≠ 3 → oi σ' N 9 = 0) ∧ ((m_i σ 1 c 7).toInt = 3 → pv σ (m_i σ 1 c 2).toNatClampNeg 1 = 0 → oi σ' N 9 = 1 ∧ oi σ' N 6 = (m_i σ 1 c 5).toInt)) := by
  obtain ⟨τ, A, q⟩ := d61 p
  obtain ⟨v, p64, hw⟩ := A.2.2.1 hk
  obtain ⟨hs, hn, ho, C, hm, hsc⟩ := h
  rcases lo64 hs hn ho C.2.2.1 hl h1 h2 h3 h4 h5 h6 h0 p64 with ⟨e1, rfl, e3, e4⟩ | ⟨e1, e2, e3, R, e5, e6, e7, e8, e9, e10, e11⟩
  · obtain ⟨H, G⟩ := qt (L := [(1, 0)]) (n := n) ⟨hs, hn, ho, C, hm, hsc⟩ fw_e.rf' C hsc q (by decide) rfl rfl
    exact Or.inl ⟨by rw [hw, i64, e1]; decide, H, G, e3, e4⟩
  · right
    obtain ⟨H, X, G⟩ := bh (n := n) (HS_RT hs R) e2 e3 (by rw [RT_9 R]; exact rt_ci R C) (by rw [((RT_fw R).2 2 0 6 rfl).1]; exact hsc) q
    have m := X.2.2.1 N (Nat.lt_succ_self N)
    have ex : ∀ o k, k = 1 ∨ k = 2 ∨ k = 3 ∨ k = 4 → m_i σ' 7 o k = m_i τ 7 o k := fun o k hk => X.2.1.1 o k (by omega)
    refine ⟨⟨?_, H, R.tr X.2.2.2.2, RT_k (R.tr X.2.2.2.2) C, fun o k hoN hk => (ex o k hk).trans (e5 o k hoN hk), e6.tr (fun o hoN => X.2.2.1 o (by omega)), ⟨(ex N 1 (by omega)).trans e7.1, (ex N 2 (by omega)).trans e7.2.1, (ex N 3 (by omega)).trans e7.2.2.1, (ex N 4 (by omega)).trans e7.2.2.2⟩, by omega⟩, by omega, fun a b => ?_, fun a b => ?_⟩
    · rw [hw, i64, e1, i_ofNat (by omega)]
    · have := e10 a b
      omega
    · obtain ⟨y1, y2, y3⟩ := e11 a b
      have G := G (fun i hi => by
        show (m_i τ 8 i 7).toInt = 0
        rw [y3]; exact hm i hi)
      have e7' : ∀ k, oi σ' N k = oi τ N k := fun k => by
        have : fwh (wl [(8, 7)]) 7 k = true := by unfold fwh; rfl
        exact congrArg Int32.toInt (G.2 7 N k this).1
      rw [e7', e7']
      exact ⟨y1, y2⟩
theorem k3 {n : Int} {N c : Nat} {σ σ' : mS} {w : Int64} (h : HI n N σ) (hk : (m_i σ 1 c 0).toInt = 3) (hl : N < 120) (h1 : 0 ≤ (m_i σ 1 c 1).toInt ∧ (m_i σ 1 c 1).toInt < 5) (h2 : 0 ≤ (m_i σ 1 c 2).toInt ∧ (m_i σ 1 c 2).toInt < 3) (h3 : 0 ≤ (m_i σ 1 c 3).toInt ∧ (m_i σ 1 c 3).toInt ≤ 1) (h4 : 1 ≤ (m_i σ 1 c 4).toInt ∧ (m_i σ 1 c 4).toInt ≤ 9999) (h5 : 1 ≤ (m_i σ 1 c 5).toInt ∧ (m_i σ 1 c 5).toInt ≤ 1000) (h0 : nfl σ (m_i σ 1 c 1)) (p : P61 σ (some (1, c)) w σ') :
    CW n σ N c w σ' ∧ oi σ' N 6 = (m_i σ 1 c 5).toInt ∧ oi σ' N 9 = 2 ∧ (∀ o, o < N → eO σ σ' o) ∧ m_i σ' 2 0 5 = m_i σ 2 0 5 := by
  obtain ⟨τ, A, q⟩ := d61 p
  obtain ⟨v, p65, hw, F⟩ := A.2.2.2.1 hk
  obtain ⟨hs, hn, ho, C, hm, hsc⟩ := h
  obtain ⟨e1, e2, e3, R, e5, e7, e8, e9⟩ := lo65 hs hn ho C.2.2.1 hl h1 h2 h3 h4 h5 h0 p65
  obtain ⟨H, X, G⟩ := bh (n := n) (HS_RT hs R) e2 e3 (by rw [RT_9 R]; exact rt_ci R C) (by rw [((RT_fw R).2 2 0 6 rfl).1]; exact hsc) q
  have G := G (fun i hi => by
    show (m_i τ 8 i 7).toInt = 0
    rw [(F.2 8 i 7 rfl).1]; exact hm i hi)
  have g7 : ∀ o k, m_i σ' 7 o k = m_i τ 7 o k := fun o k => by
    have : fwh (wl [(8, 7)]) 7 k = true := by unfold fwh; rfl
    exact (G.2 7 o k this).1
  have old : ∀ o, o < N → eO σ σ' o := fun o hoN => ⟨(g7 o 6).trans (e5 o 6 hoN (by omega)), (g7 o 7).trans (e5 o 7 hoN (by omega)), (g7 o 9).trans (e5 o 9 hoN (by omega))⟩
  have v6 : oi σ' N 6 = (m_i σ 1 c 5).toInt := (congrArg Int32.toInt (g7 N 6)).trans e8
  refine ⟨⟨by rw [hw, i64, e1, i_ofNat (by omega)], H, R.tr X.2.2.2.2, RT_k (R.tr X.2.2.2.2) C, fun o k hoN hk => (g7 o k).trans (e5 o k hoN (by omega)), fun o hoN => ?_, ⟨(g7 N 1).trans e7.1, (g7 N 2).trans e7.2.1, (g7 N 3).trans e7.2.2.1, (g7 N 4).trans e7.2.2.2⟩, by omega⟩, v6, (congrArg Int32.toInt (g7 N 9)).trans e9, old, ((G.2 2 0 5 rfl).1).trans (F.2 2 0 5 rfl).1⟩
  obtain ⟨y6, y7, y9⟩ := (old o hoN).o
  exact ⟨by omega, Or.inl y9⟩
theorem k4 {n : Int} {N c a b : Nat} {σ σ' : mS} {w : Int64} (h : HI n N σ) (hk : (m_i σ 1 c 0).toInt = 4) (ha : (m_i σ 1 c 1).toInt = a) (hb : (m_i σ 1 c 2).toInt = b) (ha' : a < N) (hb' : b < N) (hab : a ≠ b) (hmm : oi σ a 1 = oi σ b 1) (p : P61 σ (some (1, c)) w σ') : HI n N σ' ∧ fw_e (wl [(7, 12), (8, 7)]) σ σ' ∧ (∀ o k, m_i σ' 7 o k = m_i σ 7 o k) ∧ m_r σ' 7 a 12 ≠ none ∧ m_r σ' 7 b 12 ≠ none := by
  obtain ⟨τ, A, q⟩ := d61 p
  obtain ⟨v, p70, hw⟩ := A.2.2.2.2.1 hk
  obtain ⟨hs, hn, ho, C, hm, hsc⟩ := h
  obtain ⟨e1, R, e3, e4, e5, F⟩ := lo70 hn ho ha hb ha' hb' hab hmm p70
  have hn' : hN τ N := ⟨by rw [(F.2 0 0 1 rfl).1]; exact hn.1, hn.2⟩
  obtain ⟨H, X, G⟩ := bh (n := n) (HS_RT hs R) hn' e1 (by rw [RT_9 R]; exact rt_ci R C) (by rw [((RT_fw R).2 2 0 6 rfl).1]; exact hsc) q
  have G := G (fun i hi => by
    show (m_i τ 8 i 7).toInt = 0
    rw [(F.2 8 i 7 rfl).1]; exact hm i hi)
  have g7 : ∀ o k, m_i σ' 7 o k = m_i τ 7 o k := fun o k => by
    have : fwh (wl [(8, 7)]) 7 k = true := by unfold fwh; rfl
    exact (G.2 7 o k this).1
  have r7 : ∀ o, m_r σ' 7 o 12 = m_r τ 7 o 12 := fun o => (G.2 7 o 12 rfl).2.2
  exact ⟨H, (wl_mono F (by decide)).tr (wl_mono G (by decide)), fun o k => (g7 o k).trans (e3 o k), by rw [r7]; exact e4, by rw [r7]; exact e5⟩
theorem k6 {n : Int} {N c : Nat} {σ σ' : mS} {w : Int64} (h : HI n N σ) (hk : (m_i σ 1 c 0).toInt = 6) (h1 : 0 ≤ (m_i σ 1 c 1).toInt ∧ (m_i σ 1 c 1).toInt < 5) (hf : nfl σ (m_i σ 1 c 1)) (hne : (m_i σ 1 c 2).toInt ≠ (m_i σ 1 c 3).toInt) (h4 : 0 ≤ (m_i σ 1 c 4).toInt) (p : P61 σ (some (1, c)) w σ') : HI n N σ' ∧ OX N σ σ' ∧ kT σ σ' ∧ 0 ≤ w.toInt ∧ w.toInt ≤ (m_i σ 1 c 4).toInt := by
  obtain ⟨τ, A, q⟩ := d61 p
  obtain ⟨v, p72, hw⟩ := A.2.2.2.2.2.2.1 hk
  obtain ⟨hs, hn, ho, C, hm, hsc⟩ := h
  obtain ⟨X, w0, w1⟩ := sp72 hs hn ho h1 hf hne h4 p72
  have R := X.2.2.2.2
  obtain ⟨H, Y, _⟩ := bh (n := n) (HS_RT hs R) (X.hn hn) X.1 (by rw [RT_9 R]; exact rt_ci R C) (by rw [((RT_fw R).2 2 0 6 rfl).1]; exact hsc) q
  exact ⟨H, X.tr Y, RT_k (X.tr Y).2.2.2.2 C, by rw [hw, i64]; exact w0, by rw [hw, i64]; exact w1⟩
/-! opening: the price, and how much -/
theorem q10_s {σ : mS} {N : Nat} {c1 c2 : Int32} (hn : hN σ N) : ∀ n (u3 u4 w : Int32), Q10_5 σ c1 c2 n u3 u4 w → 0 ≤ u4.toInt → (u3.toInt = 0 ∨ ∃ o, o < N ∧ u3.toInt = oi σ o 4) → w.toInt = 0 ∨ ∃ o, o < N ∧ w.toInt = oi σ o 4 := by
  intro n
  induction n with
  | zero => intro u3 u4 w h; exact h.elim
  | succ n IH =>
    intro u3 u4 w h p0 hI
    have h : B10_5 σ c1 c2 (Q10_5 σ c1 c2 n) u3 u4 w := h
    have hN1 := hn.1
    have n4 := i_nat p0
    have e1 : u4.toInt < 120 → (u4 + Int32.ofInt 1).toInt = u4.toInt + 1 := fun _ => i_inc p0 (by omega)
    rcases h with ⟨_, rfl⟩ | ⟨hh, ⟨_, rfl⟩ | ⟨_, hr, v4, _, ⟨_, h⟩ | ⟨_, ⟨_, h⟩ | ⟨_, ⟨_, h⟩ | ⟨_, v11, _, ⟨_, h⟩ | ⟨_, h⟩⟩⟩⟩⟩⟩
    · exact hI
    · exact hI
    · exact IH _ _ _ h (by have := e1 hr.2; omega) hI
    · exact IH _ _ _ h (by have := e1 hr.2; omega) hI
    · exact IH _ _ _ h (by have := e1 hr.2; omega) (Or.inr ⟨u4.toNatClampNeg, by omega, rfl⟩)
    · exact IH _ _ _ h (by have := e1 hr.2; omega) hI
    · exact IH _ _ _ h (by have := e1 hr.2; omega) (Or.inr ⟨u4.toNatClampNeg, by omega, rfl⟩)
theorem p10 {σ : mS} {N : Nat} {x1 x2 v3 v7 : Int32} (hn : hN σ N) (ho : hO σ N) (hp : pO σ) (h : P10 σ x1 x2 v3) (h9 : P9 σ x1 v3 v7) : 0 < v7.toInt → 1 ≤ v3.toInt ∧ v3.toInt ≤ 9999 := by
  intro hv
  obtain ⟨n, hq⟩ := h
  rcases q10_s hn n _ _ _ hq (by rw [i_0]; omega) (Or.inl i_0) with z | ⟨o, ho', e⟩
  · exfalso
    obtain ⟨a, _, b, pb, e⟩ := h9
    have hb := p8 hn (lB_of ho hp) pb
    have z0 : sg (gd σ x1.toInt (Int32.ofInt 1).toInt v3.toInt (Int32.ofInt (-1)).toInt) (fun o => oi σ o 6) N = 0 := sg_n N (fun o hoN g => by
      obtain ⟨⟨_, _, s3⟩, ⟨_, g2⟩, _⟩ := g
      have one := i_1
      have g4 := (ho o hoN).2.2.2.1.1
      have := g2 (by omega)
      omega)
    rw [z0] at hb
    rw [e] at hv
    rcases jmin_c a b with ⟨y, _⟩ | ⟨y, y'⟩ <;> omega
  · have := (ho o ho').2.2.2.1
    omega
theorem k9 {n : Int} {N c ip : Nat} {σ σ' : mS} {w : Int64} (h : HI n N σ) (hk : (m_i σ 1 c 0).toInt = 9) (h1 : (m_i σ 1 c 1).toInt = ip) (hip : ip < 3) (p : P61 σ (some (1, c)) w σ') : HI n N σ' ∧ OX N σ σ' ∧ kT σ σ' ∧ ∃ v3 v7 : Int32, P10 σ (m_i σ 8 ip 0) (m_i σ 8 ip 3) v3 ∧ P9 σ (m_i σ 8 ip 0) v3 v7 ∧ 0 ≤ w.toInt ∧ (w.toInt ≤ v7.toInt ∨ v7.toInt < 0) := by
  obtain ⟨τ, A, q⟩ := d61 p
  obtain ⟨v, ⟨i1, e1, v3, p3', v7, p7', k, hq⟩, hw⟩ := (d62 h1 hip (A.2.1 (by omega))).2.2.1 hk
  cases e1
  obtain ⟨hs, hn, ho, C, hm, hsc⟩ := h
  have hv := p10 hn ho C.2.2.1 p3' p7'
  have hb0 : 0 ≤ v7.toInt := by
    obtain ⟨a, pa, b, pb, e⟩ := p7'
    have lb := lB_of ho C.2.2.1
    have ha := (sg_b (G := gd σ (m_i σ 8 ip 0).toInt (Int32.ofInt 0).toInt v3.toInt (Int32.ofInt (-1)).toInt) lb N (Nat.le_refl _)).1
    have hb := (sg_b (G := gd σ (m_i σ 8 ip 0).toInt (Int32.ofInt 1).toInt v3.toInt (Int32.ofInt (-1)).toInt) lb N (Nat.le_refl _)).1
    rw [← p8 hn lb pa] at ha
    rw [← p8 hn lb pb] at hb
    rw [e]
    rcases jmin_c a b with ⟨y, _⟩ | ⟨y, y'⟩ <;> omega
  obtain ⟨X, ⟨w0, w1⟩, _⟩ := q74_s hip hv k _ _ σ v τ hq hs hn ho (by rw [i_0]; omega) (by rw [i_0]; exact hb0)
  have R := X.2.2.2.2
  obtain ⟨H, Y, _⟩ := bh (n := n) (HS_RT hs R) (X.hn hn) X.1 (by rw [RT_9 R]; exact rt_ci R C) (by rw [((RT_fw R).2 2 0 6 rfl).1]; exact hsc) q
  exact ⟨H, X.tr Y, RT_k (X.tr Y).2.2.2.2 C, v3, v7, p3', p7', by rw [hw, i64]; exact w0, Or.inl (by rw [hw, i64]; exact w1)⟩
