/-! a reader reads, copies, is right -/
theorem pS_le {K K' : Nat → Int} {n m : Nat} (hS : pS n K) (hS' : pS m K') (h : ∀ i, i < n → ∃ j, j < m ∧ K i = K' j) : n ≤ m := by
  have key : ∀ i, i < n → ∃ j, i ≤ j ∧ j < m ∧ K i = K' j := by
    intro i
    induction i with
    | zero =>
      intro hi
      obtain ⟨j, j1, j2⟩ := h 0 hi
      exact ⟨j, Nat.zero_le _, j1, j2⟩
    | succ i IH =>
      intro hi
      obtain ⟨j, j0, j1, j2⟩ := IH (by omega)
      obtain ⟨j', j1', j2'⟩ := h (i + 1) hi
      refine ⟨j', ?_, j1', j2'⟩
      have a := hS i (i + 1) (by omega) hi
      rcases Nat.lt_trichotomy j j' with y | y | y
      · omega
      · rw [y] at j2; omega
      · have := hS' j' j y j1; omega
  rcases Nat.eq_zero_or_pos n with z | z
  · omega
  · obtain ⟨j, a, b, _⟩ := key (n - 1) (by omega)
    omega
def rd (σ : mS) (r n x : Nat) : Prop := tb σ (2 + r) n ∧ (∀ i, i < n → lQ σ (7 + 2 * (2 + r)) i ≠ 0) ∧ (m_i σ 9 r 1).toInt = x
abbrev rK (σ : mS) (r : Nat) : Nat → Int := lK σ (6 + 2 * (2 + r))
abbrev rQ (σ : mS) (r : Nat) : Nat → Int := lQ σ (7 + 2 * (2 + r))
/-- a copy that agrees with what was told is no longer than it -/
theorem cp_n {n m : Nat} {K Q K' Q' : Nat → Int} (hS : pS n K) (hS' : pS m K') (h0 : ∀ i, i < n → 0 ≤ K i) (hz : ∀ i, i < n → Q i ≠ 0) (h : ∀ k, -1 < k → ∀ v, pM m K' Q' k v → pM n K Q k v) : n ≤ m := by
  refine pS_le hS hS' (fun i hi => ?_)
  obtain ⟨v, hv⟩ := pM_ex (K := K') (Q := Q') (k := K i) m
  have g := h (K i) (by have := h0 i hi; omega) v hv
  have e := pM_uni hS g (Or.inl ⟨i, hi, rfl, rfl⟩)
  rcases hv with ⟨j, j1, j2, _⟩ | ⟨_, z⟩
  · exact ⟨j, j1, j2.symm⟩
  · exact absurd (by omega) (hz i hi)
theorem s55r {σ σ' : mS} {r n c x : Nat} {MK MQ : Nat → Int} {w : Int32} (hs : HS σ) (hr : r < 2) (hM : ms σ c MK MQ) (hd : rd σ r n x) (hn8 : n < 480) (hx : x ≤ c) (hc : c ≤ 1000000) (hk : ∀ j, j < c → 0 ≤ MK j ∧ MK j < 1000000) (p : P55 σ (some (9, r)) w σ') :
    (x = c ∧ w = Int32.ofInt (-1) ∧ σ' = σ) ∨
    (x + 30 < c ∧ w = Int32.ofInt (-2) ∧ σ' = m_set σ 9 r 1 (.inl (m_i σ 3 0 5 - Int32.ofInt 30))) ∨
    (x < c ∧ c ≤ x + 30 ∧ w.toInt = MK x ∧ ∃ n', rd σ' r n' (x + 1) ∧ pR n (rK σ r) (rQ σ r) n' (rK σ' r) (rQ σ' r) (MK x) (MQ x) ∧ (∀ i j, i ≠ 6 + 2 * (2 + r) → i ≠ 7 + 2 * (2 + r) → m_i σ' 13 i j = m_i σ 13 i j) ∧ (∀ i, i ≠ 2 + r → m_i σ' 5 i 2 = m_i σ 5 i 2) ∧ (∀ i, i ≠ r → m_i σ' 9 i 1 = m_i σ 9 i 1)) := by
  obtain ⟨t1, t2, t3⟩ := hd
  have hM1 := hM.1
  rcases s55 (t := 0) (rd := r) (mk := 4) (mq := 5) (a := 2 + r) (ka := 6 + 2 * (2 + r)) (qa := 7 + 2 * (2 + r)) (n := n) ⟨HS_g3_0 hs, HS_g3_1 hs⟩ (HS_c9 hs r hr) (lv_HS hs (by omega) t1.1.1 t1.1.2) t1.2.1 hn8 (by omega) (by omega) (by omega) (by omega) p with ⟨a1, a2, a3⟩ | ⟨a1, a2, a3⟩ | ⟨a1, a2, v, n', a3, a4, a5, a6, a7⟩
  · cases a2
    exact Or.inl ⟨by omega, rfl, a3⟩
  · cases a2
    exact Or.inr (Or.inl ⟨by omega, rfl, a3⟩)
  · right; right
    have nv := i_nat (a := v) (by omega)
    have vx : v.toNatClampNeg = x % 30 := by omega
    rw [vx] at a4 a7
    obtain ⟨m1, m2⟩ := hM.2 x (by omega) (by omega)
    rw [m1, m2] at a7
    have kx := hk x (by omega)
    have e0 : ∀ {c i k : Nat}, ¬ l5 (2 + r) (6 + 2 * (2 + r)) (7 + 2 * (2 + r)) c i k → m_i σ' c i k = m_i (m_set σ 9 r 1 (.inl (m_i σ 9 r 1 + Int32.ofInt 1))) c i k := fun h => (a5.2.2 _ _ _ h).1
    obtain ⟨b1, b2, b3, b4, b5, b6⟩ := a7
    refine ⟨by omega, by omega, by cases a4; exact m1, n', ⟨⟨⟨a6.2.2.2.2.1, a6.2.2.2.2.2.1⟩, b2, fun i hi => ?_⟩, b6 t2, ?_⟩, ⟨b1, b2, b3, b4, b5, b6⟩, fun i j hi hj => ?_, fun i hi => ?_, fun i hi => ?_⟩
    · rcases b5 i hi with z | ⟨j, j1, j2⟩
      · show 0 ≤ lK σ' _ i ∧ lK σ' _ i < 1000000
        omega
      · have := t1.2.2 j j1
        show 0 ≤ lK σ' _ i ∧ lK σ' _ i < 1000000
        omega
    · rw [e0 (fun z => by rcases z with z | z <;> exact absurd z.1 (by decide)), mi_si, if_pos ⟨rfl, rfl, rfl⟩, i_inc (by omega) (by omega)]
      omega
    · rw [e0 (fun z => by
        rcases z with z | z
        · exact absurd z.1 (by decide)
        · rcases z.2 with y | y
          · exact hi y
          · exact hj y), mi_si, if_neg (fun z => by cases z.1)]
    · rw [e0 (fun z => by
        rcases z with z | z
        · exact hi z.2.1
        · exact absurd z.1 (by decide)), mi_si, if_neg (fun z => by cases z.1)]
    · rw [e0 (fun z => by rcases z with z | z <;> exact absurd z.1 (by decide)), mi_si, if_neg (fun z => hi z.2.1)]
/-- a reader that was right before the latest call, on its way -/
def ST (n : Nat) (K Q : Nat → Int) (c : Nat) (MK MQ : Nat → Int) (nr : Nat) (Kr Qr : Nat → Int) (x c0 : Nat) : Prop := c0 ≤ x ∧ x ≤ c ∧ nr ≤ 120 + (x - c0) ∧ ∃ (m : Nat) (K' Q' : Nat → Int), pS m K' ∧ tl n K Q m K' Q' c0 c MK MQ ∧ nD n K Q m K' Q' (lst c0 MK c) (-1) ∧ cp n K Q m K' Q' nr Kr Qr (lst c0 MK x)
theorem nD_b {n m : Nat} {K Q K' Q' : Nat → Int} {a b : Int} (h : nD n K Q m K' Q' a b) (hb : b ≠ -1) : a < b ∧ 0 ≤ b ∧ b < 1000000 := by
  rcases h with ⟨z, _⟩ | ⟨h1, h2, h3, _⟩
  · exact absurd z hb
  · exact ⟨h1, h2, h3⟩
theorem ST_s {n c nr nr' x c0 : Nat} {K Q MK MQ Kr Qr Kr' Qr' : Nat → Int} (hS : pS n K) (h : ST n K Q c MK MQ nr Kr Qr x c0) (hx : x < c) (hp : pR nr Kr Qr nr' Kr' Qr' (MK x) (MQ x)) : ST n K Q c MK MQ nr' Kr' Qr' (x + 1) c0 := by
  obtain ⟨h1, h2, h3, m, K', Q', hS', ht, hd, hc⟩ := h
  obtain ⟨t1, t2, t3⟩ := ht x h1 hx
  have hp1 := hp.1
  refine ⟨by omega, by omega, by omega, m, K', Q', hS', ht, hd, ?_⟩
  have l1 : lst c0 MK (x + 1) = MK x := by
    unfold lst
    rw [if_neg (by omega)]
    rfl
  have lb : -1 ≤ lst c0 MK x := by
    unfold lst
    by_cases e : x = c0
    · rw [if_pos e]; omega
    · rw [if_neg e]
      obtain ⟨u1, u2, _⟩ := ht (x - 1) (by omega) (by omega)
      have := nD_b u1 u2
      omega
  rw [l1]
  exact cp_s hS lb hc t1 t2 t3 hp
/-- at the end it is right -/
theorem ST_e {n c nr c0 : Nat} {K Q MK MQ Kr Qr : Nat → Int} (h : ST n K Q c MK MQ nr Kr Qr c c0) : ∀ k, -1 < k → ∀ v, pM n K Q k v → pM nr Kr Qr k v := by
  obtain ⟨_, _, _, m, K', Q', _, ht, hd, hc⟩ := h
  exact cp_e hc hd
/-- a reader that is right and behind nothing: so it starts -/
theorem ST_0 {n m c c' nr : Nat} {K Q K' Q' MK MQ Kr Qr : Nat → Int} (hS' : pS m K') (hc : c ≤ c') (ht : tl n K Q m K' Q' c c' MK MQ) (hd : nD n K Q m K' Q' (lst c MK c') (-1)) (hr : nr ≤ 120) (h : ∀ k, -1 < k → ∀ v, pM m K' Q' k v → pM nr Kr Qr k v) : ST n K Q c' MK MQ nr Kr Qr c c := by
  refine ⟨Nat.le_refl _, hc, by omega, m, K', Q', hS', ht, hd, ?_⟩
  have l0 : lst c MK c = -1 := if_pos rfl
  rw [l0]
  exact cp_0 h
