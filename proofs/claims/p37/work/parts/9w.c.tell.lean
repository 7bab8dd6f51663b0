/-! the feed tells: a message of each level that became another -/
theorem lv_HS {σ : mS} (hs : HS σ) {a n : Nat} (ha : a < 4) (hn : (m_i σ 5 a 2).toInt = n) (h : n ≤ 480) : lv σ a (6 + 2 * a) (7 + 2 * a) n := ⟨HS_k5 hs a ha, HS_q5 hs a ha, (HS_ln5 hs ha).1, (HS_ln5 hs ha).2, hn, h, by omega⟩
def tb (σ : mS) (a n : Nat) : Prop := ((m_i σ 5 a 2).toInt = n ∧ n ≤ 480) ∧ lS σ (6 + 2 * a) n ∧ ∀ i, i < n → 0 ≤ lK σ (6 + 2 * a) i ∧ lK σ (6 + 2 * a) i < 1000000
theorem tb_of {σ σ' : mS} {a n : Nat} (h : tb σ a n) (e2 : m_i σ' 5 a 2 = m_i σ 5 a 2) (ek : ∀ i, m_i σ' 13 (6 + 2 * a) i = m_i σ 13 (6 + 2 * a) i) : tb σ' a n := by
  have e : ∀ i, lK σ' (6 + 2 * a) i = lK σ (6 + 2 * a) i := fun i => congrArg Int32.toInt (ek i)
  unfold tb lS
  simp only [e2, e]
  exact h
def ms (σ : mS) (c : Nat) (MK MQ : Nat → Int) : Prop := (m_i σ 3 0 5).toInt = c ∧ ∀ j, j < c → c ≤ j + 30 → (m_i σ 13 4 (j % 30)).toInt = MK j ∧ (m_i σ 13 5 (j % 30)).toInt = MQ j
def lst (c0 : Nat) (MK : Nat → Int) (c : Nat) : Int := if c = c0 then -1 else MK (c - 1)
/-- the messages from c0 to c are the differences in their order -/
def tl (n : Nat) (K Q : Nat → Int) (m : Nat) (K' Q' : Nat → Int) (c0 c : Nat) (MK MQ : Nat → Int) : Prop := ∀ j, c0 ≤ j → j < c → nD n K Q m K' Q' (lst c0 MK j) (MK j) ∧ MK j ≠ -1 ∧ pM n K Q (MK j) (MQ j)
theorem lst_of {c0 c : Nat} {MK MK' : Nat → Int} (h : ∀ j, j < c → MK' j = MK j) (hc : c0 ≤ c) : lst c0 MK' c = lst c0 MK c := by
  unfold lst
  by_cases e : c = c0
  · rw [if_pos e, if_pos e]
  · rw [if_neg e, if_neg e, h (c - 1) (by omega)]
theorem ms_add {σ σ' : mS} {c : Nat} {MK MQ : Nat → Int} {key q : Int32} (hs : HS σ) (h : ms σ c MK MQ) (hc : c < 1000000) (p : P54 σ key q σ') : ms σ' (c + 1) (fun j => if j = c then key.toInt else MK j) (fun j => if j = c then q.toInt else MQ j) ∧ (∀ i j, i ≠ 4 → i ≠ 5 → m_i σ' 13 i j = m_i σ 13 i j) ∧ (∀ i k, m_i σ' 5 i k = m_i σ 5 i k) := by
  obtain ⟨h1, h2⟩ := h
  obtain ⟨_, v, hv, e⟩ := s54 (t := 0) (mk := 4) (mq := 5) ⟨HS_g3_0 hs, HS_g3_1 hs⟩ (by omega) p
  have nv := i_nat (a := v) (by omega)
  have vc : v.toNatClampNeg = c % 30 := by omega
  rw [vc] at e
  refine ⟨⟨?_, fun j hj hjc => ?_⟩, fun i j h4 h5 => ?_, fun i k => ?_⟩
  · rw [e, mi_si, if_pos ⟨rfl, rfl, rfl⟩, i_inc (by omega) (by omega)]; omega
  · have r4 : m_i σ' 13 4 (j % 30) = if j % 30 = c % 30 then key else m_i σ 13 4 (j % 30) := by
      rw [e, mi_si, if_neg (fun z => by cases z.1), mi_si, if_neg (fun z => by cases z.2.1), mi_si]
      by_cases y : j % 30 = c % 30
      · rw [if_pos ⟨rfl, rfl, y⟩, if_pos y]
      · rw [if_neg (fun z => y z.2.2), if_neg y]
    have r5 : m_i σ' 13 5 (j % 30) = if j % 30 = c % 30 then q else m_i σ 13 5 (j % 30) := by
      rw [e, mi_si, if_neg (fun z => by cases z.1), mi_si]
      by_cases y : j % 30 = c % 30
      · rw [if_pos ⟨rfl, rfl, y⟩, if_pos y]
      · rw [if_neg (fun z => y z.2.2), if_neg y, mi_si, if_neg (fun z => by cases z.2.1)]
    rw [r4, r5]
    by_cases y : j = c
    · rw [if_pos (by rw [y]), if_pos (by rw [y])]
      simp only [if_pos y]
      exact ⟨trivial, trivial⟩
    · rw [if_neg (by omega), if_neg (by omega)]
      simp only [if_neg y]
      exact h2 j (by omega) (by omega)
  · rw [e, mi_si, if_neg (fun z => by cases z.1), mi_si, if_neg (fun z => h5 z.2.1), mi_si, if_neg (fun z => h4 z.2.1)]
  · rw [e, mi_si, if_neg (fun z => by cases z.1), mi_si, if_neg (fun z => by cases z.1), mi_si, if_neg (fun z => by cases z.1)]
/-- what a telling leaves -/
def tD (n : Nat) (K Q : Nat → Int) (m : Nat) (K' Q' : Nat → Int) (β : mS) (f t c0 c : Nat) (MK MQ : Nat → Int) (σ' : mS) : Prop := ∃ (c' : Nat) (MK' MQ' : Nat → Int), c ≤ c' ∧ c' ≤ c0 + n + m ∧ ms σ' c' MK' MQ' ∧ (∀ j, j < c → MK' j = MK j ∧ MQ' j = MQ j) ∧ tl n K Q m K' Q' c0 c' MK' MQ' ∧ nD n K Q m K' Q' (lst c0 MK' c') (-1) ∧ m_r σ' 3 0 3 = some (5, t) ∧ m_r σ' 3 0 4 = some (5, f) ∧ (∀ i j, i ≠ 4 → i ≠ 5 → m_i σ' 13 i j = m_i β 13 i j) ∧ (∀ i k, m_i σ' 5 i k = m_i β 5 i k)
theorem q53_s {n m f t c0 : Nat} {β : mS} (hf : f < 4) (ht : t < 4) (hB : tb β f n) (hB' : tb β t m) (hnm : n + m ≤ 240) (hc0 : c0 ≤ 900000) : ∀ N (u2 u3 : Int32) (τ σ' : mS) (c : Nat) (MK MQ : Nat → Int), Q53_23 N u2 u3 τ σ' → HS τ → m_r τ 3 0 3 = some (5, f) → m_r τ 3 0 4 = some (5, t) → (∀ i j, i ≠ 4 → i ≠ 5 → m_i τ 13 i j = m_i β 13 i j) → (∀ i k, m_i τ 5 i k = m_i β 5 i k) → ms τ c MK MQ → c0 ≤ c → u3.toInt = (c : Int) - c0 → tl n (lK β (6 + 2 * f)) (lQ β (7 + 2 * f)) m (lK β (6 + 2 * t)) (lQ β (7 + 2 * t)) c0 c MK MQ → nD n (lK β (6 + 2 * f)) (lQ β (7 + 2 * f)) m (lK β (6 + 2 * t)) (lQ β (7 + 2 * t)) (lst c0 MK c) u2.toInt → (∃ p p', pl n (lK β (6 + 2 * f)) (lst c0 MK c) p ∧ pl m (lK β (6 + 2 * t)) (lst c0 MK c) p' ∧ u3.toInt ≤ p + p') → tD n (lK β (6 + 2 * f)) (lQ β (7 + 2 * f)) m (lK β (6 + 2 * t)) (lQ β (7 + 2 * t)) β f t c0 c MK MQ σ' := by
  intro N
  induction N with
  | zero => intro u2 u3 τ σ' c MK MQ h; exact h.elim
  | succ N IH =>
    intro u2 u3 τ σ' c MK MQ h0 hs r3 r4 e13 e5 hM hc hu htl hd hp
    have h : B53_23 (Q53_23 N) u2 u3 τ σ' := h0
    clear h0
    obtain ⟨p, p', q1, q2, q3⟩ := hp
    have pn1 := q1.1
    have pn2 := q2.1
    have swap : ∀ {τ' : mS}, τ' = m_set (m_set τ 3 0 4 (.inr (.inr (m_r τ 3 0 3)))) 3 0 3 (.inr (.inr (m_r τ 3 0 4))) → m_r τ' 3 0 3 = some (5, t) ∧ m_r τ' 3 0 4 = some (5, f) ∧ (∀ c i k, m_i τ' c i k = m_i τ c i k) := by
      intro τ' e
      refine ⟨?_, ?_, fun c i k => ?_⟩
      · rw [e, mr_sr, if_pos ⟨rfl, rfl, rfl⟩, r4]
      · rw [e, mr_sr, if_neg (fun z => by cases z.2.2), mr_sr, if_pos ⟨rfl, rfl, rfl⟩, r3]
      · rw [e, mi_sr, mi_sr]
    rcases h with ⟨z, _⟩ | ⟨_, ⟨z, σ10, e10, σ13, e13', rfl⟩ | ⟨hne, i15, ei, v17, σ18, F18, p78, σ22, F22, p54, i25, ei25, v27, σ28, F28, p86, h⟩⟩
    · omega
    · rw [e10] at e13'
      have e13'' : σ' = m_set (m_set τ 3 0 4 (.inr (.inr (m_r τ 3 0 3)))) 3 0 3 (.inr (.inr (m_r τ 3 0 4))) := e13'
      obtain ⟨a1, a2, a3⟩ := swap e13''
      rw [z] at hd
      refine ⟨c, MK, MQ, Nat.le_refl _, by omega, ?_, fun _ _ => ⟨rfl, rfl⟩, htl, hd, a1, a2, fun i j h4 h5 => (a3 13 i j).trans (e13 i j h4 h5), fun i k => (a3 5 i k).trans (e5 i k)⟩
      unfold ms
      simp only [a3]
      exact hM
    · rw [r3] at ei
      cases ei
      have K1 : ∀ {ρ : mS}, (∀ i j, i ≠ 4 → i ≠ 5 → m_i ρ 13 i j = m_i β 13 i j) → lK ρ (6 + 2 * f) = lK β (6 + 2 * f) ∧ lQ ρ (7 + 2 * f) = lQ β (7 + 2 * f) ∧ lK ρ (6 + 2 * t) = lK β (6 + 2 * t) ∧ lQ ρ (7 + 2 * t) = lQ β (7 + 2 * t) := fun e => ⟨funext fun i => congrArg Int32.toInt (e _ i (by omega) (by omega)), funext fun i => congrArg Int32.toInt (e _ i (by omega) (by omega)), funext fun i => congrArg Int32.toInt (e _ i (by omega) (by omega)), funext fun i => congrArg Int32.toInt (e _ i (by omega) (by omega))⟩
      obtain ⟨kt1, kt2, kt3, kt4⟩ := K1 e13
      have LS : ∀ {ρ : mS} {a k : Nat}, lK ρ (6 + 2 * a) = lK β (6 + 2 * a) → tb β a k → lS ρ (6 + 2 * a) k := fun e g => by
        unfold lS; rw [e]; exact g.2.1
      have tf : lv τ f (6 + 2 * f) (7 + 2 * f) n := lv_HS hs hf (by rw [e5]; exact hB.1.1) hB.1.2
      obtain ⟨v, hv, e18, hm⟩ := s78 tf (LS kt1 hB) p78
      cases hv
      subst e18
      rw [show lM σ18 (6 + 2 * f) (7 + 2 * f) n u2.toInt v17.toInt = pM n (lK σ18 (6 + 2 * f)) (lQ σ18 (7 + 2 * f)) u2.toInt v17.toInt from rfl, kt1, kt2] at hm
      obtain ⟨M1, M2, M3⟩ := ms_add hs hM (by omega) p54
      have hs22 := HS_w hs F22 (by decide)
      have r3' : m_r σ22 3 0 3 = some (5, f) := ((F22.2 3 0 3 rfl).2.2).trans r3
      have r4' : m_r σ22 3 0 4 = some (5, t) := ((F22.2 3 0 4 rfl).2.2).trans r4
      rw [r3'] at ei25
      cases ei25
      rw [r4'] at p86
      have e13' : ∀ i j, i ≠ 4 → i ≠ 5 → m_i σ22 13 i j = m_i β 13 i j := fun i j h4 h5 => (M2 i j h4 h5).trans (e13 i j h4 h5)
      have e5' : ∀ i k, m_i σ22 5 i k = m_i β 5 i k := fun i k => (M3 i k).trans (e5 i k)
      obtain ⟨ku1, ku2, ku3, ku4⟩ := K1 e13'
      have ub : 0 ≤ u2.toInt ∧ u2.toInt < 1000000 := by
        rcases hd with ⟨z, _⟩ | ⟨_, a, b, _⟩
        · exact absurd z hne
        · exact ⟨a, b⟩
      obtain ⟨r, hr, e28, hd'⟩ := s86 (lv_HS hs22 hf (by rw [e5']; exact hB.1.1) hB.1.2) (LS ku1 hB) (lv_HS hs22 ht (by rw [e5']; exact hB'.1.1) hB'.1.2) (LS ku3 hB') (by omega) (by rw [ku1]; exact hB.2.2) (by rw [ku3]; exact hB'.2.2) (by omega) p86
      cases hr
      subst e28
      rw [ku1, ku2, ku3, ku4] at hd'
      have eK : ∀ j, j < c → (fun j => if j = c then u2.toInt else MK j) j = MK j := fun j hj => if_neg (by omega)
      have l1 : lst c0 (fun j => if j = c then u2.toInt else MK j) (c + 1) = u2.toInt := by
        unfold lst
        rw [if_neg (by omega)]
        exact if_pos (by omega)
      obtain ⟨q, q', g1, g2, g3⟩ := nD_pl hB.2.1 hB'.2.1 q1 q2 hd hne
      have T : tl n (lK β (6 + 2 * f)) (lQ β (7 + 2 * f)) m (lK β (6 + 2 * t)) (lQ β (7 + 2 * t)) c0 (c + 1) (fun j => if j = c then u2.toInt else MK j) (fun j => if j = c then v17.toInt else MQ j) := by
        intro j j1 j2
        by_cases y : j = c
        · subst y
          have l0 : lst c0 (fun i => if i = j then u2.toInt else MK i) j = lst c0 MK j := lst_of (fun i hi => if_neg (by omega)) j1
          rw [l0]
          simp only [if_pos rfl]
          exact ⟨hd, hne, hm⟩
        · have l0 : lst c0 (fun i => if i = c then u2.toInt else MK i) j = lst c0 MK j := lst_of (fun i hi => if_neg (by omega)) j1
          rw [l0]
          simp only [if_neg y]
          exact htl j j1 (by omega)
      obtain ⟨c', MK', MQ', x1, x2, x3, x4, x5, x6, x7, x8, x9, x10⟩ := IH v27 (u3 + Int32.ofInt 1) σ28 σ' (c + 1) _ _ h hs22 r3' r4' e13' e5' M1 (by omega) (by rw [i_inc (by omega) (by omega)]; omega) T (by rw [l1]; exact hd') (by rw [l1]; exact ⟨q, q', g1, g2, by rw [i_inc (by omega) (by omega)]; omega⟩)
      refine ⟨c', MK', MQ', by omega, x2, x3, fun j hj => ?_, x5, x6, x7, x8, x9, x10⟩
      have y := x4 j (by omega)
      simp only [if_neg (show ¬ j = c by omega)] at y
      exact y
