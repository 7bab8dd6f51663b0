/-! the constructor of Books: its loop as one change of the heap -/
theorem m_agree_of {σ τ : mS} (h1 : ∀ c, σ.1 c = τ.1 c) (h2 : ∀ c i, 13 ≤ c → σ.2.1 c i = τ.2.1 c i) (h3 : ∀ c i k, σ.2.2.1 c i k = τ.2.2.1 c i k) (h4 : ∀ c i k, σ.2.2.2.1 c i k = τ.2.2.2.1 c i k) (h5 : ∀ c i k, σ.2.2.2.2 c i k = τ.2.2.2.2 c i k) : m_agree σ τ :=
  ⟨h1, fun c i hc _ => h2 c i hc, fun c i k _ _ _ => by unfold m_get m_i m_l m_r; rw [h3, h4, h5]⟩
def m_lpB (σ : mS) (n : Nat) : mS := (fun c => if c = 7 then n else σ.1 c, fun c i => if c = 17 ∧ i = 0 then 120 else σ.2.1 c i, fun c i k => if c = 7 then (if k = 0 then nI i else 0) else σ.2.2.1 c i k, fun c i k => if c = 7 then 0 else σ.2.2.2.1 c i k, fun c i k => if c = 17 ∧ i = 0 then (if k < n then some (7, k) else σ.2.2.2.2 c i k) else if c = 7 then none else σ.2.2.2.2 c i k)
theorem m_lpB_0 {σ : mS} (h : σ.1 7 = 0) (hn0 : σ.2.1 17 0 = 120) : m_agree σ (m_lpB σ 0) := by
  refine ⟨fun c => ?_, fun c i _ _ => ?_, fun c i k hi h1 h2 => ?_⟩
  · show σ.1 c = if c = 7 then 0 else σ.1 c
    by_cases e : c = 7
    · rw [if_pos e, e]; exact h
    · rw [if_neg e]
  · show σ.2.1 c i = if c = 17 ∧ i = 0 then 120 else σ.2.1 c i
    by_cases e : c = 17 ∧ i = 0
    · rw [if_pos e, e.1, e.2]; exact hn0
    · rw [if_neg e]
  · have e : c ≠ 7 := fun z => by rw [z, h] at hi; exact absurd hi (Nat.not_lt_zero _)
    have hr : (m_lpB σ 0).2.2.2.2 c i k = σ.2.2.2.2 c i k := by
      show (if c = 17 ∧ i = 0 then (if k < 0 then some (7, k) else σ.2.2.2.2 c i k) else if c = 7 then none else σ.2.2.2.2 c i k) = _
      rw [if_neg e]
      by_cases g : c = 17 ∧ i = 0
      · rw [if_pos g, if_neg (Nat.not_lt_zero k)]
      · rw [if_neg g]
    have hn : (m_lpB σ 0).2.2.1 c i k = σ.2.2.1 c i k := if_neg e
    have hl : (m_lpB σ 0).2.2.2.1 c i k = σ.2.2.2.1 c i k := if_neg e
    unfold m_get m_i m_l m_r
    rw [hr, hn, hl]
theorem m_lpB_s {σ : mS} (n : Nat) : m_agree (m_set (m_set (m_nu (m_lpB σ n) 7 0) 7 n 0 (.inl (nI n))) 17 0 n (.inr (.inr (some (7, n))))) (m_lpB σ (n + 1)) := by
  refine m_agree_of (fun c => ?_) (fun c i hc => ?_) (fun c i k => ?_) (fun c i k => ?_) (fun c i k => ?_)
  · rw [m_set_1, m_set_1]
    by_cases e : c = 7
    · subst e; rw [m_nu_cnt]; rfl
    · rw [m_nu_cntO _ e]
      show (if c = 7 then n else σ.1 c) = (if c = 7 then n + 1 else σ.1 c)
      rw [if_neg e, if_neg e]
  · rw [m_set_2, m_set_2]
    rw [m_nu_len _ (fun z => by omega)]
    rfl
  · show m_up (m_zi (m_lpB σ n).2.2.1 7 n 0) 7 n 0 (nI n) c i k = if c = 7 then (if k = 0 then nI i else 0) else σ.2.2.1 c i k
    unfold m_up m_zi m_lpB
    by_cases e : c = 7
    · by_cases e2 : i = n
      · by_cases e3 : k = 0 <;> simp [e, e2, e3]
      · simp [e, e2]
    · simp [e]
  · show m_zi (m_lpB σ n).2.2.2.1 7 n 0 c i k = if c = 7 then 0 else σ.2.2.2.1 c i k
    unfold m_zi m_lpB
    by_cases e : c = 7
    · by_cases e2 : i = n <;> simp [e, e2]
    · simp [e]
  · show m_up (m_zi (m_lpB σ n).2.2.2.2 7 n none) 17 0 n (some (7, n)) c i k = if c = 17 ∧ i = 0 then (if k < n + 1 then some (7, k) else σ.2.2.2.2 c i k) else if c = 7 then none else σ.2.2.2.2 c i k
    unfold m_up m_zi m_lpB
    by_cases e : c = 17
    · by_cases e2 : i = 0
      · by_cases e3 : k = n
        · simp [e, e2, e3]
        · have : k < n + 1 ↔ k < n := by omega
          simp [e, e2, e3, this]
      · simp [e, e2]
    · by_cases e4 : c = 7
      · simp [e4]
      · simp [e, e4]
theorem con_X0_init {l : Launch} (hl : l.stackTraces = false) {σ : mS} {Q : mX → mS → Prop} (h7 : σ.1 7 = 0) (h17 : σ.1 17 = 0) (h : Q (.inl none) (m_lpB (m_set (m_nu σ 17 120) 0 0 0 (.inr (.inr (some (17, 0))))) 120)) : m_Con l yX0_init (m_W yX0_init cX0_init 2 none) rm_X0_init 121 1680 [.inr (.inr (some (0, 0)))] σ Q := by
  refine m_con_go hl (m_bigC hl 1) ok_X0_init (by decide +kernel) (Nat.le_of_ble_eq_true rfl) (fun _ => rfl) fun J hS hA hW => ?_
  have loop : ∀ d i, i + d = 120 → J 15 [some (.inr (.inr (some (0, 0)))), some (.inl (nI i))] [] (m_lpB (m_set (m_nu σ 17 120) 0 0 0 (.inr (.inr (some (17, 0))))) i) (1 + i) (120 + 13 * i) := by
    intro d
    induction d with
    | zero =>
      intro i hi
      have hi : i = 120 := hi
      subst hi
      apply hS [15] 1000
      repeat' first
        | rfl
        | exact Nat.le_of_ble_eq_true rfl
        | (apply And.intro)
        | (intro h0; exact absurd (show Int32.ofNat 120 ≤ nI 120 by decide) h0)
        | intro h0
      exact h
    | succ d ih =>
      intro i hi
      have hlt : i < 120 := by omega
      have ihn := ih (i + 1) (by omega)
      rw [nI_succ] at ihn
      apply hS [15] 1000
      repeat' first
        | rfl
        | exact Nat.le_of_ble_eq_true rfl
        | exact Or.inl rfl
        | exact vp_in_nI hlt (by decide)
        | (intro h0; exact absurd h0 (nI_ge (a := i) (b := 120) hlt (by decide)))
        | (apply And.intro)
        | (apply Or.inr)
        | intro h0
      all_goals first
        | (show 1 + i + 1 ≤ 121; omega)
        | (show 120 + 13 * i + 13 ≤ 1680; omega)
        | (show 1 + i + 1 + 0 ≤ 121; omega)
        | (show 120 + 13 * i + 13 + 0 ≤ 1680; omega)
        | (exact vp_in_nI hlt (by decide) h0)
        | skip
      generalize ht : m_set (m_nu σ 17 120) 0 0 0 (Sum.inr (Sum.inr (some (17, 0)))) = τ at ihn ⊢
      show J 15 [some (.inr (.inr (some (0, 0)))), some (.inl (nI i + 1))] [] (m_set (m_set (m_nu (m_lpB τ i) 7 0) 7 i 0 (.inl (nI i))) 17 0 (nI i).toNatClampNeg (.inr (.inr (some (7, i))))) (1 + i + 1) (120 + 13 * i + 13)
      rw [nI_clamp (by omega)]
      exact hW _ _ _ _ _ _ (1 + (i + 1)) (120 + 13 * (i + 1)) (by omega) (by omega) (hA _ _ _ _ _ _ _ (m_lpB_s i) ihn)
  have start : m_agree (m_set (m_nu σ 17 120) 0 0 0 (.inr (.inr (some (17, 0))))) (m_lpB (m_set (m_nu σ 17 120) 0 0 0 (.inr (.inr (some (17, 0))))) 0) := m_lpB_0 (by rw [m_set_1, m_nu_cntO _ (by decide)]; exact h7) (by rw [m_set_2]; have := m_nu_lenN σ (c := 17) (n := 120); rw [h17] at this; exact this)
  apply hS [15] 1000
  repeat' first
    | rfl
    | exact Nat.le_of_ble_eq_true rfl
    | exact ⟨by decide, by decide⟩
    | (apply And.intro)
    | intro h0
  · exact absurd h0 (by decide)
  · show J 15 [some (.inr (.inr (some (0, 0)))), some (.inl (nI 0))] [] (m_set (m_nu σ 17 120) 0 0 0 (.inr (.inr (some (17, σ.1 17))))) (0 + 1) (0 + 120)
    rw [h17]
    exact hA _ _ _ _ _ _ _ start (hW _ _ _ _ _ _ (1 + 0) (120 + 13 * 0) (by omega) (by omega) (loop 120 0 rfl))
