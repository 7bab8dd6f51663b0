/-! the constructor of Clearing, from the heap that new NettingHall() makes before it -/
def m_Z : mS := (fun _ => 0, fun _ _ => 0, fun _ _ _ => 0, fun _ _ _ => 0, fun _ _ _ => none)
def m_q (c i : Nat) : mV := .inr (.inr (some (c, i)))
def m_lpT (σ : mS) (n : Nat) : mS := (fun c => if c = 10 then n else σ.1 c, σ.2.1, fun c i k => if c = 10 then 0 else σ.2.2.1 c i k, fun c i k => if c = 10 then 0 else σ.2.2.2.1 c i k, fun c i k => if c = 20 ∧ i = 0 then (if k < n then some (10, k) else σ.2.2.2.2 c i k) else if c = 10 then none else σ.2.2.2.2 c i k)
theorem m_lpT_0 {σ : mS} (h : σ.1 10 = 0) : m_agree σ (m_lpT σ 0) := by
  refine ⟨fun c => ?_, fun c i _ _ => rfl, fun c i k hi h1 h2 => ?_⟩
  · show σ.1 c = if c = 10 then 0 else σ.1 c
    by_cases e : c = 10
    · rw [if_pos e, e]; exact h
    · rw [if_neg e]
  · have e : c ≠ 10 := fun z => by rw [z, h] at hi; exact absurd hi (Nat.not_lt_zero _)
    have hr : (m_lpT σ 0).2.2.2.2 c i k = σ.2.2.2.2 c i k := by
      show (if c = 20 ∧ i = 0 then (if k < 0 then some (10, k) else σ.2.2.2.2 c i k) else if c = 10 then none else σ.2.2.2.2 c i k) = _
      rw [if_neg e]
      by_cases g : c = 20 ∧ i = 0
      · rw [if_pos g, if_neg (Nat.not_lt_zero k)]
      · rw [if_neg g]
    have hn : (m_lpT σ 0).2.2.1 c i k = σ.2.2.1 c i k := if_neg e
    have hl : (m_lpT σ 0).2.2.2.1 c i k = σ.2.2.2.1 c i k := if_neg e
    unfold m_get m_i m_l m_r
    rw [hr, hn, hl]
theorem m_lpT_s {σ : mS} (n : Nat) : m_agree (m_set (m_nu (m_lpT σ n) 10 0) 20 0 n (.inr (.inr (some (10, n))))) (m_lpT σ (n + 1)) := by
  refine m_agree_of (fun c => ?_) (fun c i hc => ?_) (fun c i k => ?_) (fun c i k => ?_) (fun c i k => ?_)
  · rw [m_set_1]
    by_cases e : c = 10
    · subst e; rw [m_nu_cnt]; rfl
    · rw [m_nu_cntO _ e]
      show (if c = 10 then n else σ.1 c) = (if c = 10 then n + 1 else σ.1 c)
      rw [if_neg e, if_neg e]
  · rw [m_set_2, m_nu_len _ (fun z => by omega)]
    rfl
  · show m_zi (m_lpT σ n).2.2.1 10 n 0 c i k = if c = 10 then 0 else σ.2.2.1 c i k
    unfold m_zi m_lpT
    by_cases e : c = 10
    · by_cases e2 : i = n <;> simp [e, e2]
    · simp [e]
  · show m_zi (m_lpT σ n).2.2.2.1 10 n 0 c i k = if c = 10 then 0 else σ.2.2.2.1 c i k
    unfold m_zi m_lpT
    by_cases e : c = 10
    · by_cases e2 : i = n <;> simp [e, e2]
    · simp [e]
  · show m_up (m_zi (m_lpT σ n).2.2.2.2 10 n none) 20 0 n (some (10, n)) c i k = if c = 20 ∧ i = 0 then (if k < n + 1 then some (10, k) else σ.2.2.2.2 c i k) else if c = 10 then none else σ.2.2.2.2 c i k
    unfold m_up m_zi m_lpT
    by_cases e : c = 20
    · by_cases e2 : i = 0
      · by_cases e3 : k = n
        · simp [e, e2, e3]
        · have : k < n + 1 ↔ k < n := by omega
          simp [e, e2, e3, this]
      · simp [e, e2]
    · by_cases e4 : c = 10
      · simp [e4]
      · simp [e, e4]
/-- before Books: the hall's two things, and Books itself -/
def m_S0 : mS := m_nu (m_nu (m_nu m_Z 11 0) 4 0) 0 0
/-- behind Books: its own field, then Clearing's cell -/
def m_S1 : mS := m_nu (m_set (m_lpB (m_set (m_nu m_S0 17 120) 0 0 0 (m_q 17 0)) 120) 4 0 0 (m_q 0 0)) 2 0
/-- Clearing's arrays and the house -/
def m_Ca : mS := m_set (m_set (m_set (m_nu (m_nu (m_set (m_nu m_S1 16 5) 2 0 0 (m_q 16 0)) 6 0) 14 3) 6 0 1 (m_q 14 0)) 6 0 0 (.inl (-1))) 2 0 1 (m_q 6 0)
def m_Cb : mS := m_set (m_nu (m_set (m_nu m_Ca 18 3) 2 0 2 (m_q 18 0)) 20 200) 2 0 3 (m_q 20 0)
def m_C1 : mS := m_set (m_mn m_Cb) 2 0 4 (m_q 21 0)
def m_lpM (σ : mS) (n : Nat) : mS := (fun c => if c = 6 ∨ c = 14 then n + 1 else σ.1 c, fun c i => if c = 14 ∧ i ≠ 0 then 3 else σ.2.1 c i, fun c i k => if c = 6 ∧ i ≠ 0 then (if k = 0 then nI (i - 1) else 0) else if c = 14 ∧ i ≠ 0 then 0 else σ.2.2.1 c i k, fun c i k => if (c = 6 ∨ c = 14) ∧ i ≠ 0 then 0 else σ.2.2.2.1 c i k, fun c i k => if c = 16 ∧ i = 0 then (if k < n then some (6, k + 1) else σ.2.2.2.2 c i k) else if c = 6 ∧ i ≠ 0 then (if k = 1 then some (14, i) else none) else if c = 14 ∧ i ≠ 0 then none else σ.2.2.2.2 c i k)
theorem m_lpM_0 {σ : mS} (h6 : σ.1 6 = 1) (h14 : σ.1 14 = 1) : m_agree σ (m_lpM σ 0) := by
  refine ⟨fun c => ?_, fun c i hc hi => ?_, fun c i k hi h1 h2 => ?_⟩
  · show σ.1 c = if c = 6 ∨ c = 14 then 0 + 1 else σ.1 c
    by_cases e : c = 6 ∨ c = 14
    · rw [if_pos e]; rcases e with rfl | rfl <;> assumption
    · rw [if_neg e]
  · show σ.2.1 c i = if c = 14 ∧ i ≠ 0 then 3 else σ.2.1 c i
    rw [if_neg (fun g => g.2 (by rw [g.1, h14] at hi; omega))]
  · have h61 : ¬ (c = 6 ∧ i ≠ 0) := fun g => g.2 (by rw [g.1, h6] at hi; omega)
    have h62 : ¬ (c = 14 ∧ i ≠ 0) := fun g => g.2 (by rw [g.1, h14] at hi; omega)
    have h63 : ¬ ((c = 6 ∨ c = 14) ∧ i ≠ 0) := fun g => g.1.elim (fun z => h61 ⟨z, g.2⟩) (fun z => h62 ⟨z, g.2⟩)
    have hn : (m_lpM σ 0).2.2.1 c i k = σ.2.2.1 c i k := (if_neg h61).trans (if_neg h62)
    have hl : (m_lpM σ 0).2.2.2.1 c i k = σ.2.2.2.1 c i k := if_neg h63
    have hr : (m_lpM σ 0).2.2.2.2 c i k = σ.2.2.2.2 c i k := by
      show (if c = 16 ∧ i = 0 then (if k < 0 then some (6, k + 1) else σ.2.2.2.2 c i k) else if c = 6 ∧ i ≠ 0 then (if k = 1 then some (14, i) else none) else if c = 14 ∧ i ≠ 0 then none else σ.2.2.2.2 c i k) = _
      rw [if_neg h61, if_neg h62, if_neg (Nat.not_lt_zero k)]
      by_cases g : c = 16 ∧ i = 0
      · rw [if_pos g]
      · rw [if_neg g]
    unfold m_get m_i m_l m_r
    rw [hr, hn, hl]
theorem m_lpM_s {σ : mS} (n : Nat) : m_agree (m_set (m_set (m_set (m_nu (m_nu (m_lpM σ n) 6 0) 14 3) 6 (n + 1) 1 (m_q 14 (n + 1))) 6 (n + 1) 0 (.inl (nI n))) 16 0 n (m_q 6 (n + 1))) (m_lpM σ (n + 1)) := by
  refine m_agree_of (fun c => ?_) (fun c i hc => ?_) (fun c i k => ?_) (fun c i k => ?_) (fun c i k => ?_)
  · simp only [m_set_1]
    show (if c = 14 then (if c = 6 then (if c = 6 ∨ c = 14 then n + 1 else σ.1 c) + 1 else if c = 6 ∨ c = 14 then n + 1 else σ.1 c) + 1 else (if c = 6 then (if c = 6 ∨ c = 14 then n + 1 else σ.1 c) + 1 else if c = 6 ∨ c = 14 then n + 1 else σ.1 c)) = if c = 6 ∨ c = 14 then n + 1 + 1 else σ.1 c
    by_cases e : c = 6
    · simp [e]
    · by_cases e2 : c = 14 <;> simp [e, e2]
  · simp only [m_set_2]
    show (if c = 14 then (if i = n + 1 then 3 else if c = 6 then (if i = n + 1 then 0 else if c = 14 ∧ i ≠ 0 then 3 else σ.2.1 c i) else if c = 14 ∧ i ≠ 0 then 3 else σ.2.1 c i) else if c = 6 then (if i = n + 1 then 0 else if c = 14 ∧ i ≠ 0 then 3 else σ.2.1 c i) else if c = 14 ∧ i ≠ 0 then 3 else σ.2.1 c i) = if c = 14 ∧ i ≠ 0 then 3 else σ.2.1 c i
    by_cases e : c = 14
    · by_cases e2 : i = n + 1 <;> simp [e, e2]
    · have : c ≠ 6 := by omega
      simp [e, this]
  · show m_up (m_zi (m_zi (m_lpM σ n).2.2.1 6 (n + 1) 0) 14 (n + 1) 0) 6 (n + 1) 0 (nI n) c i k = (m_lpM σ (n + 1)).2.2.1 c i k
    unfold m_up m_zi m_lpM
    by_cases e : c = 6
    · by_cases e2 : i = n + 1
      · by_cases e3 : k = 0 <;> simp [e, e2, e3]
      · simp [e, e2]
    · by_cases e4 : c = 14
      · by_cases e2 : i = n + 1 <;> simp [e4, e2]
      · simp [e, e4]
  · show m_zi (m_zi (m_lpM σ n).2.2.2.1 6 (n + 1) 0) 14 (n + 1) 0 c i k = (m_lpM σ (n + 1)).2.2.2.1 c i k
    unfold m_zi m_lpM
    by_cases e : c = 6
    · by_cases e2 : i = n + 1 <;> simp [e, e2]
    · by_cases e4 : c = 14
      · by_cases e2 : i = n + 1 <;> simp [e4, e2]
      · simp [e, e4]
  · show m_up (m_up (m_zi (m_zi (m_lpM σ n).2.2.2.2 6 (n + 1) none) 14 (n + 1) none) 6 (n + 1) 1 (some (14, n + 1))) 16 0 n (some (6, n + 1)) c i k = (m_lpM σ (n + 1)).2.2.2.2 c i k
    unfold m_up m_zi m_lpM
    by_cases e : c = 6
    · by_cases e2 : i = n + 1
      · by_cases e3 : k = 1 <;> simp [e, e2, e3]
      · simp [e, e2]
    · by_cases e4 : c = 14
      · by_cases e2 : i = n + 1 <;> simp [e4, e2]
      · by_cases e5 : c = 16
        · by_cases e6 : i = 0
          · by_cases e3 : k = n
            · simp [e5, e6, e3]
            · have : k < n + 1 ↔ k < n := by omega
              simp [e5, e6, e3, this]
          · simp [e5, e6]
        · simp [e, e4, e5]
def m_lpP (σ : mS) (n : Nat) : mS := (fun c => if c = 8 then n else σ.1 c, σ.2.1, fun c i k => if c = 8 then (if k = 6 then 1 else if k = 0 then nI i else 0) else σ.2.2.1 c i k, fun c i k => if c = 8 then 0 else σ.2.2.2.1 c i k, fun c i k => if c = 18 ∧ i = 0 then (if k < n then some (8, k) else σ.2.2.2.2 c i k) else if c = 8 then none else σ.2.2.2.2 c i k)
theorem m_lpP_0 {σ : mS} (h : σ.1 8 = 0) : m_agree σ (m_lpP σ 0) := by
  refine ⟨fun c => ?_, fun c i _ _ => rfl, fun c i k hi h1 h2 => ?_⟩
  · show σ.1 c = if c = 8 then 0 else σ.1 c
    by_cases e : c = 8
    · rw [if_pos e, e]; exact h
    · rw [if_neg e]
  · have e : c ≠ 8 := fun z => by rw [z, h] at hi; exact absurd hi (Nat.not_lt_zero _)
    have hr : (m_lpP σ 0).2.2.2.2 c i k = σ.2.2.2.2 c i k := by
      show (if c = 18 ∧ i = 0 then (if k < 0 then some (8, k) else σ.2.2.2.2 c i k) else if c = 8 then none else σ.2.2.2.2 c i k) = _
      rw [if_neg e]
      by_cases g : c = 18 ∧ i = 0
      · rw [if_pos g, if_neg (Nat.not_lt_zero k)]
      · rw [if_neg g]
    have hn : (m_lpP σ 0).2.2.1 c i k = σ.2.2.1 c i k := if_neg e
    have hl : (m_lpP σ 0).2.2.2.1 c i k = σ.2.2.2.1 c i k := if_neg e
    unfold m_get m_i m_l m_r
    rw [hr, hn, hl]
theorem m_lpP_s {σ : mS} (n : Nat) : m_agree (m_set (m_set (m_set (m_nu (m_lpP σ n) 8 0) 8 n 0 (.inl (nI n))) 8 n 6 (.inl 1)) 18 0 n (m_q 8 n)) (m_lpP σ (n + 1)) := by
  refine m_agree_of (fun c => ?_) (fun c i hc => ?_) (fun c i k => ?_) (fun c i k => ?_) (fun c i k => ?_)
  · simp only [m_set_1]
    by_cases e : c = 8
    · subst e; rw [m_nu_cnt]; rfl
    · rw [m_nu_cntO _ e]
      show (if c = 8 then n else σ.1 c) = (if c = 8 then n + 1 else σ.1 c)
      rw [if_neg e, if_neg e]
  · simp only [m_set_2]
    rw [m_nu_len _ (fun z => by omega)]
    rfl
  · show m_up (m_up (m_zi (m_lpP σ n).2.2.1 8 n 0) 8 n 0 (nI n)) 8 n 6 1 c i k = (m_lpP σ (n + 1)).2.2.1 c i k
    unfold m_up m_zi m_lpP
    by_cases e : c = 8
    · by_cases e2 : i = n
      · by_cases e3 : k = 0
        · simp [e, e2, e3]
        · by_cases e4 : k = 6 <;> simp [e, e2, e3, e4]
      · simp [e, e2]
    · simp [e]
  · show m_zi (m_lpP σ n).2.2.2.1 8 n 0 c i k = (m_lpP σ (n + 1)).2.2.2.1 c i k
    unfold m_zi m_lpP
    by_cases e : c = 8
    · by_cases e2 : i = n <;> simp [e, e2]
    · simp [e]
  · show m_up (m_zi (m_lpP σ n).2.2.2.2 8 n none) 18 0 n (some (8, n)) c i k = (m_lpP σ (n + 1)).2.2.2.2 c i k
    unfold m_up m_zi m_lpP
    by_cases e : c = 18
    · by_cases e2 : i = 0
      · by_cases e3 : k = n
        · simp [e, e2, e3]
        · have : k < n + 1 ↔ k < n := by omega
          simp [e, e2, e3, this]
      · simp [e, e2]
    · by_cases e4 : c = 8
      · simp [e4]
      · simp [e, e4]
/-- Clearing, done but for its trades -/
def m_C3 : mS := m_lpP (m_lpM m_C1 5) 3
