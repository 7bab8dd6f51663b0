/-! a new hall's clearing as a whole, and a new hall -/
def rf (c i : Nat) : mV := .inr (.inr (some (c, i)))
/-- what was there stays, but for a thing under way -/
def og (b : Nat) (σ τ : mS) : Prop := (∀ c, σ.1 c ≤ τ.1 c) ∧ (∀ c j k, j < σ.1 c → ¬ (c = 2 ∧ j = b ∧ k < 5) → m_get τ c j k = m_get σ c j k) ∧ ∀ c j, 13 ≤ c → j < σ.1 c → τ.2.1 c j = σ.2.1 c j
theorem og.rf' {b : Nat} {σ : mS} : og b σ σ := ⟨fun _ => Nat.le_refl _, fun _ _ _ _ _ => rfl, fun _ _ _ _ => rfl⟩
theorem og_nu {b : Nat} {σ τ : mS} {c n : Nat} (h : og b σ τ) : og b σ (m_nu τ c n) := by
  refine ⟨fun c' => ?_, fun c' j k hj hn => ?_, fun c' j hc hj => ?_⟩
  · show σ.1 c' ≤ if c' = c then τ.1 c' + 1 else τ.1 c'
    have := h.1 c'
    split <;> omega
  · rw [m_nu_old τ (fun z => by have := h.1 c'; rw [z.1] at this hj; omega)]
    exact h.2.1 c' j k hj hn
  · rw [m_nu_len τ (fun z => by have := h.1 c'; rw [z.1] at this hj; omega)]
    exact h.2.2 c' j hc hj
theorem og_set2 {b : Nat} {σ τ : mS} {k : Nat} {v : mV} (hk : k < 5) (h : og b σ τ) : og b σ (m_set τ 2 b k v) := by
  refine ⟨fun c' => by rw [m_set_1]; exact h.1 c', fun c' j k' hj hn => ?_, fun c' j hc hj => by rw [m_set_2]; exact h.2.2 c' j hc hj⟩
  rw [m_get_ne τ v (fun z => hn ⟨z.1, z.2.1, by omega⟩)]
  exact h.2.1 c' j k' hj hn
theorem og_setN {b : Nat} {σ τ : mS} {c j k : Nat} {v : mV} (hj : σ.1 c ≤ j) (h : og b σ τ) : og b σ (m_set τ c j k v) := by
  refine ⟨fun c' => by rw [m_set_1]; exact h.1 c', fun c' j' k' hj' hn => ?_, fun c' j hc hj => by rw [m_set_2]; exact h.2.2 c' j hc hj⟩
  rw [m_get_ne τ v (fun z => by rw [z.1, z.2.1] at hj'; omega)]
  exact h.2.1 c' j' k' hj' hn
theorem mn_ty13 (k : Nat) : m_ty 13 k = 0 := m_ty_arr (j := 0) rfl
theorem mn_ty21 (k : Nat) : m_ty 21 k = 2 := m_ty_arr (j := 8) rfl
theorem mn_13 {σ : mS} {j k : Nat} (hj : σ.1 13 ≤ j) : m_get (m_mn σ) 13 j k = .inl 0 := by
  unfold m_get
  rw [mn_ty13]
  show (.inl ((m_mn σ).2.2.1 13 j k) : mV) = _
  rw [show (m_mn σ).2.2.1 13 j k = 0 from if_pos ⟨rfl, hj⟩]
theorem mn_21 {σ : mS} {k : Nat} : m_get (m_mn σ) 21 (σ.1 21) k = rf 13 (σ.1 13 + k) := by
  unfold m_get
  rw [mn_ty21]
  show (.inr (.inr ((m_mn σ).2.2.2.2 21 (σ.1 21) k)) : mV) = _
  rw [show (m_mn σ).2.2.2.2 21 (σ.1 21) k = some (13, σ.1 13 + k) from if_pos ⟨rfl, rfl⟩]
  rfl
theorem mn_old {σ : mS} {c j k : Nat} (h1 : ¬ (c = 13 ∧ σ.1 13 ≤ j)) (h2 : ¬ (c = 21 ∧ j = σ.1 21)) : m_get (m_mn σ) c j k = m_get σ c j k := by
  have e3 : (m_mn σ).2.2.1 c j k = σ.2.2.1 c j k := if_neg h1
  have e5 : (m_mn σ).2.2.2.2 c j k = σ.2.2.2.2 c j k := if_neg h2
  unfold m_get m_i m_l m_r
  rw [e3, e5]
  rfl
theorem mn_len {σ : mS} {c j : Nat} (h1 : c ≠ 13) (h2 : c ≠ 21) : (m_mn σ).2.1 c j = σ.2.1 c j := by
  show (if c = 13 ∧ σ.1 13 ≤ j then 3 else if c = 21 ∧ j = σ.1 21 then 4 else σ.2.1 c j) = _
  rw [if_neg (fun z => h1 z.1), if_neg (fun z => h2 z.1)]
theorem mn_len21 {σ : mS} : (m_mn σ).2.1 21 (σ.1 21) = 4 := by
  show (if (21 : Nat) = 13 ∧ σ.1 13 ≤ σ.1 21 then 3 else if (21 : Nat) = 21 ∧ σ.1 21 = σ.1 21 then 4 else σ.2.1 21 (σ.1 21)) = 4
  rw [if_neg (fun z => by cases z.1), if_pos ⟨rfl, rfl⟩]
theorem og_mn {b : Nat} {σ τ : mS} (h : og b σ τ) : og b σ (m_mn τ) := by
  refine ⟨fun c => ?_, fun c j k hj hn => ?_, fun c j hc hj => ?_⟩
  · show σ.1 c ≤ if c = 13 then τ.1 13 + 4 else if c = 21 then τ.1 21 + 1 else τ.1 c
    have := h.1 c
    split
    · rename_i e; rw [e] at this ⊢; omega
    · split
      · rename_i e; rw [e] at this ⊢; omega
      · exact this
  · rw [mn_old (fun z => by have := h.1 c; rw [z.1] at this hj; omega) (fun z => by have := h.1 c; rw [z.1] at this hj; omega)]
    exact h.2.1 c j k hj hn
  · show (if c = 13 ∧ τ.1 13 ≤ j then 3 else if c = 21 ∧ j = τ.1 21 then 4 else τ.2.1 c j) = _
    rw [if_neg (fun z => by have := h.1 c; rw [z.1] at this hj; omega), if_neg (fun z => by have := h.1 c; rw [z.1] at this hj; omega)]
    exact h.2.2 c j hc hj
def cs1 (σ : mS) (b : Nat) : mS := m_set (m_nu σ 16 5) 2 b 0 (rf 16 (σ.1 16))
def cs2 (σ : mS) (b : Nat) : mS := m_set (m_set (m_set (m_nu (m_nu σ 6 0) 14 3) 6 (σ.1 6) 1 (rf 14 ((m_nu σ 6 0).1 14))) 6 (σ.1 6) 0 (.inl (Int32.ofInt (-1)))) 2 b 1 (rf 6 (σ.1 6))
def cs3 (σ : mS) (b : Nat) : mS := m_set (m_nu σ 18 3) 2 b 2 (rf 18 (σ.1 18))
def cs4 (σ : mS) (b : Nat) : mS := m_set (m_nu σ 20 200) 2 b 3 (rf 20 (σ.1 20))
def cs5 (σ : mS) (b : Nat) : mS := m_set (m_mn σ) 2 b 4 (rf 21 (σ.1 21))
def csT (σ : mS) (b : Nat) : mS := cs5 (cs4 (cs3 (cs2 (cs1 σ b) b) b) b) b
def cs_n (c : Nat) : Nat := if c = 13 then 4 else if c = 21 then 1 else if c = 20 then 1 else if c = 18 then 1 else if c = 14 then 1 else if c = 6 then 1 else if c = 16 then 1 else 0
theorem csT_og {σ : mS} {b : Nat} : og b σ (csT σ b) := by
  unfold csT cs5 cs4 cs3 cs2 cs1
  refine og_set2 (by decide) (og_mn (og_set2 (by decide) (og_nu (og_set2 (by decide) (og_nu (og_set2 (by decide) (og_setN ?_ (og_setN ?_ (og_nu (og_nu (og_set2 (by decide) (og_nu og.rf'))))))))))))
  · show σ.1 6 ≤ σ.1 6; exact Nat.le_refl _
  · show σ.1 6 ≤ σ.1 6; exact Nat.le_refl _
theorem csT_1 {σ : mS} {b : Nat} (c : Nat) : (csT σ b).1 c = σ.1 c + cs_n c := by
  by_cases h1 : c = 13
  · subst h1; rfl
  by_cases h2 : c = 21
  · subst h2; rfl
  by_cases h3 : c = 20
  · subst h3; rfl
  by_cases h4 : c = 18
  · subst h4; rfl
  by_cases h5 : c = 14
  · subst h5; rfl
  by_cases h6 : c = 6
  · subst h6; rfl
  by_cases h7 : c = 16
  · subst h7; rfl
  unfold csT cs5 cs4 cs3 cs2 cs1 cs_n
  rw [m_set_1]
  show (if c = 13 then _ else if c = 21 then _ else _) = _
  rw [if_neg h1, if_neg h2, m_set_1, m_nu_cntO _ h3, m_set_1, m_nu_cntO _ h4, m_set_1, m_set_1, m_set_1, m_nu_cntO _ h5, m_nu_cntO _ h6, m_set_1, m_nu_cntO _ h7, if_neg h1, if_neg h2, if_neg h3, if_neg h4, if_neg h5, if_neg h6, if_neg h7]
  rfl
/-- what the first part of the constructor has made -/
theorem csT_ok {σ : mS} {b : Nat} : (m_get (csT σ b) 2 b 0 = rf 16 (σ.1 16) ∧ m_get (csT σ b) 2 b 1 = rf 6 (σ.1 6) ∧ m_get (csT σ b) 2 b 2 = rf 18 (σ.1 18) ∧ m_get (csT σ b) 2 b 3 = rf 20 (σ.1 20) ∧ m_get (csT σ b) 2 b 4 = rf 21 (σ.1 21)) ∧
    (m_get (csT σ b) 6 (σ.1 6) 0 = .inl (Int32.ofInt (-1)) ∧ m_get (csT σ b) 6 (σ.1 6) 1 = rf 14 (σ.1 14) ∧ (∀ f, f ≠ 0 → f ≠ 1 → m_get (csT σ b) 6 (σ.1 6) f = hz 6 f) ∧ ∀ f, m_get (csT σ b) 14 (σ.1 14) f = hz 14 f) ∧
    ((∀ k, m_get (csT σ b) 21 (σ.1 21) k = rf 13 (σ.1 13 + k)) ∧ ∀ j k, σ.1 13 ≤ j → m_get (csT σ b) 13 j k = .inl 0) ∧
    ((csT σ b).2.1 16 (σ.1 16) = 5 ∧ (csT σ b).2.1 14 (σ.1 14) = 3 ∧ (csT σ b).2.1 18 (σ.1 18) = 3 ∧ (csT σ b).2.1 20 (σ.1 20) = 200 ∧ (csT σ b).2.1 21 (σ.1 21) = 4 ∧ ∀ j, σ.1 13 ≤ j → (csT σ b).2.1 13 j = 3) := by
  -- the later parts leave what isn't theirs
  have n5 : ∀ (τ : mS) c j k, c ≠ 2 → c ≠ 13 → c ≠ 21 → m_get (cs5 τ b) c j k = m_get τ c j k := fun τ c j k h2 h13 h21 => by
    unfold cs5
    rw [m_get_ne _ _ (fun z => h2 z.1), mn_old (fun z => h13 z.1) (fun z => h21 z.1)]
  have n4 : ∀ (τ : mS) c j k, c ≠ 2 → c ≠ 20 → m_get (cs4 τ b) c j k = m_get τ c j k := fun τ c j k h2 h => by
    unfold cs4
    rw [m_get_ne _ _ (fun z => h2 z.1), m_nu_old _ (fun z => h z.1)]
  have n3 : ∀ (τ : mS) c j k, c ≠ 2 → c ≠ 18 → m_get (cs3 τ b) c j k = m_get τ c j k := fun τ c j k h2 h => by
    unfold cs3
    rw [m_get_ne _ _ (fun z => h2 z.1), m_nu_old _ (fun z => h z.1)]
  have t5 : ∀ (τ : mS) k, k ≠ 4 → m_get (cs5 τ b) 2 b k = m_get τ 2 b k := fun τ k h => by
    unfold cs5
    rw [m_get_ne _ _ (fun z => h z.2.2), mn_old (fun z => by cases z.1) (fun z => by cases z.1)]
  have t4 : ∀ (τ : mS) k, k ≠ 3 → m_get (cs4 τ b) 2 b k = m_get τ 2 b k := fun τ k h => by
    unfold cs4
    rw [m_get_ne _ _ (fun z => h z.2.2), m_nu_old _ (fun z => by cases z.1)]
  have t3 : ∀ (τ : mS) k, k ≠ 2 → m_get (cs3 τ b) 2 b k = m_get τ 2 b k := fun τ k h => by
    unfold cs3
    rw [m_get_ne _ _ (fun z => h z.2.2), m_nu_old _ (fun z => by cases z.1)]
  have t2 : ∀ (τ : mS) k, k ≠ 1 → m_get (cs2 τ b) 2 b k = m_get τ 2 b k := fun τ k h => by
    unfold cs2
    rw [m_get_ne _ _ (fun z => h z.2.2), m_get_ne _ _ (fun z => by cases z.1), m_get_ne _ _ (fun z => by cases z.1), m_nu_old _ (fun z => by cases z.1), m_nu_old _ (fun z => by cases z.1)]
  unfold csT
  refine ⟨⟨?_, ?_, ?_, ?_, ?_⟩, ⟨?_, ?_, fun f h0 h1 => ?_, fun f => ?_⟩, ⟨fun k => ?_, fun j k hj => ?_⟩, ?_, ?_, ?_, ?_, ?_, fun j hj => ?_⟩
  · rw [t5 _ 0 (by decide), t4 _ 0 (by decide), t3 _ 0 (by decide), t2 _ 0 (by decide)]
    exact m_get_eq _ rfl
  · rw [t5 _ 1 (by decide), t4 _ 1 (by decide), t3 _ 1 (by decide)]
    exact m_get_eq _ rfl
  · rw [t5 _ 2 (by decide), t4 _ 2 (by decide)]
    exact m_get_eq _ rfl
  · rw [t5 _ 3 (by decide)]
    exact m_get_eq _ rfl
  · exact m_get_eq _ rfl
  · rw [n5 _ 6 _ _ (by decide) (by decide) (by decide), n4 _ 6 _ _ (by decide) (by decide), n3 _ 6 _ _ (by decide) (by decide)]
    unfold cs2
    rw [m_get_ne _ _ (fun z => by cases z.1)]
    exact m_get_eq _ (Or.inl rfl)
  · rw [n5 _ 6 _ _ (by decide) (by decide) (by decide), n4 _ 6 _ _ (by decide) (by decide), n3 _ 6 _ _ (by decide) (by decide)]
    unfold cs2
    rw [m_get_ne _ _ (fun z => by cases z.1), m_get_ne _ _ (fun z => by cases z.2.2)]
    exact m_get_eq _ rfl
  · rw [n5 _ 6 _ _ (by decide) (by decide) (by decide), n4 _ 6 _ _ (by decide) (by decide), n3 _ 6 _ _ (by decide) (by decide)]
    unfold cs2
    rw [m_get_ne _ _ (fun z => by cases z.1), m_get_ne _ _ (fun z => h0 z.2.2), m_get_ne _ _ (fun z => h1 z.2.2), m_nu_old _ (fun z => by cases z.1)]
    exact m_nu_newz (cs1 σ b) 6 0 f
  · rw [n5 _ 14 _ _ (by decide) (by decide) (by decide), n4 _ 14 _ _ (by decide) (by decide), n3 _ 14 _ _ (by decide) (by decide)]
    unfold cs2
    rw [m_get_ne _ _ (fun z => by cases z.1), m_get_ne _ _ (fun z => by cases z.1), m_get_ne _ _ (fun z => by cases z.1)]
    exact m_nu_newz (m_nu (cs1 σ b) 6 0) 14 3 f
  · unfold cs5
    rw [m_get_ne _ _ (fun z => by cases z.1)]
    exact mn_21
  · unfold cs5
    rw [m_get_ne _ _ (fun z => by cases z.1)]
    exact mn_13 hj
  · unfold cs5
    rw [m_set_2]
    rw [mn_len (by decide) (by decide)]
    unfold cs4 cs3 cs2 cs1
    rw [m_set_2, m_nu_len _ (fun z => by cases z.1), m_set_2, m_nu_len _ (fun z => by cases z.1), m_set_2, m_set_2, m_set_2, m_nu_len _ (fun z => by cases z.1), m_nu_len _ (fun z => by cases z.1), m_set_2]
    exact m_nu_lenN σ
  · unfold cs5
    rw [m_set_2]
    rw [mn_len (by decide) (by decide)]
    unfold cs4 cs3 cs2
    rw [m_set_2, m_nu_len _ (fun z => by cases z.1), m_set_2, m_nu_len _ (fun z => by cases z.1), m_set_2, m_set_2, m_set_2]
    exact m_nu_lenN (m_nu (cs1 σ b) 6 0)
  · unfold cs5
    rw [m_set_2]
    rw [mn_len (by decide) (by decide)]
    unfold cs4 cs3
    rw [m_set_2, m_nu_len _ (fun z => by cases z.1), m_set_2]
    exact m_nu_lenN (cs2 (cs1 σ b) b)
  · unfold cs5
    rw [m_set_2]
    rw [mn_len (by decide) (by decide)]
    unfold cs4
    rw [m_set_2]
    exact m_nu_lenN (cs3 (cs2 (cs1 σ b) b) b)
  · unfold cs5
    rw [m_set_2]
    exact mn_len21
  · unfold cs5
    rw [m_set_2]
    exact if_pos ⟨rfl, hj⟩
