/-! a new hall's books, by hand -/
theorem i32_inc : ∀ i, i < 201 → Int32.ofNat i + Int32.ofInt 1 = Int32.ofNat (i + 1) := by decide +kernel
theorem i32_nat : ∀ i, i < 201 → (Int32.ofNat i).toNatClampNeg = i := by decide +kernel
theorem i32_pos : ∀ i, i < 201 → ¬ Int32.ofNat i < 0 := by decide +kernel
theorem i32_ge : ∀ i, i < 201 → ∀ l ∈ [3, 5, 120, 200], (Int32.ofNat l ≤ Int32.ofNat i ↔ l ≤ i) := by decide +kernel
theorem i32_vp {i l : Nat} (hi : i < l) (hl : l ≤ 200) : vp_in (Int32.ofNat i) l := by
  rintro (h | h)
  · exact i32_pos i (by omega) h
  · rw [i32_nat i (by omega)] at h; omega
def hz (c k : Nat) : mV := m_zero (m_ty c k)
theorem m_nu_newz (σ : mS) (c n k : Nat) : m_get (m_nu σ c n) c (σ.1 c) k = hz c k := by
  have e : ∀ {α : Type} (f : Nat → Nat → Nat → α) (v : α), m_zi f c (σ.1 c) v c (σ.1 c) k = v := by
    intro α f v
    unfold m_zi
    rw [if_pos rfl, if_pos rfl]
  unfold hz m_zero m_get
  split
  · show (Sum.inr (Sum.inl (m_zi σ.2.2.2.1 c (σ.1 c) 0 c (σ.1 c) k)) : mV) = _
    rw [e]
  · show (Sum.inr (Sum.inr (m_zi σ.2.2.2.2 c (σ.1 c) none c (σ.1 c) k)) : mV) = _
    rw [e]
  · show (Sum.inl (m_zi σ.2.2.1 c (σ.1 c) 0 c (σ.1 c) k) : mV) = _
    rw [e]
def z0s : mAl := ((yX0_init, cX0_init, 2, none, rm_X0_init, []), rw_X0_init, true)
theorem z0s_at : m_alF[0]? = some z0s := rfl
/-- i orders are made -/
def bk_P (σ : mS) (b i : Nat) (τ : mS) : Prop :=
  (∀ c, τ.1 c = if c = 17 then σ.1 17 + 1 else if c = 7 then σ.1 7 + i else σ.1 c) ∧ (∀ c j, 13 ≤ c → τ.2.1 c j = if c = 17 ∧ j = σ.1 17 then 120 else σ.2.1 c j) ∧
  m_get τ 0 b 0 = .inr (.inr (some (17, σ.1 17))) ∧ (∀ k, k < i → m_get τ 17 (σ.1 17) k = .inr (.inr (some (7, σ.1 7 + k))) ∧ m_get τ 7 (σ.1 7 + k) 0 = .inl (Int32.ofNat k) ∧ ∀ f, f ≠ 0 → m_get τ 7 (σ.1 7 + k) f = hz 7 f) ∧
  ∀ c j k, ¬ (c = 0 ∧ j = b ∧ k = 0) → ¬ (c = 17 ∧ j = σ.1 17) → ¬ (c = 7 ∧ σ.1 7 ≤ j ∧ j < σ.1 7 + i) → m_get τ c j k = m_get σ c j k
theorem bk_step {σ τ : mS} {b i : Nat} (h : bk_P σ b i τ) : bk_P σ b (i + 1) (m_set (m_set (m_nu τ 7 0) 7 (τ.1 7) 0 (.inl (Int32.ofNat i))) 17 (σ.1 17) i (.inr (.inr (some (7, τ.1 7))))) := by
  obtain ⟨h1, h2, h3, h4, h5⟩ := h
  have e7 : τ.1 7 = σ.1 7 + i := by rw [h1]; rfl
  have t17 : ∀ k, m_tp (m_ty 17 k) (.inr (.inr (some (7, τ.1 7)))) := fun k => m_ty_arr (j := 4) rfl
  have old : ∀ c j k, ¬ (c = 17 ∧ j = σ.1 17 ∧ k = i) → ¬ (c = 7 ∧ j = τ.1 7) → m_get (m_set (m_set (m_nu τ 7 0) 7 (τ.1 7) 0 (.inl (Int32.ofNat i))) 17 (σ.1 17) i (.inr (.inr (some (7, τ.1 7))))) c j k = m_get τ c j k := by
    intro c j k a1 a2
    rw [m_get_ne _ _ a1, m_get_ne _ _ (fun z => a2 ⟨z.1, z.2.1⟩), m_nu_old _ a2]
  refine ⟨fun c => ?_, fun c j hc => ?_, ?_, fun k hk => ?_, fun c j k a1 a2 a3 => ?_⟩
  · rw [m_set_1, m_set_1]
    show (if c = 7 then τ.1 c + 1 else τ.1 c) = _
    rw [h1]
    by_cases e : c = 7
    · subst e; rfl
    · rw [if_neg e, if_neg e, if_neg e]
  · rw [m_set_2, m_set_2]
    show (if c = 7 then _ else τ.2.1 c j) = _
    rw [if_neg (by omega)]
    exact h2 c j hc
  · rw [old 0 b 0 (fun z => by cases z.1) (fun z => by cases z.1)]; exact h3
  · by_cases e : k = i
    · subst e
      refine ⟨?_, ?_, fun f hf => ?_⟩
      · rw [m_get_eq _ (t17 k), e7]
      · rw [m_get_ne _ _ (fun z => by cases z.1), ← e7, m_get_eq _ (show m_tp (m_ty 7 0) (.inl (Int32.ofNat k)) from Or.inl rfl)]
      · rw [m_get_ne _ _ (fun z => by cases z.1), ← e7, m_get_ne _ _ (fun z => hf z.2.2), m_nu_newz]
    · obtain ⟨g1, g2, g3⟩ := h4 k (by omega)
      refine ⟨?_, ?_, fun f hf => ?_⟩
      · rw [old 17 _ k (fun z => e z.2.2) (fun z => by cases z.1)]; exact g1
      · rw [old 7 _ 0 (fun z => by cases z.1) (fun z => by have := z.2; omega)]; exact g2
      · rw [old 7 _ f (fun z => by cases z.1) (fun z => by have := z.2; omega)]; exact g3 f hf
  · rw [old c j k (fun z => a2 ⟨z.1, z.2.1⟩) (fun z => a3 ⟨z.1, by have := z.2; omega, by have := z.2; omega⟩)]
    exact h5 c j k a1 a2 (fun z => a3 ⟨z.1, z.2.1, by omega⟩)
theorem bk_loop {σ : mS} {b : Nat} {Q : mS → Prop} (hQ : ∀ τ, bk_P σ b 120 τ → Q τ) : ∀ (m i : Nat) (τ : mS), i + m = 120 → bk_P σ b i τ → ∃ τ', ER 0 z0s (15, [some (.inr (.inr (some (0, b)))), some (.inl (Int32.ofNat i))], [], τ, i + 1, 13 * i + 120) (.inl none, τ') ∧ Q τ'
  | 0, i, τ, hm, h => by
    have e : i = 120 := by omega
    subst e
    refine ⟨τ, ?_, hQ τ h⟩
    refine er_p rfl rfl rfl rfl ?_
    refine er_p rfl rfl rfl rfl ?_
    refine er_get rfl rfl h.2.2.1 ?_
    refine er_len (l := 120) rfl ⟨(by show 13 ≤ 17; decide), (by show 17 ≤ 21; decide)⟩ (by rw [h.2.1 17 _ (by decide)]; exact if_pos ⟨rfl, rfl⟩) ?_
    refine er_ct rfl rfl rfl ((i32_ge 120 (by decide) 120 (by decide)).mpr (Nat.le_refl _)) ?_
    exact er_ret rfl (by decide) rfl
  | m + 1, i, τ, hm, h => by
    have hi : i < 120 := by omega
    obtain ⟨τ', g1, g2⟩ := bk_loop hQ m (i + 1) _ (by omega) (bk_step h)
    refine ⟨τ', ?_, g2⟩
    refine er_p rfl rfl rfl rfl ?_
    refine er_p rfl rfl rfl rfl ?_
    refine er_get rfl rfl h.2.2.1 ?_
    refine er_len (l := 120) rfl ⟨(by show 13 ≤ 17; decide), (by show 17 ≤ 21; decide)⟩ (by rw [h.2.1 17 _ (by decide)]; exact if_pos ⟨rfl, rfl⟩) ?_
    refine er_cf rfl rfl rfl (fun z => by have := (i32_ge i (by omega) 120 (by decide)).mp z; omega) ?_
    refine er_p rfl rfl rfl rfl ?_
    refine er_get rfl rfl h.2.2.1 ?_
    refine er_p rfl rfl rfl rfl ?_
    refine er_new rfl (by decide) ⟨by show i + 1 + 1 ≤ 121; omega, by show 13 * i + 120 + 13 ≤ 1680; omega⟩ ?_
    refine er_p rfl rfl rfl rfl ?_
    refine er_p rfl rfl rfl rfl ?_
    refine er_spc (as := [.inl (Int32.ofNat i)]) (v := none) rfl (by decide) rfl rfl rfl rfl ⟨Nat.le_of_ble_eq_true rfl, ⟨by show i + 1 + 1 + 0 ≤ 121; omega, by show 13 * i + 120 + 13 + 0 ≤ 1680; omega⟩⟩ er_97 ?_
    refine er_ast (l := i) rfl (i32_nat i (by omega)) ⟨rfl, ⟨(by show 16 ≤ 17; decide), (by show 17 ≤ 20; decide)⟩, ?_⟩ ?_
    · rw [m_set_2]
      show vp_in (Int32.ofNat i) ((m_nu τ 7 0).2.1 17 (σ.1 17))
      have : (m_nu τ 7 0).2.1 17 (σ.1 17) = 120 := by
        rw [m_nu_len τ (fun z => by cases z.1), h.2.1 17 _ (by decide)]
        exact if_pos ⟨rfl, rfl⟩
      rw [this]
      exact i32_vp hi (by decide)
    refine er_p rfl rfl rfl rfl ?_
    refine er_p rfl rfl rfl rfl ?_
    have e1 : Int32.ofNat i + Int32.ofInt 1 = Int32.ofNat (i + 1) := i32_inc i (by omega)
    have e2 : 13 * (i + 1) + 120 = 13 * i + 120 + 13 := by omega
    rw [e2, ← e1] at g1
    exact g1
theorem bk_init {σ : mS} {b : Nat} : ∃ τ, ev_run sm_all 0 [.inr (.inr (some (0, b)))] σ (.inl none) τ ∧ bk_P σ b 120 τ := by
  have h0 : bk_P σ b 0 (m_set (m_nu σ 17 120) 0 b 0 (.inr (.inr (some (17, σ.1 17))))) := by
    refine ⟨fun c => ?_, fun c j hc => ?_, m_get_eq _ rfl, fun k hk => by omega, fun c j k a1 a2 a3 => ?_⟩
    · rw [m_set_1]
      show (if c = 17 then σ.1 c + 1 else σ.1 c) = _
      by_cases e : c = 17
      · subst e; rfl
      · rw [if_neg e, if_neg e]
        by_cases e7 : c = 7
        · subst e7; rfl
        · rw [if_neg e7]
    · rw [m_set_2]
      show (if c = 17 then (if j = σ.1 17 then 120 else σ.2.1 c j) else σ.2.1 c j) = _
      by_cases e : c = 17
      · by_cases e2 : j = σ.1 17
        · rw [if_pos e, if_pos e2, if_pos ⟨e, e2⟩]
        · rw [if_pos e, if_neg e2, if_neg (fun z => e2 z.2)]
      · rw [if_neg e, if_neg (fun z => e z.1)]
    · rw [m_get_ne _ _ a1, m_nu_old _ a2]
  obtain ⟨τ, g1, g2⟩ := bk_loop (σ := σ) (b := b) (Q := fun τ => bk_P σ b 120 τ) (fun τ h => h) 120 0 _ rfl h0
  refine ⟨τ, er_go z0s_at (Nat.le_of_ble_eq_true rfl) ?_, g2⟩
  refine er_p rfl rfl rfl rfl ?_
  refine er_obj rfl rfl rfl (by decide) ?_
  refine er_p rfl rfl rfl rfl ?_
  refine er_p rfl rfl rfl rfl ?_
  refine er_nwa (l := 120) (t := 0) (st' := []) rfl (by decide) ⟨by decide, by decide, by decide, by decide⟩ ?_
  refine er_put rfl rfl rfl ?_
  refine er_p rfl rfl rfl rfl ?_
  refine er_p rfl rfl rfl rfl ?_
  exact g1
