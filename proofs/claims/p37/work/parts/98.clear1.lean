/-- i papers are made -/
def pp_P (σ : mS) (a i : Nat) (τ : mS) : Prop :=
  (∀ c, τ.1 c = if c = 8 then σ.1 8 + i else σ.1 c) ∧ (∀ c j, 13 ≤ c → τ.2.1 c j = σ.2.1 c j) ∧
  (∀ k, k < i → m_get τ 18 a k = .inr (.inr (some (8, σ.1 8 + k))) ∧ m_get τ 8 (σ.1 8 + k) 0 = .inl (Int32.ofNat k) ∧ m_get τ 8 (σ.1 8 + k) 6 = .inl 1 ∧ ∀ f, f ≠ 0 → f ≠ 6 → m_get τ 8 (σ.1 8 + k) f = hz 8 f) ∧
  ∀ c j k, ¬ (c = 18 ∧ j = a) → ¬ (c = 8 ∧ σ.1 8 ≤ j ∧ j < σ.1 8 + i) → m_get τ c j k = m_get σ c j k
theorem pp_step {σ τ : mS} {a i : Nat} (h : pp_P σ a i τ) : pp_P σ a (i + 1) (m_set (m_set (m_set (m_nu τ 8 0) 8 (τ.1 8) 0 (.inl (Int32.ofNat i))) 8 (τ.1 8) 6 (.inl 1)) 18 a i (.inr (.inr (some (8, τ.1 8))))) := by
  obtain ⟨h1, h2, h4, h5⟩ := h
  have e7 : τ.1 8 = σ.1 8 + i := by rw [h1]; rfl
  have t18 : ∀ k, m_tp (m_ty 18 k) (.inr (.inr (some (8, τ.1 8)))) := fun k => m_ty_arr (j := 5) rfl
  have old : ∀ c j k, ¬ (c = 18 ∧ j = a ∧ k = i) → ¬ (c = 8 ∧ j = τ.1 8) → m_get (m_set (m_set (m_set (m_nu τ 8 0) 8 (τ.1 8) 0 (.inl (Int32.ofNat i))) 8 (τ.1 8) 6 (.inl 1)) 18 a i (.inr (.inr (some (8, τ.1 8))))) c j k = m_get τ c j k := by
    intro c j k a1 a2
    rw [m_get_ne _ _ a1, m_get_ne _ _ (fun z => a2 ⟨z.1, z.2.1⟩), m_get_ne _ _ (fun z => a2 ⟨z.1, z.2.1⟩), m_nu_old _ a2]
  refine ⟨fun c => ?_, fun c j hc => ?_, fun k hk => ?_, fun c j k a2 a3 => ?_⟩
  · rw [m_set_1, m_set_1, m_set_1]
    show (if c = 8 then τ.1 c + 1 else τ.1 c) = _
    rw [h1]
    by_cases e : c = 8
    · subst e; rfl
    · rw [if_neg e, if_neg e, if_neg e]
  · rw [m_set_2, m_set_2, m_set_2, m_nu_len τ (fun z => by omega)]
    exact h2 c j hc
  · by_cases e : k = i
    · subst e
      refine ⟨?_, ?_, ?_, fun f hf hf6 => ?_⟩
      · rw [m_get_eq _ (t18 k), e7]
      · rw [m_get_ne _ _ (fun z => by cases z.1), ← e7, m_get_ne _ _ (fun z => by cases z.2.2), m_get_eq _ (show m_tp (m_ty 8 0) (.inl (Int32.ofNat k)) from Or.inl rfl)]
      · rw [m_get_ne _ _ (fun z => by cases z.1), ← e7, m_get_eq _ (show m_tp (m_ty 8 6) (.inl 1) from Or.inl rfl)]
      · rw [m_get_ne _ _ (fun z => by cases z.1), ← e7, m_get_ne _ _ (fun z => hf6 z.2.2), m_get_ne _ _ (fun z => hf z.2.2), m_nu_newz]
    · obtain ⟨g1, g2, g3, g4⟩ := h4 k (by omega)
      have o8 : ∀ f, ¬ ((8 : Nat) = 18 ∧ σ.1 8 + k = a ∧ f = i) := fun f z => by cases z.1
      have n8 : ¬ ((8 : Nat) = 8 ∧ σ.1 8 + k = τ.1 8) := fun z => by have := z.2; omega
      refine ⟨?_, ?_, ?_, fun f hf hf6 => ?_⟩
      · rw [old 18 _ k (fun z => e z.2.2) (fun z => by cases z.1)]; exact g1
      · rw [old 8 _ 0 (o8 0) n8]; exact g2
      · rw [old 8 _ 6 (o8 6) n8]; exact g3
      · rw [old 8 _ f (o8 f) n8]; exact g4 f hf hf6
  · rw [old c j k (fun z => a2 ⟨z.1, z.2.1⟩) (fun z => a3 ⟨z.1, by have := z.2; omega, by have := z.2; omega⟩)]
    exact h5 c j k a2 (fun z => a3 ⟨z.1, z.2.1, by omega⟩)
/-- from a loop of the constructor to what follows -/
theorem pp_loop {σ : mS} {a b : Nat} {q : mX × mS → Prop} (hf : m_get σ 2 b 2 = .inr (.inr (some (18, a)))) (hl : σ.2.1 18 a = 3) (K : ∀ τ, pp_P σ a 3 τ → ∃ w, ER 20 z20s (114, [some (.inr (.inr (some (2, b)))), some (.inl (Int32.ofNat 3))], [], τ, 23, 335) w ∧ q w) : ∀ (m i : Nat) (τ : mS), i + m = 3 → pp_P σ a i τ → ∃ w, ER 20 z20s (85, [some (.inr (.inr (some (2, b)))), some (.inl (Int32.ofNat i))], [], τ, 20 + i, 9 * i + 308) w ∧ q w
  | 0, i, τ, hm, h => by
    have e : i = 3 := by omega
    subst e
    have hg : m_get τ 2 b 2 = .inr (.inr (some (18, a))) := (h.2.2.2 2 b 2 (fun z => by cases z.1) (fun z => by cases z.1)).trans hf
    obtain ⟨w, k1, k2⟩ := K τ h
    refine ⟨w, ?_, k2⟩
    refine er_p rfl rfl rfl rfl ?_
    refine er_p rfl rfl rfl rfl ?_
    refine er_get rfl rfl hg ?_
    refine er_len (l := 3) rfl ⟨(by show 13 ≤ 18; decide), (by show 18 ≤ 21; decide)⟩ ((h.2.1 18 a (by decide)).trans hl) ?_
    refine er_ct rfl rfl rfl ((i32_ge 3 (by decide) 3 (by decide)).mpr (Nat.le_refl _)) ?_
    exact k1
  | m + 1, i, τ, hm, h => by
    have hi : i < 3 := by omega
    have hg : m_get τ 2 b 2 = .inr (.inr (some (18, a))) := (h.2.2.2 2 b 2 (fun z => by cases z.1) (fun z => by cases z.1)).trans hf
    have hl' := (h.2.1 18 a (by decide)).trans hl
    obtain ⟨w, g1, g2⟩ := pp_loop hf hl K m (i + 1) _ (by omega) (pp_step h)
    refine ⟨w, ?_, g2⟩
    refine er_p rfl rfl rfl rfl ?_
    refine er_p rfl rfl rfl rfl ?_
    refine er_get rfl rfl hg ?_
    refine er_len (l := 3) rfl ⟨(by show 13 ≤ 18; decide), (by show 18 ≤ 21; decide)⟩ hl' ?_
    refine er_cf rfl rfl rfl (fun z => by have := (i32_ge i (by omega) 3 (by decide)).mp z; omega) ?_
    refine er_p rfl rfl rfl rfl ?_
    refine er_get rfl rfl hg ?_
    refine er_p rfl rfl rfl rfl ?_
    refine er_new rfl (by decide) ⟨by show 20 + i + 1 ≤ 223; omega, by show 9 * i + 308 + 9 ≤ 2335; omega⟩ ?_
    refine er_p rfl rfl rfl rfl ?_
    refine er_p rfl rfl rfl rfl ?_
    refine er_spc (as := [.inl (Int32.ofNat i)]) (v := none) rfl (by decide) rfl rfl rfl rfl ⟨Nat.le_of_ble_eq_true rfl, ⟨by show 20 + i + 1 + 0 ≤ 223; omega, by show 9 * i + 308 + 9 + 0 ≤ 2335; omega⟩⟩ er_110 ?_
    refine er_ast (l := i) rfl (i32_nat i (by omega)) ⟨rfl, ⟨(by show 16 ≤ 18; decide), (by show 18 ≤ 20; decide)⟩, ?_⟩ ?_
    · show vp_in (Int32.ofNat i) ((m_set (m_set (m_nu τ 8 0) 8 (τ.1 8) 0 (.inl (Int32.ofNat i))) 8 (τ.1 8) 6 (.inl 1)).2.1 18 a)
      rw [m_set_2, m_set_2, m_nu_len τ (fun z => by cases z.1), hl']
      exact i32_vp hi (by decide)
    refine er_p rfl rfl rfl rfl ?_
    refine er_p rfl rfl rfl rfl ?_
    have e1 : Int32.ofNat i + Int32.ofInt 1 = Int32.ofNat (i + 1) := i32_inc i (by omega)
    have e2 : 9 * (i + 1) + 308 = 9 * i + 308 + 9 := by omega
    have e3 : 20 + (i + 1) = 20 + i + 1 := by omega
    rw [e2, e3, ← e1] at g1
    exact g1
/-- i members are made -/
def mm_P (σ : mS) (a i : Nat) (τ : mS) : Prop :=
  (∀ c, τ.1 c = if c = 6 then σ.1 6 + i else if c = 14 then σ.1 14 + i else σ.1 c) ∧ (∀ c j, 13 ≤ c → τ.2.1 c j = if c = 14 ∧ σ.1 14 ≤ j ∧ j < σ.1 14 + i then 3 else σ.2.1 c j) ∧
  (∀ k, k < i → m_get τ 16 a k = .inr (.inr (some (6, σ.1 6 + k))) ∧ m_get τ 6 (σ.1 6 + k) 0 = .inl (Int32.ofNat k) ∧ m_get τ 6 (σ.1 6 + k) 1 = .inr (.inr (some (14, σ.1 14 + k))) ∧ (∀ f, f ≠ 0 → f ≠ 1 → m_get τ 6 (σ.1 6 + k) f = hz 6 f) ∧ ∀ f, m_get τ 14 (σ.1 14 + k) f = hz 14 f) ∧
  ∀ c j k, ¬ (c = 16 ∧ j = a) → ¬ (c = 6 ∧ σ.1 6 ≤ j ∧ j < σ.1 6 + i) → ¬ (c = 14 ∧ σ.1 14 ≤ j ∧ j < σ.1 14 + i) → m_get τ c j k = m_get σ c j k
def mm_it (τ : mS) (a i : Nat) : mS := m_set (m_set (m_set (m_nu (m_nu τ 6 0) 14 3) 6 (τ.1 6) 1 (.inr (.inr (some (14, (m_nu τ 6 0).1 14))))) 6 (τ.1 6) 0 (.inl (Int32.ofNat i))) 16 a i (.inr (.inr (some (6, τ.1 6))))
theorem mm_step {σ τ : mS} {a i : Nat} (h : mm_P σ a i τ) : mm_P σ a (i + 1) (mm_it τ a i) := by
  obtain ⟨h1, h2, h4, h5⟩ := h
  have e6 : τ.1 6 = σ.1 6 + i := by rw [h1]; rfl
  have e14 : τ.1 14 = σ.1 14 + i := by rw [h1]; rfl
  have e14' : (m_nu τ 6 0).1 14 = τ.1 14 := m_nu_cntO τ (by decide)
  have t16 : ∀ k, m_tp (m_ty 16 k) (.inr (.inr (some (6, τ.1 6)))) := fun k => m_ty_arr (j := 3) rfl
  have old : ∀ c j k, ¬ (c = 16 ∧ j = a ∧ k = i) → ¬ (c = 6 ∧ j = τ.1 6) → ¬ (c = 14 ∧ j = τ.1 14) → m_get (mm_it τ a i) c j k = m_get τ c j k := by
    intro c j k a1 a2 a3
    unfold mm_it
    rw [m_get_ne _ _ a1, m_get_ne _ _ (fun z => a2 ⟨z.1, z.2.1⟩), m_get_ne _ _ (fun z => a2 ⟨z.1, z.2.1⟩), m_nu_old _ (fun z => a3 ⟨z.1, by rw [← e14']; exact z.2⟩), m_nu_old _ a2]
  refine ⟨fun c => ?_, fun c j hc => ?_, fun k hk => ?_, fun c j k a2 a3 a4 => ?_⟩
  · unfold mm_it
    rw [m_set_1, m_set_1, m_set_1]
    show (if c = 14 then (if c = 6 then τ.1 c + 1 else τ.1 c) + 1 else if c = 6 then τ.1 c + 1 else τ.1 c) = _
    rw [h1]
    by_cases e : c = 6
    · subst e; rfl
    · by_cases e2 : c = 14
      · subst e2; rfl
      · rw [if_neg e2, if_neg e, if_neg e, if_neg e2, if_neg e, if_neg e2]
  · unfold mm_it
    rw [m_set_2, m_set_2, m_set_2]
    by_cases e : c = 14 ∧ j = τ.1 14
    · obtain ⟨rfl, rfl⟩ := e
      rw [← e14', m_nu_lenN, if_pos ⟨rfl, by omega, by omega⟩]
    · rw [m_nu_len _ (fun z => e ⟨z.1, by rw [← e14']; exact z.2⟩), m_nu_len τ (fun z => by omega), h2 c j hc]
      by_cases e3 : c = 14 ∧ σ.1 14 ≤ j ∧ j < σ.1 14 + i
      · rw [if_pos e3, if_pos ⟨e3.1, e3.2.1, by omega⟩]
      · rw [if_neg e3, if_neg (fun z => e3 ⟨z.1, z.2.1, by
          have z1s := z.2.2
          by_cases z2s : j = τ.1 14
          · exact absurd ⟨z.1, z2s⟩ e
          · omega⟩)]
  · by_cases e : k = i
    · subst e
      refine ⟨?_, ?_, ?_, fun f hf hf1 => ?_, fun f => ?_⟩
      · unfold mm_it
        rw [m_get_eq _ (t16 k), e6]
      · unfold mm_it
        rw [m_get_ne _ _ (fun z => by cases z.1), ← e6, m_get_eq _ (show m_tp (m_ty 6 0) (.inl (Int32.ofNat k)) from Or.inl rfl)]
      · unfold mm_it
        rw [m_get_ne _ _ (fun z => by cases z.1), ← e6, m_get_ne _ _ (fun z => by cases z.2.2), m_get_eq _ (show m_tp (m_ty 6 1) (.inr (.inr (some (14, (m_nu τ 6 0).1 14)))) from rfl), e14', e14]
      · unfold mm_it
        rw [m_get_ne _ _ (fun z => by cases z.1), ← e6, m_get_ne _ _ (fun z => hf z.2.2), m_get_ne _ _ (fun z => hf1 z.2.2), m_nu_old _ (fun z => by cases z.1), m_nu_newz]
      · unfold mm_it
        rw [m_get_ne _ _ (fun z => by cases z.1), m_get_ne _ _ (fun z => by cases z.1), m_get_ne _ _ (fun z => by cases z.1), ← e14, ← e14', m_nu_newz]
    · obtain ⟨g1, g2, g3, g4, g5⟩ := h4 k (by omega)
      have o6 : ∀ f, m_get (mm_it τ a i) 6 (σ.1 6 + k) f = m_get τ 6 (σ.1 6 + k) f := fun f => old 6 _ f (fun z => by cases z.1) (fun z => by have := z.2; omega) (fun z => by cases z.1)
      refine ⟨?_, ?_, ?_, fun f hf hf1 => ?_, fun f => ?_⟩
      · rw [old 16 _ k (fun z => e z.2.2) (fun z => by cases z.1) (fun z => by cases z.1)]; exact g1
      · rw [o6]; exact g2
      · rw [o6]; exact g3
      · rw [o6]; exact g4 f hf hf1
      · rw [old 14 _ f (fun z => by cases z.1) (fun z => by cases z.1) (fun z => by have := z.2; omega)]; exact g5 f
  · rw [old c j k (fun z => a2 ⟨z.1, z.2.1⟩) (fun z => a3 ⟨z.1, by have := z.2; omega, by have := z.2; omega⟩) (fun z => a4 ⟨z.1, by have := z.2; omega, by have := z.2; omega⟩)]
    exact h5 c j k a2 (fun z => a3 ⟨z.1, z.2.1, by omega⟩) (fun z => a4 ⟨z.1, z.2.1, by omega⟩)
theorem mm_loop {σ : mS} {a b : Nat} {q : mX × mS → Prop} (hf : m_get σ 2 b 0 = .inr (.inr (some (16, a)))) (hl : σ.2.1 16 a = 5) (K : ∀ τ, mm_P σ a 5 τ → ∃ w, ER 20 z20s (83, [some (.inr (.inr (some (2, b)))), some (.inl (Int32.ofNat 5))], [], τ, 20, 308) w ∧ q w) : ∀ (m i : Nat) (τ : mS), i + m = 5 → mm_P σ a i τ → ∃ w, ER 20 z20s (54, [some (.inr (.inr (some (2, b)))), some (.inl (Int32.ofNat i))], [], τ, 10 + 2 * i, 14 * i + 238) w ∧ q w
  | 0, i, τ, hm, h => by
    have e : i = 5 := by omega
    subst e
    have hg : m_get τ 2 b 0 = .inr (.inr (some (16, a))) := (h.2.2.2 2 b 0 (fun z => by cases z.1) (fun z => by cases z.1) (fun z => by cases z.1)).trans hf
    obtain ⟨w, k1, k2⟩ := K τ h
    refine ⟨w, ?_, k2⟩
    refine er_p rfl rfl rfl rfl ?_
    refine er_p rfl rfl rfl rfl ?_
    refine er_get rfl rfl hg ?_
    refine er_len (l := 5) rfl ⟨(by show 13 ≤ 16; decide), (by show 16 ≤ 21; decide)⟩ (by rw [h.2.1 16 a (by decide), if_neg (fun z => by cases z.1)]; exact hl) ?_
    refine er_ct rfl rfl rfl ((i32_ge 5 (by decide) 5 (by decide)).mpr (Nat.le_refl _)) ?_
    exact k1
  | m + 1, i, τ, hm, h => by
    have hi : i < 5 := by omega
    have hg : m_get τ 2 b 0 = .inr (.inr (some (16, a))) := (h.2.2.2 2 b 0 (fun z => by cases z.1) (fun z => by cases z.1) (fun z => by cases z.1)).trans hf
    have hl' : τ.2.1 16 a = 5 := by rw [h.2.1 16 a (by decide), if_neg (fun z => by cases z.1)]; exact hl
    obtain ⟨w, g1, g2⟩ := mm_loop hf hl K m (i + 1) _ (by omega) (mm_step h)
    refine ⟨w, ?_, g2⟩
    refine er_p rfl rfl rfl rfl ?_
    refine er_p rfl rfl rfl rfl ?_
    refine er_get rfl rfl hg ?_
    refine er_len (l := 5) rfl ⟨(by show 13 ≤ 16; decide), (by show 16 ≤ 21; decide)⟩ hl' ?_
    refine er_cf rfl rfl rfl (fun z => by have := (i32_ge i (by omega) 5 (by decide)).mp z; omega) ?_
    refine er_p rfl rfl rfl rfl ?_
    refine er_get rfl rfl hg ?_
    refine er_p rfl rfl rfl rfl ?_
    refine er_new rfl (by decide) ⟨by show 10 + 2 * i + 1 ≤ 223; omega, by show 14 * i + 238 + 11 ≤ 2335; omega⟩ ?_
    refine er_p rfl rfl rfl rfl ?_
    refine er_p rfl rfl rfl rfl ?_
    refine er_spc (as := [.inl (Int32.ofNat i)]) (v := none) rfl (by decide) rfl rfl rfl rfl ⟨Nat.le_of_ble_eq_true rfl, ⟨by show 10 + 2 * i + 1 + 1 ≤ 223; omega, by show 14 * i + 238 + 11 + 3 ≤ 2335; omega⟩⟩ er_88 ?_
    refine er_ast (l := i) rfl (i32_nat i (by omega)) ⟨rfl, ⟨(by show 16 ≤ 16; decide), (by show 16 ≤ 20; decide)⟩, ?_⟩ ?_
    · show vp_in (Int32.ofNat i) ((m_set (m_set (m_nu (m_nu τ 6 0) 14 3) 6 (τ.1 6) 1 (.inr (.inr (some (14, (m_nu τ 6 0).1 14))))) 6 (τ.1 6) 0 (.inl (Int32.ofNat i))).2.1 16 a)
      rw [m_set_2, m_set_2, m_nu_len _ (fun z => by cases z.1), m_nu_len τ (fun z => by cases z.1), hl']
      exact i32_vp hi (by decide)
    refine er_p rfl rfl rfl rfl ?_
    refine er_p rfl rfl rfl rfl ?_
    have e1 : Int32.ofNat i + Int32.ofInt 1 = Int32.ofNat (i + 1) := i32_inc i (by omega)
    have e2 : 14 * (i + 1) + 238 = 14 * i + 238 + 11 + 3 := by omega
    have e3 : 10 + 2 * (i + 1) = 10 + 2 * i + 1 + 1 := by omega
    rw [e2, e3, ← e1] at g1
    exact g1
