/-! main up to its arrays -/
set_option maxRecDepth 20000 in
theorem t0 {C : ec_C} (h123 : ∀ avs σ x σ', C 123 avs σ = some (x, σ') → ev_run sm_all 123 avs σ x σ') {f : Nat} {σ0 : mS} {q : mX × mS} (c0 : ∀ c, c ≠ 98 → σ0.1 c = 0) (r0 : ∀ c i k, m_r σ0 c i k = none) (h : EC C f 18 ab_main 0 [some (rf 98 0), none, none, none, none, none, none, none, none, none, none, none, none, none, none, none, none, none] [] σ0 q) : ∃ τ, NHp (m_nu σ0 11 0) τ ∧ nDg τ ∧ ∃ f', EC C f' 18 ab_main 35 [some (rf 98 0), some (rf 11 0), some (rf 13 14), some (rf 13 15), some (rf 13 16), some (rf 13 17), some (rf 14 6), none, none, none, none, none, none, none, none, none, none, none] [] (m_nu (m_nu (m_nu (m_nu (m_nu τ 13 60) 13 60) 13 12) 13 8) 14 1) q := by
  obtain ⟨f, -, h⟩ := ec_new h rfl (by decide)
  replace h : EC C f 18 ab_main 3 [some (rf 98 0), none, none, none, none, none, none, none, none, none, none, none, none, none, none, none, none, none] [.inr (.inr (some (11, σ0.1 11)))] (m_nu σ0 11 0) q := h
  rw [c0 11 (by decide)] at h
  obtain ⟨f, -, h⟩ := ec_p h rfl rfl rfl rfl
  replace h : EC C f 18 ab_main 4 [some (rf 98 0), none, none, none, none, none, none, none, none, none, none, none, none, none, none, none, none, none] [rf 11 0, rf 11 0] (m_nu σ0 11 0) q := h
  obtain ⟨x, s1, r0', hh⟩ := ec_sp (as := []) (p := (11, 0)) h rfl (by decide) rfl rfl
  have r := h123 _ _ _ _ r0'
  have cn : ∀ c, c ≠ 11 → c ≠ 98 → (m_nu σ0 11 0).1 c = 0 := fun c hc h98 => by rw [m_nu_cntO _ hc, c0 c h98]
  have c11 : (m_nu σ0 11 0).1 11 = 1 := by rw [m_nu_cnt, c0 11 (by decide)]
  obtain ⟨τ, r', n⟩ := er_123 cn c11
  have n0 : nDg σ0 := fun c i k q _ e => by rw [r0] at e; cases e
  have nd : nDg τ := (nM_run r' (fun v hv => by
    rw [List.mem_singleton.mp hv]
    show 0 < (m_nu σ0 11 0).1 11
    rw [c11]
    decide) (nM_nu n0).2).2
  obtain ⟨ex, es⟩ := run_fn r r'
  subst ex
  subst es
  rcases hh with ⟨v, ev, f, -, h⟩ | ⟨b, eb, -⟩
  rotate_left
  · cases eb
  cases ev
  replace h : EC C f 18 ab_main 7 [some (rf 98 0), none, none, none, none, none, none, none, none, none, none, none, none, none, none, none, none, none] [rf 11 0] s1 q := h
  obtain ⟨f, -, h⟩ := ec_p h rfl rfl rfl rfl
  replace h : EC C f 18 ab_main 8 [some (rf 98 0), some (rf 11 0), none, none, none, none, none, none, none, none, none, none, none, none, none, none, none, none] [] s1 q := h
  have k13 : s1.1 13 = 14 := n.2.2.1.1
  have k14 : s1.1 14 = 6 := n.2.2.1.2.1
  obtain ⟨f, -, h⟩ := ec_p h rfl rfl rfl rfl
  obtain ⟨f, -, h⟩ := ec_nwl h rfl rfl
  replace h : EC C f 18 ab_main 12 [some (rf 98 0), some (rf 11 0), none, none, none, none, none, none, none, none, none, none, none, none, none, none, none, none] [.inr (.inr (some (13, (s1).1 13)))] (m_nu (s1) 13 60) q := h
  have d0 : (s1).1 13 = 14 := k13
  rw [d0] at h
  obtain ⟨f, -, h⟩ := ec_p h rfl rfl rfl rfl
  replace h : EC C f 18 ab_main 13 [some (rf 98 0), some (rf 11 0), some (rf 13 14), none, none, none, none, none, none, none, none, none, none, none, none, none, none, none] [] (m_nu (s1) 13 60) q := h
  obtain ⟨f, -, h⟩ := ec_p h rfl rfl rfl rfl
  obtain ⟨f, -, h⟩ := ec_nwl h rfl rfl
  replace h : EC C f 18 ab_main 17 [some (rf 98 0), some (rf 11 0), some (rf 13 14), none, none, none, none, none, none, none, none, none, none, none, none, none, none, none] [.inr (.inr (some (13, (m_nu (s1) 13 60).1 13)))] (m_nu (m_nu (s1) 13 60) 13 60) q := h
  have d1 : (m_nu (s1) 13 60).1 13 = 15 := by rw [m_nu_cnt, d0]
  rw [d1] at h
  obtain ⟨f, -, h⟩ := ec_p h rfl rfl rfl rfl
  replace h : EC C f 18 ab_main 18 [some (rf 98 0), some (rf 11 0), some (rf 13 14), some (rf 13 15), none, none, none, none, none, none, none, none, none, none, none, none, none, none] [] (m_nu (m_nu (s1) 13 60) 13 60) q := h
  obtain ⟨f, -, h⟩ := ec_p h rfl rfl rfl rfl
  obtain ⟨f, -, h⟩ := ec_nwl h rfl rfl
  replace h : EC C f 18 ab_main 22 [some (rf 98 0), some (rf 11 0), some (rf 13 14), some (rf 13 15), none, none, none, none, none, none, none, none, none, none, none, none, none, none] [.inr (.inr (some (13, (m_nu (m_nu (s1) 13 60) 13 60).1 13)))] (m_nu (m_nu (m_nu (s1) 13 60) 13 60) 13 12) q := h
  have d2 : (m_nu (m_nu (s1) 13 60) 13 60).1 13 = 16 := by rw [m_nu_cnt, d1]
  rw [d2] at h
  obtain ⟨f, -, h⟩ := ec_p h rfl rfl rfl rfl
  replace h : EC C f 18 ab_main 24 [some (rf 98 0), some (rf 11 0), some (rf 13 14), some (rf 13 15), some (rf 13 16), none, none, none, none, none, none, none, none, none, none, none, none, none] [] (m_nu (m_nu (m_nu (s1) 13 60) 13 60) 13 12) q := h
  obtain ⟨f, -, h⟩ := ec_p h rfl rfl rfl rfl
  obtain ⟨f, -, h⟩ := ec_nwl h rfl rfl
  replace h : EC C f 18 ab_main 28 [some (rf 98 0), some (rf 11 0), some (rf 13 14), some (rf 13 15), some (rf 13 16), none, none, none, none, none, none, none, none, none, none, none, none, none] [.inr (.inr (some (13, (m_nu (m_nu (m_nu (s1) 13 60) 13 60) 13 12).1 13)))] (m_nu (m_nu (m_nu (m_nu (s1) 13 60) 13 60) 13 12) 13 8) q := h
  have d3 : (m_nu (m_nu (m_nu (s1) 13 60) 13 60) 13 12).1 13 = 17 := by rw [m_nu_cnt, d2]
  rw [d3] at h
  obtain ⟨f, -, h⟩ := ec_p h rfl rfl rfl rfl
  replace h : EC C f 18 ab_main 30 [some (rf 98 0), some (rf 11 0), some (rf 13 14), some (rf 13 15), some (rf 13 16), some (rf 13 17), none, none, none, none, none, none, none, none, none, none, none, none] [] (m_nu (m_nu (m_nu (m_nu (s1) 13 60) 13 60) 13 12) 13 8) q := h
  obtain ⟨f, -, h⟩ := ec_p h rfl rfl rfl rfl
  obtain ⟨f, -, h⟩ := ec_nwl h rfl rfl
  replace h : EC C f 18 ab_main 33 [some (rf 98 0), some (rf 11 0), some (rf 13 14), some (rf 13 15), some (rf 13 16), some (rf 13 17), none, none, none, none, none, none, none, none, none, none, none, none] [.inr (.inr (some (14, (m_nu (m_nu (m_nu (m_nu (s1) 13 60) 13 60) 13 12) 13 8).1 14)))] (m_nu (m_nu (m_nu (m_nu (m_nu (s1) 13 60) 13 60) 13 12) 13 8) 14 1) q := h
  have d4 : (m_nu (m_nu (m_nu (m_nu (s1) 13 60) 13 60) 13 12) 13 8).1 14 = 6 := by rw [m_nu_cntO _ (by decide), m_nu_cntO _ (by decide), m_nu_cntO _ (by decide), m_nu_cntO _ (by decide), k14]
  rw [d4] at h
  obtain ⟨f, -, h⟩ := ec_p h rfl rfl rfl rfl
  replace h : EC C f 18 ab_main 35 [some (rf 98 0), some (rf 11 0), some (rf 13 14), some (rf 13 15), some (rf 13 16), some (rf 13 17), some (rf 14 6), none, none, none, none, none, none, none, none, none, none, none] [] (m_nu (m_nu (m_nu (m_nu (m_nu (s1) 13 60) 13 60) 13 12) 13 8) 14 1) q := h
  exact ⟨s1, n, nd, f, h⟩
