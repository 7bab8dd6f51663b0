/-! a new feed: levels, readers, rows -/
section FD0
def z77s : mAl := ((yX5_init, cX5_init, 1, none, rm_X5_init, []), rw_X5_init, true)
theorem z77s_at : m_alF[77]? = some z77s := rfl
def LVp (σ : mS) (a : Nat) (τ : mS) : Prop := (τ.1 13 = σ.1 13 + 2 ∧ ∀ c, c ≠ 13 → τ.1 c = σ.1 c) ∧ (m_get τ 5 a 0 = rf 13 (σ.1 13) ∧ m_get τ 5 a 1 = rf 13 (σ.1 13 + 1)) ∧ (τ.2.1 13 (σ.1 13) = 480 ∧ τ.2.1 13 (σ.1 13 + 1) = 480) ∧ (∀ c j k, (c = 13 → j < σ.1 13) → ¬ (c = 5 ∧ j = a ∧ k < 2) → m_get τ c j k = m_get σ c j k) ∧ (∀ c j, (c = 13 → j < σ.1 13) → τ.2.1 c j = σ.2.1 c j)
theorem er_77 {σ : mS} {a : Nat} : ∃ τ, ev_run sm_all 77 [rf 5 a] σ (.inl none) τ ∧ LVp σ a τ := by
  have c1 : (m_set (m_nu σ 13 480) 5 a 0 (rf 13 (σ.1 13))).1 13 = σ.1 13 + 1 := by rw [m_set_1, m_nu_cnt]
  refine ⟨m_set (m_nu (m_set (m_nu σ 13 480) 5 a 0 (rf 13 (σ.1 13))) 13 480) 5 a 1 (rf 13 (σ.1 13 + 1)), ?_, ⟨?_, fun c hc => ?_⟩, ⟨?_, ?_⟩, ⟨?_, ?_⟩, fun c j k h1 h2 => ?_, fun c j h1 => ?_⟩
  · refine er_go z77s_at (Nat.le_of_ble_eq_true rfl) ?_
    refine er_p rfl rfl rfl rfl ?_
    refine er_obj rfl rfl rfl (by decide) ?_
    refine er_p rfl rfl rfl rfl ?_
    refine er_p rfl rfl rfl rfl ?_
    refine er_nwl (l := 480) rfl rfl (by decide) ⟨by decide, by decide, by decide, by decide⟩ ?_
    refine er_put rfl rfl rfl ?_
    refine er_p rfl rfl rfl rfl ?_
    refine er_p rfl rfl rfl rfl ?_
    refine er_nwl (l := 480) rfl rfl (by decide) ⟨by decide, by decide, by decide, by decide⟩ ?_
    refine er_put rfl rfl rfl ?_
    rw [← c1]
    exact er_ret rfl (by decide) rfl
  · rw [m_set_1, m_nu_cnt, c1]
  · rw [m_set_1, m_nu_cntO _ hc, m_set_1, m_nu_cntO _ hc]
  · rw [m_get_ne _ _ (fun z => by cases z.2.2), m_nu_old _ (fun z => by cases z.1)]
    exact m_get_eq _ rfl
  · exact m_get_eq _ rfl
  · rw [m_set_2, m_nu_len _ (fun z => by have := z.2; rw [c1] at this; omega), m_set_2, m_nu_lenN]
  · rw [m_set_2, ← c1, m_nu_lenN]
  · rw [m_get_ne _ _ (fun z => h2 ⟨z.1, z.2.1, by omega⟩), m_nu_old _ (fun z => by have := z.2; rw [c1] at this; have := h1 z.1; omega), m_get_ne _ _ (fun z => h2 ⟨z.1, z.2.1, by omega⟩), m_nu_old _ (fun z => by have := z.2; have := h1 z.1; omega)]
  · rw [m_set_2, m_nu_len _ (fun z => by have := z.2; rw [c1] at this; have := h1 z.1; omega), m_set_2, m_nu_len _ (fun z => by have := z.2; have := h1 z.1; omega)]
def z119s : mAl := ((yX9_init, cX9_init, 1, none, rm_X9_init, []), rw_X9_init, true)
theorem z119s_at : m_alF[119]? = some z119s := rfl
def RDp (σ : mS) (a : Nat) (τ : mS) : Prop := (τ.1 13 = σ.1 13 + 2 ∧ τ.1 5 = σ.1 5 + 1 ∧ ∀ c, c ≠ 13 → c ≠ 5 → τ.1 c = σ.1 c) ∧ (m_get τ 9 a 0 = rf 5 (σ.1 5) ∧ m_get τ 5 (σ.1 5) 0 = rf 13 (σ.1 13) ∧ m_get τ 5 (σ.1 5) 1 = rf 13 (σ.1 13 + 1) ∧ m_get τ 5 (σ.1 5) 2 = .inl 0) ∧ (τ.2.1 13 (σ.1 13) = 480 ∧ τ.2.1 13 (σ.1 13 + 1) = 480) ∧ (∀ c j k, (c = 13 → j < σ.1 13) → (c = 5 → j < σ.1 5) → ¬ (c = 9 ∧ j = a ∧ k = 0) → m_get τ c j k = m_get σ c j k) ∧ (∀ c j, c ≠ 5 → (c = 13 → j < σ.1 13) → τ.2.1 c j = σ.2.1 c j)
theorem er_119 {σ : mS} {a : Nat} : ∃ τ, ev_run sm_all 119 [rf 9 a] σ (.inl none) τ ∧ RDp σ a τ := by
  obtain ⟨s2, r2, ⟨c13, cO⟩, ⟨g0, g1⟩, ⟨l0, l1⟩, pr, pl⟩ := er_77 (σ := m_nu σ 5 0) (a := σ.1 5)
  have n13 : (m_nu σ 5 0).1 13 = σ.1 13 := m_nu_cntO _ (by decide)
  rw [n13] at c13 g0 g1 l0 l1 pr pl
  refine ⟨m_set s2 9 a 0 (rf 5 (σ.1 5)), ?_, ⟨?_, ?_, fun c h1 h2 => ?_⟩, ⟨?_, ?_, ?_, ?_⟩, ⟨?_, ?_⟩, fun c j k h1 h2 h3 => ?_, fun c j h0 h1 => ?_⟩
  · refine er_go z119s_at (Nat.le_of_ble_eq_true rfl) ?_
    refine er_p rfl rfl rfl rfl ?_
    refine er_obj rfl rfl rfl (by decide) ?_
    refine er_p rfl rfl rfl rfl ?_
    refine er_new rfl (by decide) ⟨by decide, by decide⟩ ?_
    refine er_p rfl rfl rfl rfl ?_
    refine er_spc (as := []) (v := none) rfl (by decide) rfl rfl rfl rfl ⟨Nat.le_of_ble_eq_true rfl, ⟨by decide, by decide⟩⟩ r2 ?_
    refine er_put rfl rfl rfl ?_
    exact er_ret rfl (by decide) rfl
  · rw [m_set_1, c13]
  · rw [m_set_1, cO 5 (by decide), m_nu_cnt]
  · rw [m_set_1, cO c h1, m_nu_cntO _ h2]
  · exact m_get_eq _ rfl
  · rw [m_get_ne _ _ (fun z => by cases z.1), g0]
  · rw [m_get_ne _ _ (fun z => by cases z.1), g1]
  · rw [m_get_ne _ _ (fun z => by cases z.1), pr 5 _ 2 (fun z => by cases z) (fun z => by omega), m_nu_new]
    rfl
  · rw [m_set_2, l0]
  · rw [m_set_2, l1]
  · rw [m_get_ne _ _ h3, pr c j k h1 (fun z => by have := h2 z.1; omega), m_nu_old _ (fun z => by have := h2 z.1; omega)]
  · rw [m_set_2, pl c j h1, m_nu_len _ (fun z => h0 z.1)]
theorem er_st {j : Nat} {z : mAl} {pc : Nat} {L : List (Option mV)} {st : List mV} {s s' : mS} {k n : Nat} {q : mX × mS} (e : s' = s) (K : ER j z (pc, L, st, s', k, n) q) : ER j z (pc, L, st, s, k, n) q := by rw [← e]; exact K
end FD0
def z50s : mAl := ((yX3_init, cX3_init, 2, none, rm_X3_init, []), rw_X3_init, true)
theorem z50s_at : m_alF[50]? = some z50s := rfl
def FDp (σ τ : mS) : Prop := (τ.1 13 = 14 ∧ ∀ c, c ≠ 13 → c ≠ 5 → c ≠ 9 → c ≠ 19 → τ.1 c = σ.1 c) ∧ (m_get τ 3 0 0 = rf 13 4 ∧ m_get τ 3 0 1 = rf 13 5 ∧ m_get τ 3 0 2 = rf 19 0 ∧ m_get τ 3 0 3 = rf 5 0 ∧ m_get τ 3 0 4 = rf 5 1 ∧ m_get τ 3 0 5 = m_get σ 3 0 5) ∧ (m_get τ 19 0 0 = rf 9 0 ∧ m_get τ 19 0 1 = rf 9 1) ∧ (m_get τ 9 0 0 = rf 5 2 ∧ m_get τ 9 0 1 = .inl 0 ∧ m_get τ 9 1 0 = rf 5 3 ∧ m_get τ 9 1 1 = .inl 0) ∧
  (m_get τ 5 0 0 = rf 13 6 ∧ m_get τ 5 0 1 = rf 13 7 ∧ m_get τ 5 0 2 = .inl 0 ∧ m_get τ 5 1 0 = rf 13 8 ∧ m_get τ 5 1 1 = rf 13 9 ∧ m_get τ 5 1 2 = .inl 0 ∧ m_get τ 5 2 0 = rf 13 10 ∧ m_get τ 5 2 1 = rf 13 11 ∧ m_get τ 5 2 2 = .inl 0 ∧ m_get τ 5 3 0 = rf 13 12 ∧ m_get τ 5 3 1 = rf 13 13 ∧ m_get τ 5 3 2 = .inl 0) ∧ (τ.2.1 19 0 = 2 ∧ τ.2.1 13 4 = 30 ∧ τ.2.1 13 5 = 30 ∧ τ.2.1 13 6 = 480 ∧ τ.2.1 13 7 = 480 ∧ τ.2.1 13 8 = 480 ∧ τ.2.1 13 9 = 480 ∧ τ.2.1 13 10 = 480 ∧ τ.2.1 13 11 = 480 ∧ τ.2.1 13 12 = 480 ∧ τ.2.1 13 13 = 480) ∧
  (∀ c j k, c ≠ 3 → c ≠ 5 → c ≠ 9 → c ≠ 19 → (c = 13 → j < 4) → m_get τ c j k = m_get σ c j k) ∧ (∀ c j, c ≠ 5 → c ≠ 9 → c ≠ 19 → (c = 13 → j < 4) → τ.2.1 c j = σ.2.1 c j)
set_option maxRecDepth 4000 in
theorem er_50 {s0 : mS} (n0_13 : s0.1 13 = 4) (n0_5 : s0.1 5 = 0) (n0_9 : s0.1 9 = 0) (n0_19 : s0.1 19 = 0) : ∃ τ, ev_run sm_all 50 [rf 3 0] s0 (.inl none) τ ∧ FDp s0 τ := by
  have p0 : ∀ c j k, c ≠ 3 → c ≠ 5 → c ≠ 9 → c ≠ 19 → (c = 13 → j < 4) → m_get s0 c j k = m_get s0 c j k := fun _ _ _ _ _ _ _ _ => rfl
  have q0 : ∀ c j, c ≠ 5 → c ≠ 9 → c ≠ 19 → (c = 13 → j < 4) → s0.2.1 c j = s0.2.1 c j := fun _ _ _ _ _ _ => rfl
  have m0 : ∀ c, c ≠ 13 → c ≠ 5 → c ≠ 9 → c ≠ 19 → s0.1 c = s0.1 c := fun _ _ _ _ _ => rfl
  have f0_3_0_5 : m_get s0 3 0 5 = m_get s0 3 0 5 := rfl
  obtain ⟨s1, e1⟩ : ∃ s, s = m_nu s0 13 30 := ⟨_, rfl⟩
  have n1_13 : s1.1 13 = 5 := by rw [e1, m_nu_cnt, n0_13]
  have n1_5 : s1.1 5 = 0 := by rw [e1, m_nu_cntO _ (by decide), n0_5]
  have n1_9 : s1.1 9 = 0 := by rw [e1, m_nu_cntO _ (by decide), n0_9]
  have n1_19 : s1.1 19 = 0 := by rw [e1, m_nu_cntO _ (by decide), n0_19]
  have f1_3_0_5 : m_get s1 3 0 5 = m_get s0 3 0 5 := by rw [e1, m_nu_old _ (fun z => by cases z.1), f0_3_0_5]
  have l1_13_4 : s1.2.1 13 4 = 30 := by rw [e1, ← n0_13, m_nu_lenN]
  have p1 : ∀ c j k, c ≠ 3 → c ≠ 5 → c ≠ 9 → c ≠ 19 → (c = 13 → j < 4) → m_get s1 c j k = m_get s0 c j k := fun c j k h1 h2 h3 h4 h5 => by rw [e1, m_nu_old _ (fun z => by have q := z.2; rw [n0_13] at q; have := h5 z.1; omega), p0 c j k h1 h2 h3 h4 h5]
  have q1 : ∀ c j, c ≠ 5 → c ≠ 9 → c ≠ 19 → (c = 13 → j < 4) → s1.2.1 c j = s0.2.1 c j := fun c j h2 h3 h4 h5 => by rw [e1, m_nu_len _ (fun z => by have q := z.2; rw [n0_13] at q; have := h5 z.1; omega), q0 c j h2 h3 h4 h5]
  have m1 : ∀ c, c ≠ 13 → c ≠ 5 → c ≠ 9 → c ≠ 19 → s1.1 c = s0.1 c := fun c h1 h2 h3 h4 => by rw [e1, m_nu_cntO _ h1, m0 c h1 h2 h3 h4]
  obtain ⟨s2, e2⟩ : ∃ s, s = m_set s1 3 0 0 (rf 13 4) := ⟨_, rfl⟩
  have n2_13 : s2.1 13 = 5 := by rw [e2, m_set_1, n1_13]
  have n2_5 : s2.1 5 = 0 := by rw [e2, m_set_1, n1_5]
  have n2_9 : s2.1 9 = 0 := by rw [e2, m_set_1, n1_9]
  have n2_19 : s2.1 19 = 0 := by rw [e2, m_set_1, n1_19]
  have f2_3_0_5 : m_get s2 3 0 5 = m_get s0 3 0 5 := (congrArg (fun s => m_get s 3 0 5) e2).trans ((m_get_ne _ _ (by decide)).trans f1_3_0_5)
  have f2_3_0_0 : m_get s2 3 0 0 = rf 13 4 := (congrArg (fun s => m_get s 3 0 0) e2).trans (m_get_eq _ rfl)
  have l2_13_4 : s2.2.1 13 4 = 30 := by rw [e2, m_set_2, l1_13_4]
  have p2 : ∀ c j k, c ≠ 3 → c ≠ 5 → c ≠ 9 → c ≠ 19 → (c = 13 → j < 4) → m_get s2 c j k = m_get s0 c j k := fun c j k h1 h2 h3 h4 h5 => by rw [e2, m_get_ne _ _ (fun z => h1 z.1), p1 c j k h1 h2 h3 h4 h5]
  have q2 : ∀ c j, c ≠ 5 → c ≠ 9 → c ≠ 19 → (c = 13 → j < 4) → s2.2.1 c j = s0.2.1 c j := fun c j h2 h3 h4 h5 => by rw [e2, m_set_2, q1 c j h2 h3 h4 h5]
  have m2 : ∀ c, c ≠ 13 → c ≠ 5 → c ≠ 9 → c ≠ 19 → s2.1 c = s0.1 c := fun c h1 h2 h3 h4 => by rw [e2, m_set_1, m1 c h1 h2 h3 h4]
  obtain ⟨s3, e3⟩ : ∃ s, s = m_nu s2 13 30 := ⟨_, rfl⟩
  have n3_13 : s3.1 13 = 6 := by rw [e3, m_nu_cnt, n2_13]
  have n3_5 : s3.1 5 = 0 := by rw [e3, m_nu_cntO _ (by decide), n2_5]
  have n3_9 : s3.1 9 = 0 := by rw [e3, m_nu_cntO _ (by decide), n2_9]
  have n3_19 : s3.1 19 = 0 := by rw [e3, m_nu_cntO _ (by decide), n2_19]
  have f3_3_0_5 : m_get s3 3 0 5 = m_get s0 3 0 5 := by rw [e3, m_nu_old _ (fun z => by cases z.1), f2_3_0_5]
  have f3_3_0_0 : m_get s3 3 0 0 = rf 13 4 := by rw [e3, m_nu_old _ (fun z => by cases z.1), f2_3_0_0]
  have l3_13_4 : s3.2.1 13 4 = 30 := by rw [e3, m_nu_len _ (fun z => by have q := z.2; rw [n2_13] at q; omega), l2_13_4]
  have l3_13_5 : s3.2.1 13 5 = 30 := by rw [e3, ← n2_13, m_nu_lenN]
  have p3 : ∀ c j k, c ≠ 3 → c ≠ 5 → c ≠ 9 → c ≠ 19 → (c = 13 → j < 4) → m_get s3 c j k = m_get s0 c j k := fun c j k h1 h2 h3 h4 h5 => by rw [e3, m_nu_old _ (fun z => by have q := z.2; rw [n2_13] at q; have := h5 z.1; omega), p2 c j k h1 h2 h3 h4 h5]
  have q3 : ∀ c j, c ≠ 5 → c ≠ 9 → c ≠ 19 → (c = 13 → j < 4) → s3.2.1 c j = s0.2.1 c j := fun c j h2 h3 h4 h5 => by rw [e3, m_nu_len _ (fun z => by have q := z.2; rw [n2_13] at q; have := h5 z.1; omega), q2 c j h2 h3 h4 h5]
  have m3 : ∀ c, c ≠ 13 → c ≠ 5 → c ≠ 9 → c ≠ 19 → s3.1 c = s0.1 c := fun c h1 h2 h3 h4 => by rw [e3, m_nu_cntO _ h1, m2 c h1 h2 h3 h4]
  obtain ⟨s4, e4⟩ : ∃ s, s = m_set s3 3 0 1 (rf 13 5) := ⟨_, rfl⟩
  have n4_13 : s4.1 13 = 6 := by rw [e4, m_set_1, n3_13]
  have n4_5 : s4.1 5 = 0 := by rw [e4, m_set_1, n3_5]
  have n4_9 : s4.1 9 = 0 := by rw [e4, m_set_1, n3_9]
  have n4_19 : s4.1 19 = 0 := by rw [e4, m_set_1, n3_19]
  have f4_3_0_5 : m_get s4 3 0 5 = m_get s0 3 0 5 := (congrArg (fun s => m_get s 3 0 5) e4).trans ((m_get_ne _ _ (by decide)).trans f3_3_0_5)
  have f4_3_0_0 : m_get s4 3 0 0 = rf 13 4 := (congrArg (fun s => m_get s 3 0 0) e4).trans ((m_get_ne _ _ (by decide)).trans f3_3_0_0)
  have f4_3_0_1 : m_get s4 3 0 1 = rf 13 5 := (congrArg (fun s => m_get s 3 0 1) e4).trans (m_get_eq _ rfl)
  have l4_13_4 : s4.2.1 13 4 = 30 := by rw [e4, m_set_2, l3_13_4]
  have l4_13_5 : s4.2.1 13 5 = 30 := by rw [e4, m_set_2, l3_13_5]
  have p4 : ∀ c j k, c ≠ 3 → c ≠ 5 → c ≠ 9 → c ≠ 19 → (c = 13 → j < 4) → m_get s4 c j k = m_get s0 c j k := fun c j k h1 h2 h3 h4 h5 => by rw [e4, m_get_ne _ _ (fun z => h1 z.1), p3 c j k h1 h2 h3 h4 h5]
  have q4 : ∀ c j, c ≠ 5 → c ≠ 9 → c ≠ 19 → (c = 13 → j < 4) → s4.2.1 c j = s0.2.1 c j := fun c j h2 h3 h4 h5 => by rw [e4, m_set_2, q3 c j h2 h3 h4 h5]
  have m4 : ∀ c, c ≠ 13 → c ≠ 5 → c ≠ 9 → c ≠ 19 → s4.1 c = s0.1 c := fun c h1 h2 h3 h4 => by rw [e4, m_set_1, m3 c h1 h2 h3 h4]
  obtain ⟨s5, e5⟩ : ∃ s, s = m_nu s4 19 2 := ⟨_, rfl⟩
  have n5_13 : s5.1 13 = 6 := by rw [e5, m_nu_cntO _ (by decide), n4_13]
  have n5_5 : s5.1 5 = 0 := by rw [e5, m_nu_cntO _ (by decide), n4_5]
  have n5_9 : s5.1 9 = 0 := by rw [e5, m_nu_cntO _ (by decide), n4_9]
  have n5_19 : s5.1 19 = 1 := by rw [e5, m_nu_cnt, n4_19]
  have f5_3_0_5 : m_get s5 3 0 5 = m_get s0 3 0 5 := by rw [e5, m_nu_old _ (fun z => by cases z.1), f4_3_0_5]
  have f5_3_0_0 : m_get s5 3 0 0 = rf 13 4 := by rw [e5, m_nu_old _ (fun z => by cases z.1), f4_3_0_0]
  have f5_3_0_1 : m_get s5 3 0 1 = rf 13 5 := by rw [e5, m_nu_old _ (fun z => by cases z.1), f4_3_0_1]
  have l5_13_4 : s5.2.1 13 4 = 30 := by rw [e5, m_nu_len _ (fun z => by cases z.1), l4_13_4]
  have l5_13_5 : s5.2.1 13 5 = 30 := by rw [e5, m_nu_len _ (fun z => by cases z.1), l4_13_5]
  have l5_19_0 : s5.2.1 19 0 = 2 := by rw [e5, ← n4_19, m_nu_lenN]
  have p5 : ∀ c j k, c ≠ 3 → c ≠ 5 → c ≠ 9 → c ≠ 19 → (c = 13 → j < 4) → m_get s5 c j k = m_get s0 c j k := fun c j k h1 h2 h3 h4 h5 => by rw [e5, m_nu_old _ (fun z => h4 z.1), p4 c j k h1 h2 h3 h4 h5]
  have q5 : ∀ c j, c ≠ 5 → c ≠ 9 → c ≠ 19 → (c = 13 → j < 4) → s5.2.1 c j = s0.2.1 c j := fun c j h2 h3 h4 h5 => by rw [e5, m_nu_len _ (fun z => h4 z.1), q4 c j h2 h3 h4 h5]
  have m5 : ∀ c, c ≠ 13 → c ≠ 5 → c ≠ 9 → c ≠ 19 → s5.1 c = s0.1 c := fun c h1 h2 h3 h4 => by rw [e5, m_nu_cntO _ h4, m4 c h1 h2 h3 h4]
  obtain ⟨s6, e6⟩ : ∃ s, s = m_set s5 3 0 2 (rf 19 0) := ⟨_, rfl⟩
  have n6_13 : s6.1 13 = 6 := by rw [e6, m_set_1, n5_13]
  have n6_5 : s6.1 5 = 0 := by rw [e6, m_set_1, n5_5]
  have n6_9 : s6.1 9 = 0 := by rw [e6, m_set_1, n5_9]
  have n6_19 : s6.1 19 = 1 := by rw [e6, m_set_1, n5_19]
  have f6_3_0_5 : m_get s6 3 0 5 = m_get s0 3 0 5 := (congrArg (fun s => m_get s 3 0 5) e6).trans ((m_get_ne _ _ (by decide)).trans f5_3_0_5)
  have f6_3_0_0 : m_get s6 3 0 0 = rf 13 4 := (congrArg (fun s => m_get s 3 0 0) e6).trans ((m_get_ne _ _ (by decide)).trans f5_3_0_0)
  have f6_3_0_1 : m_get s6 3 0 1 = rf 13 5 := (congrArg (fun s => m_get s 3 0 1) e6).trans ((m_get_ne _ _ (by decide)).trans f5_3_0_1)
  have f6_3_0_2 : m_get s6 3 0 2 = rf 19 0 := (congrArg (fun s => m_get s 3 0 2) e6).trans (m_get_eq _ rfl)
  have l6_13_4 : s6.2.1 13 4 = 30 := by rw [e6, m_set_2, l5_13_4]
  have l6_13_5 : s6.2.1 13 5 = 30 := by rw [e6, m_set_2, l5_13_5]
  have l6_19_0 : s6.2.1 19 0 = 2 := by rw [e6, m_set_2, l5_19_0]
  have p6 : ∀ c j k, c ≠ 3 → c ≠ 5 → c ≠ 9 → c ≠ 19 → (c = 13 → j < 4) → m_get s6 c j k = m_get s0 c j k := fun c j k h1 h2 h3 h4 h5 => by rw [e6, m_get_ne _ _ (fun z => h1 z.1), p5 c j k h1 h2 h3 h4 h5]
  have q6 : ∀ c j, c ≠ 5 → c ≠ 9 → c ≠ 19 → (c = 13 → j < 4) → s6.2.1 c j = s0.2.1 c j := fun c j h2 h3 h4 h5 => by rw [e6, m_set_2, q5 c j h2 h3 h4 h5]
  have m6 : ∀ c, c ≠ 13 → c ≠ 5 → c ≠ 9 → c ≠ 19 → s6.1 c = s0.1 c := fun c h1 h2 h3 h4 => by rw [e6, m_set_1, m5 c h1 h2 h3 h4]
  obtain ⟨s7, e7⟩ : ∃ s, s = m_nu s6 5 0 := ⟨_, rfl⟩
  have n7_13 : s7.1 13 = 6 := by rw [e7, m_nu_cntO _ (by decide), n6_13]
  have n7_5 : s7.1 5 = 1 := by rw [e7, m_nu_cnt, n6_5]
  have n7_9 : s7.1 9 = 0 := by rw [e7, m_nu_cntO _ (by decide), n6_9]
  have n7_19 : s7.1 19 = 1 := by rw [e7, m_nu_cntO _ (by decide), n6_19]
  have f7_3_0_5 : m_get s7 3 0 5 = m_get s0 3 0 5 := by rw [e7, m_nu_old _ (fun z => by cases z.1), f6_3_0_5]
  have f7_3_0_0 : m_get s7 3 0 0 = rf 13 4 := by rw [e7, m_nu_old _ (fun z => by cases z.1), f6_3_0_0]
  have f7_3_0_1 : m_get s7 3 0 1 = rf 13 5 := by rw [e7, m_nu_old _ (fun z => by cases z.1), f6_3_0_1]
  have f7_3_0_2 : m_get s7 3 0 2 = rf 19 0 := by rw [e7, m_nu_old _ (fun z => by cases z.1), f6_3_0_2]
  have l7_13_4 : s7.2.1 13 4 = 30 := by rw [e7, m_nu_len _ (fun z => by cases z.1), l6_13_4]
  have l7_13_5 : s7.2.1 13 5 = 30 := by rw [e7, m_nu_len _ (fun z => by cases z.1), l6_13_5]
  have l7_19_0 : s7.2.1 19 0 = 2 := by rw [e7, m_nu_len _ (fun z => by cases z.1), l6_19_0]
  have f7_5_0_2 : m_get s7 5 0 2 = .inl 0 := by have q := m_nu_new s6 (c := 5) (n := 0) (k := 2); rw [n6_5] at q; rw [e7]; exact q
  have p7 : ∀ c j k, c ≠ 3 → c ≠ 5 → c ≠ 9 → c ≠ 19 → (c = 13 → j < 4) → m_get s7 c j k = m_get s0 c j k := fun c j k h1 h2 h3 h4 h5 => by rw [e7, m_nu_old _ (fun z => h2 z.1), p6 c j k h1 h2 h3 h4 h5]
  have q7 : ∀ c j, c ≠ 5 → c ≠ 9 → c ≠ 19 → (c = 13 → j < 4) → s7.2.1 c j = s0.2.1 c j := fun c j h2 h3 h4 h5 => by rw [e7, m_nu_len _ (fun z => h2 z.1), q6 c j h2 h3 h4 h5]
  have m7 : ∀ c, c ≠ 13 → c ≠ 5 → c ≠ 9 → c ≠ 19 → s7.1 c = s0.1 c := fun c h1 h2 h3 h4 => by rw [e7, m_nu_cntO _ h2, m6 c h1 h2 h3 h4]
  obtain ⟨s8, r8, ⟨c13, cO⟩, ⟨g0, g1⟩, ⟨l0, l1⟩, pr, pl⟩ := er_77 (σ := s7) (a := 0)
  rw [n7_13] at c13 g0 g1 l0 l1 pr pl
  have n8_13 : s8.1 13 = 8 := c13
  have n8_5 : s8.1 5 = 1 := (cO 5 (by decide)).trans n7_5
  have n8_9 : s8.1 9 = 0 := (cO 9 (by decide)).trans n7_9
  have n8_19 : s8.1 19 = 1 := (cO 19 (by decide)).trans n7_19
  have f8_3_0_5 : m_get s8 3 0 5 = m_get s0 3 0 5 := (pr 3 0 5 (by decide) (by decide)).trans f7_3_0_5
  have f8_3_0_0 : m_get s8 3 0 0 = rf 13 4 := (pr 3 0 0 (by decide) (by decide)).trans f7_3_0_0
  have f8_3_0_1 : m_get s8 3 0 1 = rf 13 5 := (pr 3 0 1 (by decide) (by decide)).trans f7_3_0_1
  have f8_3_0_2 : m_get s8 3 0 2 = rf 19 0 := (pr 3 0 2 (by decide) (by decide)).trans f7_3_0_2
  have f8_5_0_2 : m_get s8 5 0 2 = .inl 0 := (pr 5 0 2 (by decide) (by decide)).trans f7_5_0_2
  have f8_5_0_0 : m_get s8 5 0 0 = rf 13 6 := g0
  have f8_5_0_1 : m_get s8 5 0 1 = rf 13 7 := g1
  have l8_13_4 : s8.2.1 13 4 = 30 := (pl 13 4 (by decide)).trans l7_13_4
  have l8_13_5 : s8.2.1 13 5 = 30 := (pl 13 5 (by decide)).trans l7_13_5
  have l8_19_0 : s8.2.1 19 0 = 2 := (pl 19 0 (by decide)).trans l7_19_0
  have l8_13_6 : s8.2.1 13 6 = 480 := l0
  have l8_13_7 : s8.2.1 13 7 = 480 := l1
  have p8 : ∀ c j k, c ≠ 3 → c ≠ 5 → c ≠ 9 → c ≠ 19 → (c = 13 → j < 4) → m_get s8 c j k = m_get s0 c j k := fun c j k h1 h2 h3 h4 h5 => (pr c j k (fun z => by have := h5 z; omega) (fun z => h2 z.1)).trans (p7 c j k h1 h2 h3 h4 h5)
  have q8 : ∀ c j, c ≠ 5 → c ≠ 9 → c ≠ 19 → (c = 13 → j < 4) → s8.2.1 c j = s0.2.1 c j := fun c j h2 h3 h4 h5 => (pl c j (fun z => by have := h5 z; omega)).trans (q7 c j h2 h3 h4 h5)
  have m8 : ∀ c, c ≠ 13 → c ≠ 5 → c ≠ 9 → c ≠ 19 → s8.1 c = s0.1 c := fun c h1 h2 h3 h4 => (cO c h1).trans (m7 c h1 h2 h3 h4)
  clear c13 cO g0 g1 l0 l1 pr pl
  obtain ⟨s9, e9⟩ : ∃ s, s = m_set s8 3 0 3 (rf 5 0) := ⟨_, rfl⟩
  have n9_13 : s9.1 13 = 8 := by rw [e9, m_set_1, n8_13]
  have n9_5 : s9.1 5 = 1 := by rw [e9, m_set_1, n8_5]
  have n9_9 : s9.1 9 = 0 := by rw [e9, m_set_1, n8_9]
  have n9_19 : s9.1 19 = 1 := by rw [e9, m_set_1, n8_19]
  have f9_3_0_5 : m_get s9 3 0 5 = m_get s0 3 0 5 := (congrArg (fun s => m_get s 3 0 5) e9).trans ((m_get_ne _ _ (by decide)).trans f8_3_0_5)
  have f9_3_0_0 : m_get s9 3 0 0 = rf 13 4 := (congrArg (fun s => m_get s 3 0 0) e9).trans ((m_get_ne _ _ (by decide)).trans f8_3_0_0)
  have f9_3_0_1 : m_get s9 3 0 1 = rf 13 5 := (congrArg (fun s => m_get s 3 0 1) e9).trans ((m_get_ne _ _ (by decide)).trans f8_3_0_1)
  have f9_3_0_2 : m_get s9 3 0 2 = rf 19 0 := (congrArg (fun s => m_get s 3 0 2) e9).trans ((m_get_ne _ _ (by decide)).trans f8_3_0_2)
  have f9_5_0_2 : m_get s9 5 0 2 = .inl 0 := (congrArg (fun s => m_get s 5 0 2) e9).trans ((m_get_ne _ _ (by decide)).trans f8_5_0_2)
  have f9_5_0_0 : m_get s9 5 0 0 = rf 13 6 := (congrArg (fun s => m_get s 5 0 0) e9).trans ((m_get_ne _ _ (by decide)).trans f8_5_0_0)
  have f9_5_0_1 : m_get s9 5 0 1 = rf 13 7 := (congrArg (fun s => m_get s 5 0 1) e9).trans ((m_get_ne _ _ (by decide)).trans f8_5_0_1)
  have f9_3_0_3 : m_get s9 3 0 3 = rf 5 0 := (congrArg (fun s => m_get s 3 0 3) e9).trans (m_get_eq _ rfl)
  have l9_13_4 : s9.2.1 13 4 = 30 := by rw [e9, m_set_2, l8_13_4]
  have l9_13_5 : s9.2.1 13 5 = 30 := by rw [e9, m_set_2, l8_13_5]
  have l9_19_0 : s9.2.1 19 0 = 2 := by rw [e9, m_set_2, l8_19_0]
  have l9_13_6 : s9.2.1 13 6 = 480 := by rw [e9, m_set_2, l8_13_6]
  have l9_13_7 : s9.2.1 13 7 = 480 := by rw [e9, m_set_2, l8_13_7]
  have p9 : ∀ c j k, c ≠ 3 → c ≠ 5 → c ≠ 9 → c ≠ 19 → (c = 13 → j < 4) → m_get s9 c j k = m_get s0 c j k := fun c j k h1 h2 h3 h4 h5 => by rw [e9, m_get_ne _ _ (fun z => h1 z.1), p8 c j k h1 h2 h3 h4 h5]
  have q9 : ∀ c j, c ≠ 5 → c ≠ 9 → c ≠ 19 → (c = 13 → j < 4) → s9.2.1 c j = s0.2.1 c j := fun c j h2 h3 h4 h5 => by rw [e9, m_set_2, q8 c j h2 h3 h4 h5]
  have m9 : ∀ c, c ≠ 13 → c ≠ 5 → c ≠ 9 → c ≠ 19 → s9.1 c = s0.1 c := fun c h1 h2 h3 h4 => by rw [e9, m_set_1, m8 c h1 h2 h3 h4]
  obtain ⟨s10, e10⟩ : ∃ s, s = m_nu s9 5 0 := ⟨_, rfl⟩
  have n10_13 : s10.1 13 = 8 := by rw [e10, m_nu_cntO _ (by decide), n9_13]
  have n10_5 : s10.1 5 = 2 := by rw [e10, m_nu_cnt, n9_5]
  have n10_9 : s10.1 9 = 0 := by rw [e10, m_nu_cntO _ (by decide), n9_9]
  have n10_19 : s10.1 19 = 1 := by rw [e10, m_nu_cntO _ (by decide), n9_19]
  have f10_3_0_5 : m_get s10 3 0 5 = m_get s0 3 0 5 := by rw [e10, m_nu_old _ (fun z => by cases z.1), f9_3_0_5]
  have f10_3_0_0 : m_get s10 3 0 0 = rf 13 4 := by rw [e10, m_nu_old _ (fun z => by cases z.1), f9_3_0_0]
  have f10_3_0_1 : m_get s10 3 0 1 = rf 13 5 := by rw [e10, m_nu_old _ (fun z => by cases z.1), f9_3_0_1]
  have f10_3_0_2 : m_get s10 3 0 2 = rf 19 0 := by rw [e10, m_nu_old _ (fun z => by cases z.1), f9_3_0_2]
  have f10_5_0_2 : m_get s10 5 0 2 = .inl 0 := by rw [e10, m_nu_old _ (fun z => by have q := z.2; rw [n9_5] at q; omega), f9_5_0_2]
  have f10_5_0_0 : m_get s10 5 0 0 = rf 13 6 := by rw [e10, m_nu_old _ (fun z => by have q := z.2; rw [n9_5] at q; omega), f9_5_0_0]
  have f10_5_0_1 : m_get s10 5 0 1 = rf 13 7 := by rw [e10, m_nu_old _ (fun z => by have q := z.2; rw [n9_5] at q; omega), f9_5_0_1]
  have f10_3_0_3 : m_get s10 3 0 3 = rf 5 0 := by rw [e10, m_nu_old _ (fun z => by cases z.1), f9_3_0_3]
  have l10_13_4 : s10.2.1 13 4 = 30 := by rw [e10, m_nu_len _ (fun z => by cases z.1), l9_13_4]
  have l10_13_5 : s10.2.1 13 5 = 30 := by rw [e10, m_nu_len _ (fun z => by cases z.1), l9_13_5]
  have l10_19_0 : s10.2.1 19 0 = 2 := by rw [e10, m_nu_len _ (fun z => by cases z.1), l9_19_0]
  have l10_13_6 : s10.2.1 13 6 = 480 := by rw [e10, m_nu_len _ (fun z => by cases z.1), l9_13_6]
  have l10_13_7 : s10.2.1 13 7 = 480 := by rw [e10, m_nu_len _ (fun z => by cases z.1), l9_13_7]
  have f10_5_1_2 : m_get s10 5 1 2 = .inl 0 := by have q := m_nu_new s9 (c := 5) (n := 0) (k := 2); rw [n9_5] at q; rw [e10]; exact q
  have p10 : ∀ c j k, c ≠ 3 → c ≠ 5 → c ≠ 9 → c ≠ 19 → (c = 13 → j < 4) → m_get s10 c j k = m_get s0 c j k := fun c j k h1 h2 h3 h4 h5 => by rw [e10, m_nu_old _ (fun z => h2 z.1), p9 c j k h1 h2 h3 h4 h5]
  have q10 : ∀ c j, c ≠ 5 → c ≠ 9 → c ≠ 19 → (c = 13 → j < 4) → s10.2.1 c j = s0.2.1 c j := fun c j h2 h3 h4 h5 => by rw [e10, m_nu_len _ (fun z => h2 z.1), q9 c j h2 h3 h4 h5]
  have m10 : ∀ c, c ≠ 13 → c ≠ 5 → c ≠ 9 → c ≠ 19 → s10.1 c = s0.1 c := fun c h1 h2 h3 h4 => by rw [e10, m_nu_cntO _ h2, m9 c h1 h2 h3 h4]
  obtain ⟨s11, r11, ⟨c13, cO⟩, ⟨g0, g1⟩, ⟨l0, l1⟩, pr, pl⟩ := er_77 (σ := s10) (a := 1)
  rw [n10_13] at c13 g0 g1 l0 l1 pr pl
  have n11_13 : s11.1 13 = 10 := c13
  have n11_5 : s11.1 5 = 2 := (cO 5 (by decide)).trans n10_5
  have n11_9 : s11.1 9 = 0 := (cO 9 (by decide)).trans n10_9
  have n11_19 : s11.1 19 = 1 := (cO 19 (by decide)).trans n10_19
  have f11_3_0_5 : m_get s11 3 0 5 = m_get s0 3 0 5 := (pr 3 0 5 (by decide) (by decide)).trans f10_3_0_5
  have f11_3_0_0 : m_get s11 3 0 0 = rf 13 4 := (pr 3 0 0 (by decide) (by decide)).trans f10_3_0_0
  have f11_3_0_1 : m_get s11 3 0 1 = rf 13 5 := (pr 3 0 1 (by decide) (by decide)).trans f10_3_0_1
  have f11_3_0_2 : m_get s11 3 0 2 = rf 19 0 := (pr 3 0 2 (by decide) (by decide)).trans f10_3_0_2
  have f11_5_0_2 : m_get s11 5 0 2 = .inl 0 := (pr 5 0 2 (by decide) (by decide)).trans f10_5_0_2
  have f11_5_0_0 : m_get s11 5 0 0 = rf 13 6 := (pr 5 0 0 (by decide) (by decide)).trans f10_5_0_0
  have f11_5_0_1 : m_get s11 5 0 1 = rf 13 7 := (pr 5 0 1 (by decide) (by decide)).trans f10_5_0_1
  have f11_3_0_3 : m_get s11 3 0 3 = rf 5 0 := (pr 3 0 3 (by decide) (by decide)).trans f10_3_0_3
  have f11_5_1_2 : m_get s11 5 1 2 = .inl 0 := (pr 5 1 2 (by decide) (by decide)).trans f10_5_1_2
  have f11_5_1_0 : m_get s11 5 1 0 = rf 13 8 := g0
  have f11_5_1_1 : m_get s11 5 1 1 = rf 13 9 := g1
  have l11_13_4 : s11.2.1 13 4 = 30 := (pl 13 4 (by decide)).trans l10_13_4
  have l11_13_5 : s11.2.1 13 5 = 30 := (pl 13 5 (by decide)).trans l10_13_5
  have l11_19_0 : s11.2.1 19 0 = 2 := (pl 19 0 (by decide)).trans l10_19_0
  have l11_13_6 : s11.2.1 13 6 = 480 := (pl 13 6 (by decide)).trans l10_13_6
  have l11_13_7 : s11.2.1 13 7 = 480 := (pl 13 7 (by decide)).trans l10_13_7
  have l11_13_8 : s11.2.1 13 8 = 480 := l0
  have l11_13_9 : s11.2.1 13 9 = 480 := l1
  have p11 : ∀ c j k, c ≠ 3 → c ≠ 5 → c ≠ 9 → c ≠ 19 → (c = 13 → j < 4) → m_get s11 c j k = m_get s0 c j k := fun c j k h1 h2 h3 h4 h5 => (pr c j k (fun z => by have := h5 z; omega) (fun z => h2 z.1)).trans (p10 c j k h1 h2 h3 h4 h5)
  have q11 : ∀ c j, c ≠ 5 → c ≠ 9 → c ≠ 19 → (c = 13 → j < 4) → s11.2.1 c j = s0.2.1 c j := fun c j h2 h3 h4 h5 => (pl c j (fun z => by have := h5 z; omega)).trans (q10 c j h2 h3 h4 h5)
  have m11 : ∀ c, c ≠ 13 → c ≠ 5 → c ≠ 9 → c ≠ 19 → s11.1 c = s0.1 c := fun c h1 h2 h3 h4 => (cO c h1).trans (m10 c h1 h2 h3 h4)
  clear c13 cO g0 g1 l0 l1 pr pl
  obtain ⟨s12, e12⟩ : ∃ s, s = m_set s11 3 0 4 (rf 5 1) := ⟨_, rfl⟩
  have n12_13 : s12.1 13 = 10 := by rw [e12, m_set_1, n11_13]
  have n12_5 : s12.1 5 = 2 := by rw [e12, m_set_1, n11_5]
  have n12_9 : s12.1 9 = 0 := by rw [e12, m_set_1, n11_9]
  have n12_19 : s12.1 19 = 1 := by rw [e12, m_set_1, n11_19]
  have f12_3_0_5 : m_get s12 3 0 5 = m_get s0 3 0 5 := (congrArg (fun s => m_get s 3 0 5) e12).trans ((m_get_ne _ _ (by decide)).trans f11_3_0_5)
  have f12_3_0_0 : m_get s12 3 0 0 = rf 13 4 := (congrArg (fun s => m_get s 3 0 0) e12).trans ((m_get_ne _ _ (by decide)).trans f11_3_0_0)
  have f12_3_0_1 : m_get s12 3 0 1 = rf 13 5 := (congrArg (fun s => m_get s 3 0 1) e12).trans ((m_get_ne _ _ (by decide)).trans f11_3_0_1)
  have f12_3_0_2 : m_get s12 3 0 2 = rf 19 0 := (congrArg (fun s => m_get s 3 0 2) e12).trans ((m_get_ne _ _ (by decide)).trans f11_3_0_2)
  have f12_5_0_2 : m_get s12 5 0 2 = .inl 0 := (congrArg (fun s => m_get s 5 0 2) e12).trans ((m_get_ne _ _ (by decide)).trans f11_5_0_2)
  have f12_5_0_0 : m_get s12 5 0 0 = rf 13 6 := (congrArg (fun s => m_get s 5 0 0) e12).trans ((m_get_ne _ _ (by decide)).trans f11_5_0_0)
  have f12_5_0_1 : m_get s12 5 0 1 = rf 13 7 := (congrArg (fun s => m_get s 5 0 1) e12).trans ((m_get_ne _ _ (by decide)).trans f11_5_0_1)
  have f12_3_0_3 : m_get s12 3 0 3 = rf 5 0 := (congrArg (fun s => m_get s 3 0 3) e12).trans ((m_get_ne _ _ (by decide)).trans f11_3_0_3)
  have f12_5_1_2 : m_get s12 5 1 2 = .inl 0 := (congrArg (fun s => m_get s 5 1 2) e12).trans ((m_get_ne _ _ (by decide)).trans f11_5_1_2)
  have f12_5_1_0 : m_get s12 5 1 0 = rf 13 8 := (congrArg (fun s => m_get s 5 1 0) e12).trans ((m_get_ne _ _ (by decide)).trans f11_5_1_0)
  have f12_5_1_1 : m_get s12 5 1 1 = rf 13 9 := (congrArg (fun s => m_get s 5 1 1) e12).trans ((m_get_ne _ _ (by decide)).trans f11_5_1_1)
  have f12_3_0_4 : m_get s12 3 0 4 = rf 5 1 := (congrArg (fun s => m_get s 3 0 4) e12).trans (m_get_eq _ rfl)
  have l12_13_4 : s12.2.1 13 4 = 30 := by rw [e12, m_set_2, l11_13_4]
  have l12_13_5 : s12.2.1 13 5 = 30 := by rw [e12, m_set_2, l11_13_5]
  have l12_19_0 : s12.2.1 19 0 = 2 := by rw [e12, m_set_2, l11_19_0]
  have l12_13_6 : s12.2.1 13 6 = 480 := by rw [e12, m_set_2, l11_13_6]
  have l12_13_7 : s12.2.1 13 7 = 480 := by rw [e12, m_set_2, l11_13_7]
  have l12_13_8 : s12.2.1 13 8 = 480 := by rw [e12, m_set_2, l11_13_8]
  have l12_13_9 : s12.2.1 13 9 = 480 := by rw [e12, m_set_2, l11_13_9]
  have p12 : ∀ c j k, c ≠ 3 → c ≠ 5 → c ≠ 9 → c ≠ 19 → (c = 13 → j < 4) → m_get s12 c j k = m_get s0 c j k := fun c j k h1 h2 h3 h4 h5 => by rw [e12, m_get_ne _ _ (fun z => h1 z.1), p11 c j k h1 h2 h3 h4 h5]
  have q12 : ∀ c j, c ≠ 5 → c ≠ 9 → c ≠ 19 → (c = 13 → j < 4) → s12.2.1 c j = s0.2.1 c j := fun c j h2 h3 h4 h5 => by rw [e12, m_set_2, q11 c j h2 h3 h4 h5]
  have m12 : ∀ c, c ≠ 13 → c ≠ 5 → c ≠ 9 → c ≠ 19 → s12.1 c = s0.1 c := fun c h1 h2 h3 h4 => by rw [e12, m_set_1, m11 c h1 h2 h3 h4]
  obtain ⟨s13, e13⟩ : ∃ s, s = m_nu s12 9 0 := ⟨_, rfl⟩
  have n13_13 : s13.1 13 = 10 := by rw [e13, m_nu_cntO _ (by decide), n12_13]
  have n13_5 : s13.1 5 = 2 := by rw [e13, m_nu_cntO _ (by decide), n12_5]
  have n13_9 : s13.1 9 = 1 := by rw [e13, m_nu_cnt, n12_9]
  have n13_19 : s13.1 19 = 1 := by rw [e13, m_nu_cntO _ (by decide), n12_19]
  have f13_3_0_5 : m_get s13 3 0 5 = m_get s0 3 0 5 := by rw [e13, m_nu_old _ (fun z => by cases z.1), f12_3_0_5]
  have f13_3_0_0 : m_get s13 3 0 0 = rf 13 4 := by rw [e13, m_nu_old _ (fun z => by cases z.1), f12_3_0_0]
  have f13_3_0_1 : m_get s13 3 0 1 = rf 13 5 := by rw [e13, m_nu_old _ (fun z => by cases z.1), f12_3_0_1]
  have f13_3_0_2 : m_get s13 3 0 2 = rf 19 0 := by rw [e13, m_nu_old _ (fun z => by cases z.1), f12_3_0_2]
  have f13_5_0_2 : m_get s13 5 0 2 = .inl 0 := by rw [e13, m_nu_old _ (fun z => by cases z.1), f12_5_0_2]
  have f13_5_0_0 : m_get s13 5 0 0 = rf 13 6 := by rw [e13, m_nu_old _ (fun z => by cases z.1), f12_5_0_0]
  have f13_5_0_1 : m_get s13 5 0 1 = rf 13 7 := by rw [e13, m_nu_old _ (fun z => by cases z.1), f12_5_0_1]
  have f13_3_0_3 : m_get s13 3 0 3 = rf 5 0 := by rw [e13, m_nu_old _ (fun z => by cases z.1), f12_3_0_3]
  have f13_5_1_2 : m_get s13 5 1 2 = .inl 0 := by rw [e13, m_nu_old _ (fun z => by cases z.1), f12_5_1_2]
  have f13_5_1_0 : m_get s13 5 1 0 = rf 13 8 := by rw [e13, m_nu_old _ (fun z => by cases z.1), f12_5_1_0]
  have f13_5_1_1 : m_get s13 5 1 1 = rf 13 9 := by rw [e13, m_nu_old _ (fun z => by cases z.1), f12_5_1_1]
  have f13_3_0_4 : m_get s13 3 0 4 = rf 5 1 := by rw [e13, m_nu_old _ (fun z => by cases z.1), f12_3_0_4]
  have l13_13_4 : s13.2.1 13 4 = 30 := by rw [e13, m_nu_len _ (fun z => by cases z.1), l12_13_4]
  have l13_13_5 : s13.2.1 13 5 = 30 := by rw [e13, m_nu_len _ (fun z => by cases z.1), l12_13_5]
  have l13_19_0 : s13.2.1 19 0 = 2 := by rw [e13, m_nu_len _ (fun z => by cases z.1), l12_19_0]
  have l13_13_6 : s13.2.1 13 6 = 480 := by rw [e13, m_nu_len _ (fun z => by cases z.1), l12_13_6]
  have l13_13_7 : s13.2.1 13 7 = 480 := by rw [e13, m_nu_len _ (fun z => by cases z.1), l12_13_7]
  have l13_13_8 : s13.2.1 13 8 = 480 := by rw [e13, m_nu_len _ (fun z => by cases z.1), l12_13_8]
  have l13_13_9 : s13.2.1 13 9 = 480 := by rw [e13, m_nu_len _ (fun z => by cases z.1), l12_13_9]
  have f13_9_0_1 : m_get s13 9 0 1 = .inl 0 := by have q := m_nu_new s12 (c := 9) (n := 0) (k := 1); rw [n12_9] at q; rw [e13]; exact q
  have p13 : ∀ c j k, c ≠ 3 → c ≠ 5 → c ≠ 9 → c ≠ 19 → (c = 13 → j < 4) → m_get s13 c j k = m_get s0 c j k := fun c j k h1 h2 h3 h4 h5 => by rw [e13, m_nu_old _ (fun z => h3 z.1), p12 c j k h1 h2 h3 h4 h5]
  have q13 : ∀ c j, c ≠ 5 → c ≠ 9 → c ≠ 19 → (c = 13 → j < 4) → s13.2.1 c j = s0.2.1 c j := fun c j h2 h3 h4 h5 => by rw [e13, m_nu_len _ (fun z => h3 z.1), q12 c j h2 h3 h4 h5]
  have m13 : ∀ c, c ≠ 13 → c ≠ 5 → c ≠ 9 → c ≠ 19 → s13.1 c = s0.1 c := fun c h1 h2 h3 h4 => by rw [e13, m_nu_cntO _ h3, m12 c h1 h2 h3 h4]
  obtain ⟨s14, r14, ⟨c13, c5, cO⟩, ⟨g9, g0, g1, g2⟩, ⟨l0, l1⟩, pr, pl⟩ := er_119 (σ := s13) (a := 0)
  rw [n13_13] at c13 g0 g1 l0 l1 pr pl
  rw [n13_5] at c5 g9 g0 g1 g2 pr
  have n14_13 : s14.1 13 = 12 := c13
  have n14_5 : s14.1 5 = 3 := c5
  have n14_9 : s14.1 9 = 1 := (cO 9 (by decide) (by decide)).trans n13_9
  have n14_19 : s14.1 19 = 1 := (cO 19 (by decide) (by decide)).trans n13_19
  have f14_3_0_5 : m_get s14 3 0 5 = m_get s0 3 0 5 := (pr 3 0 5 (by decide) (by decide) (by decide)).trans f13_3_0_5
  have f14_3_0_0 : m_get s14 3 0 0 = rf 13 4 := (pr 3 0 0 (by decide) (by decide) (by decide)).trans f13_3_0_0
  have f14_3_0_1 : m_get s14 3 0 1 = rf 13 5 := (pr 3 0 1 (by decide) (by decide) (by decide)).trans f13_3_0_1
  have f14_3_0_2 : m_get s14 3 0 2 = rf 19 0 := (pr 3 0 2 (by decide) (by decide) (by decide)).trans f13_3_0_2
  have f14_5_0_2 : m_get s14 5 0 2 = .inl 0 := (pr 5 0 2 (by decide) (by decide) (by decide)).trans f13_5_0_2
  have f14_5_0_0 : m_get s14 5 0 0 = rf 13 6 := (pr 5 0 0 (by decide) (by decide) (by decide)).trans f13_5_0_0
  have f14_5_0_1 : m_get s14 5 0 1 = rf 13 7 := (pr 5 0 1 (by decide) (by decide) (by decide)).trans f13_5_0_1
  have f14_3_0_3 : m_get s14 3 0 3 = rf 5 0 := (pr 3 0 3 (by decide) (by decide) (by decide)).trans f13_3_0_3
  have f14_5_1_2 : m_get s14 5 1 2 = .inl 0 := (pr 5 1 2 (by decide) (by decide) (by decide)).trans f13_5_1_2
  have f14_5_1_0 : m_get s14 5 1 0 = rf 13 8 := (pr 5 1 0 (by decide) (by decide) (by decide)).trans f13_5_1_0
  have f14_5_1_1 : m_get s14 5 1 1 = rf 13 9 := (pr 5 1 1 (by decide) (by decide) (by decide)).trans f13_5_1_1
  have f14_3_0_4 : m_get s14 3 0 4 = rf 5 1 := (pr 3 0 4 (by decide) (by decide) (by decide)).trans f13_3_0_4
  have f14_9_0_1 : m_get s14 9 0 1 = .inl 0 := (pr 9 0 1 (by decide) (by decide) (by decide)).trans f13_9_0_1
  have f14_9_0_0 : m_get s14 9 0 0 = rf 5 2 := g9
  have f14_5_2_0 : m_get s14 5 2 0 = rf 13 10 := g0
  have f14_5_2_1 : m_get s14 5 2 1 = rf 13 11 := g1
  have f14_5_2_2 : m_get s14 5 2 2 = .inl 0 := g2
  have l14_13_4 : s14.2.1 13 4 = 30 := (pl 13 4 (by decide) (by decide)).trans l13_13_4
  have l14_13_5 : s14.2.1 13 5 = 30 := (pl 13 5 (by decide) (by decide)).trans l13_13_5
  have l14_19_0 : s14.2.1 19 0 = 2 := (pl 19 0 (by decide) (by decide)).trans l13_19_0
  have l14_13_6 : s14.2.1 13 6 = 480 := (pl 13 6 (by decide) (by decide)).trans l13_13_6
  have l14_13_7 : s14.2.1 13 7 = 480 := (pl 13 7 (by decide) (by decide)).trans l13_13_7
  have l14_13_8 : s14.2.1 13 8 = 480 := (pl 13 8 (by decide) (by decide)).trans l13_13_8
  have l14_13_9 : s14.2.1 13 9 = 480 := (pl 13 9 (by decide) (by decide)).trans l13_13_9
  have l14_13_10 : s14.2.1 13 10 = 480 := l0
  have l14_13_11 : s14.2.1 13 11 = 480 := l1
  have p14 : ∀ c j k, c ≠ 3 → c ≠ 5 → c ≠ 9 → c ≠ 19 → (c = 13 → j < 4) → m_get s14 c j k = m_get s0 c j k := fun c j k h1 h2 h3 h4 h5 => (pr c j k (fun z => by have := h5 z; omega) (fun z => absurd z h2) (fun z => h3 z.1)).trans (p13 c j k h1 h2 h3 h4 h5)
  have q14 : ∀ c j, c ≠ 5 → c ≠ 9 → c ≠ 19 → (c = 13 → j < 4) → s14.2.1 c j = s0.2.1 c j := fun c j h2 h3 h4 h5 => (pl c j h2 (fun z => by have := h5 z; omega)).trans (q13 c j h2 h3 h4 h5)
  have m14 : ∀ c, c ≠ 13 → c ≠ 5 → c ≠ 9 → c ≠ 19 → s14.1 c = s0.1 c := fun c h1 h2 h3 h4 => (cO c h1 h2).trans (m13 c h1 h2 h3 h4)
  clear c13 c5 cO g9 g0 g1 g2 l0 l1 pr pl
  obtain ⟨s15, e15⟩ : ∃ s, s = m_set s14 19 0 0 (rf 9 0) := ⟨_, rfl⟩
  have n15_13 : s15.1 13 = 12 := by rw [e15, m_set_1, n14_13]
  have n15_5 : s15.1 5 = 3 := by rw [e15, m_set_1, n14_5]
  have n15_9 : s15.1 9 = 1 := by rw [e15, m_set_1, n14_9]
  have n15_19 : s15.1 19 = 1 := by rw [e15, m_set_1, n14_19]
  have f15_3_0_5 : m_get s15 3 0 5 = m_get s0 3 0 5 := (congrArg (fun s => m_get s 3 0 5) e15).trans ((m_get_ne _ _ (by decide)).trans f14_3_0_5)
  have f15_3_0_0 : m_get s15 3 0 0 = rf 13 4 := (congrArg (fun s => m_get s 3 0 0) e15).trans ((m_get_ne _ _ (by decide)).trans f14_3_0_0)
  have f15_3_0_1 : m_get s15 3 0 1 = rf 13 5 := (congrArg (fun s => m_get s 3 0 1) e15).trans ((m_get_ne _ _ (by decide)).trans f14_3_0_1)
  have f15_3_0_2 : m_get s15 3 0 2 = rf 19 0 := (congrArg (fun s => m_get s 3 0 2) e15).trans ((m_get_ne _ _ (by decide)).trans f14_3_0_2)
  have f15_5_0_2 : m_get s15 5 0 2 = .inl 0 := (congrArg (fun s => m_get s 5 0 2) e15).trans ((m_get_ne _ _ (by decide)).trans f14_5_0_2)
  have f15_5_0_0 : m_get s15 5 0 0 = rf 13 6 := (congrArg (fun s => m_get s 5 0 0) e15).trans ((m_get_ne _ _ (by decide)).trans f14_5_0_0)
  have f15_5_0_1 : m_get s15 5 0 1 = rf 13 7 := (congrArg (fun s => m_get s 5 0 1) e15).trans ((m_get_ne _ _ (by decide)).trans f14_5_0_1)
  have f15_3_0_3 : m_get s15 3 0 3 = rf 5 0 := (congrArg (fun s => m_get s 3 0 3) e15).trans ((m_get_ne _ _ (by decide)).trans f14_3_0_3)
  have f15_5_1_2 : m_get s15 5 1 2 = .inl 0 := (congrArg (fun s => m_get s 5 1 2) e15).trans ((m_get_ne _ _ (by decide)).trans f14_5_1_2)
  have f15_5_1_0 : m_get s15 5 1 0 = rf 13 8 := (congrArg (fun s => m_get s 5 1 0) e15).trans ((m_get_ne _ _ (by decide)).trans f14_5_1_0)
  have f15_5_1_1 : m_get s15 5 1 1 = rf 13 9 := (congrArg (fun s => m_get s 5 1 1) e15).trans ((m_get_ne _ _ (by decide)).trans f14_5_1_1)
  have f15_3_0_4 : m_get s15 3 0 4 = rf 5 1 := (congrArg (fun s => m_get s 3 0 4) e15).trans ((m_get_ne _ _ (by decide)).trans f14_3_0_4)
  have f15_9_0_1 : m_get s15 9 0 1 = .inl 0 := (congrArg (fun s => m_get s 9 0 1) e15).trans ((m_get_ne _ _ (by decide)).trans f14_9_0_1)
  have f15_9_0_0 : m_get s15 9 0 0 = rf 5 2 := (congrArg (fun s => m_get s 9 0 0) e15).trans ((m_get_ne _ _ (by decide)).trans f14_9_0_0)
  have f15_5_2_0 : m_get s15 5 2 0 = rf 13 10 := (congrArg (fun s => m_get s 5 2 0) e15).trans ((m_get_ne _ _ (by decide)).trans f14_5_2_0)
  have f15_5_2_1 : m_get s15 5 2 1 = rf 13 11 := (congrArg (fun s => m_get s 5 2 1) e15).trans ((m_get_ne _ _ (by decide)).trans f14_5_2_1)
  have f15_5_2_2 : m_get s15 5 2 2 = .inl 0 := (congrArg (fun s => m_get s 5 2 2) e15).trans ((m_get_ne _ _ (by decide)).trans f14_5_2_2)
  have f15_19_0_0 : m_get s15 19 0 0 = rf 9 0 := (congrArg (fun s => m_get s 19 0 0) e15).trans (m_get_eq _ rfl)
  have l15_13_4 : s15.2.1 13 4 = 30 := by rw [e15, m_set_2, l14_13_4]
  have l15_13_5 : s15.2.1 13 5 = 30 := by rw [e15, m_set_2, l14_13_5]
  have l15_19_0 : s15.2.1 19 0 = 2 := by rw [e15, m_set_2, l14_19_0]
  have l15_13_6 : s15.2.1 13 6 = 480 := by rw [e15, m_set_2, l14_13_6]
  have l15_13_7 : s15.2.1 13 7 = 480 := by rw [e15, m_set_2, l14_13_7]
  have l15_13_8 : s15.2.1 13 8 = 480 := by rw [e15, m_set_2, l14_13_8]
  have l15_13_9 : s15.2.1 13 9 = 480 := by rw [e15, m_set_2, l14_13_9]
  have l15_13_10 : s15.2.1 13 10 = 480 := by rw [e15, m_set_2, l14_13_10]
  have l15_13_11 : s15.2.1 13 11 = 480 := by rw [e15, m_set_2, l14_13_11]
  have p15 : ∀ c j k, c ≠ 3 → c ≠ 5 → c ≠ 9 → c ≠ 19 → (c = 13 → j < 4) → m_get s15 c j k = m_get s0 c j k := fun c j k h1 h2 h3 h4 h5 => by rw [e15, m_get_ne _ _ (fun z => h4 z.1), p14 c j k h1 h2 h3 h4 h5]
  have q15 : ∀ c j, c ≠ 5 → c ≠ 9 → c ≠ 19 → (c = 13 → j < 4) → s15.2.1 c j = s0.2.1 c j := fun c j h2 h3 h4 h5 => by rw [e15, m_set_2, q14 c j h2 h3 h4 h5]
  have m15 : ∀ c, c ≠ 13 → c ≠ 5 → c ≠ 9 → c ≠ 19 → s15.1 c = s0.1 c := fun c h1 h2 h3 h4 => by rw [e15, m_set_1, m14 c h1 h2 h3 h4]
  obtain ⟨s16, e16⟩ : ∃ s, s = m_nu s15 9 0 := ⟨_, rfl⟩
  have n16_13 : s16.1 13 = 12 := by rw [e16, m_nu_cntO _ (by decide), n15_13]
  have n16_5 : s16.1 5 = 3 := by rw [e16, m_nu_cntO _ (by decide), n15_5]
  have n16_9 : s16.1 9 = 2 := by rw [e16, m_nu_cnt, n15_9]
  have n16_19 : s16.1 19 = 1 := by rw [e16, m_nu_cntO _ (by decide), n15_19]
  have f16_3_0_5 : m_get s16 3 0 5 = m_get s0 3 0 5 := by rw [e16, m_nu_old _ (fun z => by cases z.1), f15_3_0_5]
  have f16_3_0_0 : m_get s16 3 0 0 = rf 13 4 := by rw [e16, m_nu_old _ (fun z => by cases z.1), f15_3_0_0]
  have f16_3_0_1 : m_get s16 3 0 1 = rf 13 5 := by rw [e16, m_nu_old _ (fun z => by cases z.1), f15_3_0_1]
  have f16_3_0_2 : m_get s16 3 0 2 = rf 19 0 := by rw [e16, m_nu_old _ (fun z => by cases z.1), f15_3_0_2]
  have f16_5_0_2 : m_get s16 5 0 2 = .inl 0 := by rw [e16, m_nu_old _ (fun z => by cases z.1), f15_5_0_2]
  have f16_5_0_0 : m_get s16 5 0 0 = rf 13 6 := by rw [e16, m_nu_old _ (fun z => by cases z.1), f15_5_0_0]
  have f16_5_0_1 : m_get s16 5 0 1 = rf 13 7 := by rw [e16, m_nu_old _ (fun z => by cases z.1), f15_5_0_1]
  have f16_3_0_3 : m_get s16 3 0 3 = rf 5 0 := by rw [e16, m_nu_old _ (fun z => by cases z.1), f15_3_0_3]
  have f16_5_1_2 : m_get s16 5 1 2 = .inl 0 := by rw [e16, m_nu_old _ (fun z => by cases z.1), f15_5_1_2]
  have f16_5_1_0 : m_get s16 5 1 0 = rf 13 8 := by rw [e16, m_nu_old _ (fun z => by cases z.1), f15_5_1_0]
  have f16_5_1_1 : m_get s16 5 1 1 = rf 13 9 := by rw [e16, m_nu_old _ (fun z => by cases z.1), f15_5_1_1]
  have f16_3_0_4 : m_get s16 3 0 4 = rf 5 1 := by rw [e16, m_nu_old _ (fun z => by cases z.1), f15_3_0_4]
  have f16_9_0_1 : m_get s16 9 0 1 = .inl 0 := by rw [e16, m_nu_old _ (fun z => by have q := z.2; rw [n15_9] at q; omega), f15_9_0_1]
  have f16_9_0_0 : m_get s16 9 0 0 = rf 5 2 := by rw [e16, m_nu_old _ (fun z => by have q := z.2; rw [n15_9] at q; omega), f15_9_0_0]
  have f16_5_2_0 : m_get s16 5 2 0 = rf 13 10 := by rw [e16, m_nu_old _ (fun z => by cases z.1), f15_5_2_0]
  have f16_5_2_1 : m_get s16 5 2 1 = rf 13 11 := by rw [e16, m_nu_old _ (fun z => by cases z.1), f15_5_2_1]
  have f16_5_2_2 : m_get s16 5 2 2 = .inl 0 := by rw [e16, m_nu_old _ (fun z => by cases z.1), f15_5_2_2]
  have f16_19_0_0 : m_get s16 19 0 0 = rf 9 0 := by rw [e16, m_nu_old _ (fun z => by cases z.1), f15_19_0_0]
  have l16_13_4 : s16.2.1 13 4 = 30 := by rw [e16, m_nu_len _ (fun z => by cases z.1), l15_13_4]
  have l16_13_5 : s16.2.1 13 5 = 30 := by rw [e16, m_nu_len _ (fun z => by cases z.1), l15_13_5]
  have l16_19_0 : s16.2.1 19 0 = 2 := by rw [e16, m_nu_len _ (fun z => by cases z.1), l15_19_0]
  have l16_13_6 : s16.2.1 13 6 = 480 := by rw [e16, m_nu_len _ (fun z => by cases z.1), l15_13_6]
  have l16_13_7 : s16.2.1 13 7 = 480 := by rw [e16, m_nu_len _ (fun z => by cases z.1), l15_13_7]
  have l16_13_8 : s16.2.1 13 8 = 480 := by rw [e16, m_nu_len _ (fun z => by cases z.1), l15_13_8]
  have l16_13_9 : s16.2.1 13 9 = 480 := by rw [e16, m_nu_len _ (fun z => by cases z.1), l15_13_9]
  have l16_13_10 : s16.2.1 13 10 = 480 := by rw [e16, m_nu_len _ (fun z => by cases z.1), l15_13_10]
  have l16_13_11 : s16.2.1 13 11 = 480 := by rw [e16, m_nu_len _ (fun z => by cases z.1), l15_13_11]
  have f16_9_1_1 : m_get s16 9 1 1 = .inl 0 := by have q := m_nu_new s15 (c := 9) (n := 0) (k := 1); rw [n15_9] at q; rw [e16]; exact q
  have p16 : ∀ c j k, c ≠ 3 → c ≠ 5 → c ≠ 9 → c ≠ 19 → (c = 13 → j < 4) → m_get s16 c j k = m_get s0 c j k := fun c j k h1 h2 h3 h4 h5 => by rw [e16, m_nu_old _ (fun z => h3 z.1), p15 c j k h1 h2 h3 h4 h5]
  have q16 : ∀ c j, c ≠ 5 → c ≠ 9 → c ≠ 19 → (c = 13 → j < 4) → s16.2.1 c j = s0.2.1 c j := fun c j h2 h3 h4 h5 => by rw [e16, m_nu_len _ (fun z => h3 z.1), q15 c j h2 h3 h4 h5]
  have m16 : ∀ c, c ≠ 13 → c ≠ 5 → c ≠ 9 → c ≠ 19 → s16.1 c = s0.1 c := fun c h1 h2 h3 h4 => by rw [e16, m_nu_cntO _ h3, m15 c h1 h2 h3 h4]
  obtain ⟨s17, r17, ⟨c13, c5, cO⟩, ⟨g9, g0, g1, g2⟩, ⟨l0, l1⟩, pr, pl⟩ := er_119 (σ := s16) (a := 1)
  rw [n16_13] at c13 g0 g1 l0 l1 pr pl
  rw [n16_5] at c5 g9 g0 g1 g2 pr
  have n17_13 : s17.1 13 = 14 := c13
  have n17_5 : s17.1 5 = 4 := c5
  have n17_9 : s17.1 9 = 2 := (cO 9 (by decide) (by decide)).trans n16_9
  have n17_19 : s17.1 19 = 1 := (cO 19 (by decide) (by decide)).trans n16_19
  have f17_3_0_5 : m_get s17 3 0 5 = m_get s0 3 0 5 := (pr 3 0 5 (by decide) (by decide) (by decide)).trans f16_3_0_5
  have f17_3_0_0 : m_get s17 3 0 0 = rf 13 4 := (pr 3 0 0 (by decide) (by decide) (by decide)).trans f16_3_0_0
  have f17_3_0_1 : m_get s17 3 0 1 = rf 13 5 := (pr 3 0 1 (by decide) (by decide) (by decide)).trans f16_3_0_1
  have f17_3_0_2 : m_get s17 3 0 2 = rf 19 0 := (pr 3 0 2 (by decide) (by decide) (by decide)).trans f16_3_0_2
  have f17_5_0_2 : m_get s17 5 0 2 = .inl 0 := (pr 5 0 2 (by decide) (by decide) (by decide)).trans f16_5_0_2
  have f17_5_0_0 : m_get s17 5 0 0 = rf 13 6 := (pr 5 0 0 (by decide) (by decide) (by decide)).trans f16_5_0_0
  have f17_5_0_1 : m_get s17 5 0 1 = rf 13 7 := (pr 5 0 1 (by decide) (by decide) (by decide)).trans f16_5_0_1
  have f17_3_0_3 : m_get s17 3 0 3 = rf 5 0 := (pr 3 0 3 (by decide) (by decide) (by decide)).trans f16_3_0_3
  have f17_5_1_2 : m_get s17 5 1 2 = .inl 0 := (pr 5 1 2 (by decide) (by decide) (by decide)).trans f16_5_1_2
  have f17_5_1_0 : m_get s17 5 1 0 = rf 13 8 := (pr 5 1 0 (by decide) (by decide) (by decide)).trans f16_5_1_0
  have f17_5_1_1 : m_get s17 5 1 1 = rf 13 9 := (pr 5 1 1 (by decide) (by decide) (by decide)).trans f16_5_1_1
  have f17_3_0_4 : m_get s17 3 0 4 = rf 5 1 := (pr 3 0 4 (by decide) (by decide) (by decide)).trans f16_3_0_4
  have f17_9_0_1 : m_get s17 9 0 1 = .inl 0 := (pr 9 0 1 (by decide) (by decide) (by decide)).trans f16_9_0_1
  have f17_9_0_0 : m_get s17 9 0 0 = rf 5 2 := (pr 9 0 0 (by decide) (by decide) (by decide)).trans f16_9_0_0
  have f17_5_2_0 : m_get s17 5 2 0 = rf 13 10 := (pr 5 2 0 (by decide) (by decide) (by decide)).trans f16_5_2_0
  have f17_5_2_1 : m_get s17 5 2 1 = rf 13 11 := (pr 5 2 1 (by decide) (by decide) (by decide)).trans f16_5_2_1
  have f17_5_2_2 : m_get s17 5 2 2 = .inl 0 := (pr 5 2 2 (by decide) (by decide) (by decide)).trans f16_5_2_2
  have f17_19_0_0 : m_get s17 19 0 0 = rf 9 0 := (pr 19 0 0 (by decide) (by decide) (by decide)).trans f16_19_0_0
  have f17_9_1_1 : m_get s17 9 1 1 = .inl 0 := (pr 9 1 1 (by decide) (by decide) (by decide)).trans f16_9_1_1
  have f17_9_1_0 : m_get s17 9 1 0 = rf 5 3 := g9
  have f17_5_3_0 : m_get s17 5 3 0 = rf 13 12 := g0
  have f17_5_3_1 : m_get s17 5 3 1 = rf 13 13 := g1
  have f17_5_3_2 : m_get s17 5 3 2 = .inl 0 := g2
  have l17_13_4 : s17.2.1 13 4 = 30 := (pl 13 4 (by decide) (by decide)).trans l16_13_4
  have l17_13_5 : s17.2.1 13 5 = 30 := (pl 13 5 (by decide) (by decide)).trans l16_13_5
  have l17_19_0 : s17.2.1 19 0 = 2 := (pl 19 0 (by decide) (by decide)).trans l16_19_0
  have l17_13_6 : s17.2.1 13 6 = 480 := (pl 13 6 (by decide) (by decide)).trans l16_13_6
  have l17_13_7 : s17.2.1 13 7 = 480 := (pl 13 7 (by decide) (by decide)).trans l16_13_7
  have l17_13_8 : s17.2.1 13 8 = 480 := (pl 13 8 (by decide) (by decide)).trans l16_13_8
  have l17_13_9 : s17.2.1 13 9 = 480 := (pl 13 9 (by decide) (by decide)).trans l16_13_9
  have l17_13_10 : s17.2.1 13 10 = 480 := (pl 13 10 (by decide) (by decide)).trans l16_13_10
  have l17_13_11 : s17.2.1 13 11 = 480 := (pl 13 11 (by decide) (by decide)).trans l16_13_11
  have l17_13_12 : s17.2.1 13 12 = 480 := l0
  have l17_13_13 : s17.2.1 13 13 = 480 := l1
  have p17 : ∀ c j k, c ≠ 3 → c ≠ 5 → c ≠ 9 → c ≠ 19 → (c = 13 → j < 4) → m_get s17 c j k = m_get s0 c j k := fun c j k h1 h2 h3 h4 h5 => (pr c j k (fun z => by have := h5 z; omega) (fun z => absurd z h2) (fun z => h3 z.1)).trans (p16 c j k h1 h2 h3 h4 h5)
  have q17 : ∀ c j, c ≠ 5 → c ≠ 9 → c ≠ 19 → (c = 13 → j < 4) → s17.2.1 c j = s0.2.1 c j := fun c j h2 h3 h4 h5 => (pl c j h2 (fun z => by have := h5 z; omega)).trans (q16 c j h2 h3 h4 h5)
  have m17 : ∀ c, c ≠ 13 → c ≠ 5 → c ≠ 9 → c ≠ 19 → s17.1 c = s0.1 c := fun c h1 h2 h3 h4 => (cO c h1 h2).trans (m16 c h1 h2 h3 h4)
  clear c13 c5 cO g9 g0 g1 g2 l0 l1 pr pl
  obtain ⟨s18, e18⟩ : ∃ s, s = m_set s17 19 0 1 (rf 9 1) := ⟨_, rfl⟩
  have n18_13 : s18.1 13 = 14 := by rw [e18, m_set_1, n17_13]
  have n18_5 : s18.1 5 = 4 := by rw [e18, m_set_1, n17_5]
  have n18_9 : s18.1 9 = 2 := by rw [e18, m_set_1, n17_9]
  have n18_19 : s18.1 19 = 1 := by rw [e18, m_set_1, n17_19]
  have f18_3_0_5 : m_get s18 3 0 5 = m_get s0 3 0 5 := (congrArg (fun s => m_get s 3 0 5) e18).trans ((m_get_ne _ _ (by decide)).trans f17_3_0_5)
  have f18_3_0_0 : m_get s18 3 0 0 = rf 13 4 := (congrArg (fun s => m_get s 3 0 0) e18).trans ((m_get_ne _ _ (by decide)).trans f17_3_0_0)
  have f18_3_0_1 : m_get s18 3 0 1 = rf 13 5 := (congrArg (fun s => m_get s 3 0 1) e18).trans ((m_get_ne _ _ (by decide)).trans f17_3_0_1)
  have f18_3_0_2 : m_get s18 3 0 2 = rf 19 0 := (congrArg (fun s => m_get s 3 0 2) e18).trans ((m_get_ne _ _ (by decide)).trans f17_3_0_2)
  have f18_5_0_2 : m_get s18 5 0 2 = .inl 0 := (congrArg (fun s => m_get s 5 0 2) e18).trans ((m_get_ne _ _ (by decide)).trans f17_5_0_2)
  have f18_5_0_0 : m_get s18 5 0 0 = rf 13 6 := (congrArg (fun s => m_get s 5 0 0) e18).trans ((m_get_ne _ _ (by decide)).trans f17_5_0_0)
  have f18_5_0_1 : m_get s18 5 0 1 = rf 13 7 := (congrArg (fun s => m_get s 5 0 1) e18).trans ((m_get_ne _ _ (by decide)).trans f17_5_0_1)
  have f18_3_0_3 : m_get s18 3 0 3 = rf 5 0 := (congrArg (fun s => m_get s 3 0 3) e18).trans ((m_get_ne _ _ (by decide)).trans f17_3_0_3)
  have f18_5_1_2 : m_get s18 5 1 2 = .inl 0 := (congrArg (fun s => m_get s 5 1 2) e18).trans ((m_get_ne _ _ (by decide)).trans f17_5_1_2)
  have f18_5_1_0 : m_get s18 5 1 0 = rf 13 8 := (congrArg (fun s => m_get s 5 1 0) e18).trans ((m_get_ne _ _ (by decide)).trans f17_5_1_0)
  have f18_5_1_1 : m_get s18 5 1 1 = rf 13 9 := (congrArg (fun s => m_get s 5 1 1) e18).trans ((m_get_ne _ _ (by decide)).trans f17_5_1_1)
  have f18_3_0_4 : m_get s18 3 0 4 = rf 5 1 := (congrArg (fun s => m_get s 3 0 4) e18).trans ((m_get_ne _ _ (by decide)).trans f17_3_0_4)
  have f18_9_0_1 : m_get s18 9 0 1 = .inl 0 := (congrArg (fun s => m_get s 9 0 1) e18).trans ((m_get_ne _ _ (by decide)).trans f17_9_0_1)
  have f18_9_0_0 : m_get s18 9 0 0 = rf 5 2 := (congrArg (fun s => m_get s 9 0 0) e18).trans ((m_get_ne _ _ (by decide)).trans f17_9_0_0)
  have f18_5_2_0 : m_get s18 5 2 0 = rf 13 10 := (congrArg (fun s => m_get s 5 2 0) e18).trans ((m_get_ne _ _ (by decide)).trans f17_5_2_0)
  have f18_5_2_1 : m_get s18 5 2 1 = rf 13 11 := (congrArg (fun s => m_get s 5 2 1) e18).trans ((m_get_ne _ _ (by decide)).trans f17_5_2_1)
  have f18_5_2_2 : m_get s18 5 2 2 = .inl 0 := (congrArg (fun s => m_get s 5 2 2) e18).trans ((m_get_ne _ _ (by decide)).trans f17_5_2_2)
  have f18_19_0_0 : m_get s18 19 0 0 = rf 9 0 := (congrArg (fun s => m_get s 19 0 0) e18).trans ((m_get_ne _ _ (by decide)).trans f17_19_0_0)
  have f18_9_1_1 : m_get s18 9 1 1 = .inl 0 := (congrArg (fun s => m_get s 9 1 1) e18).trans ((m_get_ne _ _ (by decide)).trans f17_9_1_1)
  have f18_9_1_0 : m_get s18 9 1 0 = rf 5 3 := (congrArg (fun s => m_get s 9 1 0) e18).trans ((m_get_ne _ _ (by decide)).trans f17_9_1_0)
  have f18_5_3_0 : m_get s18 5 3 0 = rf 13 12 := (congrArg (fun s => m_get s 5 3 0) e18).trans ((m_get_ne _ _ (by decide)).trans f17_5_3_0)
  have f18_5_3_1 : m_get s18 5 3 1 = rf 13 13 := (congrArg (fun s => m_get s 5 3 1) e18).trans ((m_get_ne _ _ (by decide)).trans f17_5_3_1)
  have f18_5_3_2 : m_get s18 5 3 2 = .inl 0 := (congrArg (fun s => m_get s 5 3 2) e18).trans ((m_get_ne _ _ (by decide)).trans f17_5_3_2)
  have f18_19_0_1 : m_get s18 19 0 1 = rf 9 1 := (congrArg (fun s => m_get s 19 0 1) e18).trans (m_get_eq _ rfl)
  have l18_13_4 : s18.2.1 13 4 = 30 := by rw [e18, m_set_2, l17_13_4]
  have l18_13_5 : s18.2.1 13 5 = 30 := by rw [e18, m_set_2, l17_13_5]
  have l18_19_0 : s18.2.1 19 0 = 2 := by rw [e18, m_set_2, l17_19_0]
  have l18_13_6 : s18.2.1 13 6 = 480 := by rw [e18, m_set_2, l17_13_6]
  have l18_13_7 : s18.2.1 13 7 = 480 := by rw [e18, m_set_2, l17_13_7]
  have l18_13_8 : s18.2.1 13 8 = 480 := by rw [e18, m_set_2, l17_13_8]
  have l18_13_9 : s18.2.1 13 9 = 480 := by rw [e18, m_set_2, l17_13_9]
  have l18_13_10 : s18.2.1 13 10 = 480 := by rw [e18, m_set_2, l17_13_10]
  have l18_13_11 : s18.2.1 13 11 = 480 := by rw [e18, m_set_2, l17_13_11]
  have l18_13_12 : s18.2.1 13 12 = 480 := by rw [e18, m_set_2, l17_13_12]
  have l18_13_13 : s18.2.1 13 13 = 480 := by rw [e18, m_set_2, l17_13_13]
  have p18 : ∀ c j k, c ≠ 3 → c ≠ 5 → c ≠ 9 → c ≠ 19 → (c = 13 → j < 4) → m_get s18 c j k = m_get s0 c j k := fun c j k h1 h2 h3 h4 h5 => by rw [e18, m_get_ne _ _ (fun z => h4 z.1), p17 c j k h1 h2 h3 h4 h5]
  have q18 : ∀ c j, c ≠ 5 → c ≠ 9 → c ≠ 19 → (c = 13 → j < 4) → s18.2.1 c j = s0.2.1 c j := fun c j h2 h3 h4 h5 => by rw [e18, m_set_2, q17 c j h2 h3 h4 h5]
  have m18 : ∀ c, c ≠ 13 → c ≠ 5 → c ≠ 9 → c ≠ 19 → s18.1 c = s0.1 c := fun c h1 h2 h3 h4 => by rw [e18, m_set_1, m17 c h1 h2 h3 h4]
  refine ⟨s18, ?_, ⟨n18_13, m18⟩, ⟨f18_3_0_0, f18_3_0_1, f18_3_0_2, f18_3_0_3, f18_3_0_4, f18_3_0_5⟩, ⟨f18_19_0_0, f18_19_0_1⟩, ⟨f18_9_0_0, f18_9_0_1, f18_9_1_0, f18_9_1_1⟩, ⟨f18_5_0_0, f18_5_0_1, f18_5_0_2, f18_5_1_0, f18_5_1_1, f18_5_1_2, f18_5_2_0, f18_5_2_1, f18_5_2_2, f18_5_3_0, f18_5_3_1, f18_5_3_2⟩, ⟨l18_19_0, l18_13_4, l18_13_5, l18_13_6, l18_13_7, l18_13_8, l18_13_9, l18_13_10, l18_13_11, l18_13_12, l18_13_13⟩, p18, q18⟩
  refine er_go z50s_at (Nat.le_of_ble_eq_true rfl) ?_
  refine er_p rfl rfl rfl rfl ?_
  refine er_obj rfl rfl rfl (by decide) ?_
  show ER 50 z50s (4, [some (rf 3 0), none], [], s0, 0, 0) _
  refine er_p rfl rfl rfl rfl ?_
  refine er_p rfl rfl rfl rfl ?_
  refine er_nwl (l := 30) rfl rfl (by decide) ⟨by decide, by decide, by decide, by decide⟩ ?_
  rw [← e1] 
  rw [n0_13]
  refine er_put rfl rfl rfl ?_
  refine er_st e2 ?_
  show ER 50 z50s (12, [some (rf 3 0), none], [], s2, 1, 30) _
  refine er_p rfl rfl rfl rfl ?_
  refine er_p rfl rfl rfl rfl ?_
  refine er_nwl (l := 30) rfl rfl (by decide) ⟨by decide, by decide, by decide, by decide⟩ ?_
  rw [← e3] 
  rw [n2_13]
  refine er_put rfl rfl rfl ?_
  refine er_st e4 ?_
  show ER 50 z50s (20, [some (rf 3 0), none], [], s4, 2, 60) _
  refine er_p rfl rfl rfl rfl ?_
  refine er_p rfl rfl rfl rfl ?_
  refine er_nwa (t := 0) (st' := []) (l := 2) rfl (by decide) ⟨by decide, by decide, by decide, by decide⟩ ?_
  rw [← e5] 
  rw [n4_19]
  refine er_put rfl rfl rfl ?_
  refine er_st e6 ?_
  show ER 50 z50s (28, [some (rf 3 0), none], [], s6, 3, 62) _
  refine er_p rfl rfl rfl rfl ?_
  refine er_new rfl (by decide) ⟨by decide, by decide⟩ ?_
  rw [← e7] 
  rw [n6_5]
  refine er_p rfl rfl rfl rfl ?_
  show ER 50 z50s (33, [some (rf 3 0), none], [rf 5 0, rf 5 0, rf 3 0], s7, 4, 65) _
  refine er_spc (as := []) (v := none) rfl (by decide) rfl rfl rfl rfl ⟨Nat.le_of_ble_eq_true rfl, ⟨by decide, by decide⟩⟩ r8 ?_
  refine er_put rfl rfl rfl ?_
  refine er_st e9 ?_
  show ER 50 z50s (39, [some (rf 3 0), none], [], s9, 6, 1025) _
  refine er_p rfl rfl rfl rfl ?_
  refine er_new rfl (by decide) ⟨by decide, by decide⟩ ?_
  rw [← e10] 
  rw [n9_5]
  refine er_p rfl rfl rfl rfl ?_
  show ER 50 z50s (44, [some (rf 3 0), none], [rf 5 1, rf 5 1, rf 3 0], s10, 7, 1028) _
  refine er_spc (as := []) (v := none) rfl (by decide) rfl rfl rfl rfl ⟨Nat.le_of_ble_eq_true rfl, ⟨by decide, by decide⟩⟩ r11 ?_
  refine er_put rfl rfl rfl ?_
  refine er_st e12 ?_
  show ER 50 z50s (50, [some (rf 3 0), none], [], s12, 9, 1988) _
  refine er_p rfl rfl rfl rfl ?_
  refine er_p rfl rfl rfl rfl ?_
  show ER 50 z50s (52, [some (rf 3 0), some (.inl (Int32.ofInt 0))], [], s12, 9, 1988) _
  refine er_p rfl rfl rfl rfl ?_
  refine er_p rfl rfl rfl rfl ?_
  refine er_get rfl rfl f12_3_0_2 ?_
  refine er_len (l := 2) rfl ⟨(by show 13 ≤ 19; decide), (by show 19 ≤ 21; decide)⟩ l12_19_0 ?_
  refine er_cf rfl rfl rfl (show ¬ (Int32.ofNat 2 ≤ Int32.ofInt 0) by decide) ?_
  show ER 50 z50s (61, [some (rf 3 0), some (.inl (Int32.ofInt 0))], [], s12, 9, 1988) _
  refine er_p rfl rfl rfl rfl ?_
  refine er_get rfl rfl f12_3_0_2 ?_
  refine er_p rfl rfl rfl rfl ?_
  refine er_new rfl (by decide) ⟨by decide, by decide⟩ ?_
  rw [← e13] 
  rw [n12_9]
  refine er_p rfl rfl rfl rfl ?_
  show ER 50 z50s (70, [some (rf 3 0), some (.inl (Int32.ofInt 0))], [rf 9 0, rf 9 0, .inl (Int32.ofInt 0), rf 19 0], s13, 10, 1990) _
  refine er_spc (as := []) (v := none) rfl (by decide) rfl rfl rfl rfl ⟨Nat.le_of_ble_eq_true rfl, ⟨by decide, by decide⟩⟩ r14 ?_
  refine er_ast (l := 0) rfl (by decide) ⟨rfl, ⟨(by show 16 ≤ 19; decide), (by show 19 ≤ 20; decide)⟩, (by show vp_in (Int32.ofInt 0) (s14.2.1 19 0); rw [l14_19_0]; exact vp_ok.mpr ⟨by decide, by decide, by decide⟩)⟩ ?_
  refine er_st e15 ?_
  show ER 50 z50s (74, [some (rf 3 0), some (.inl (Int32.ofInt 0))], [], s15, 13, 2953) _
  refine er_p rfl rfl rfl rfl ?_
  refine er_p rfl rfl rfl rfl ?_
  have i1 : Int32.ofInt 0 + Int32.ofInt 1 = Int32.ofInt 1 := by decide
  show ER 50 z50s (52, [some (rf 3 0), some (.inl (Int32.ofInt 0 + Int32.ofInt 1))], [], s15, 13, 2953) _
  rw [i1]
  clear i1
  refine er_p rfl rfl rfl rfl ?_
  refine er_p rfl rfl rfl rfl ?_
  refine er_get rfl rfl f15_3_0_2 ?_
  refine er_len (l := 2) rfl ⟨(by show 13 ≤ 19; decide), (by show 19 ≤ 21; decide)⟩ l15_19_0 ?_
  refine er_cf rfl rfl rfl (show ¬ (Int32.ofNat 2 ≤ Int32.ofInt 1) by decide) ?_
  show ER 50 z50s (61, [some (rf 3 0), some (.inl (Int32.ofInt 1))], [], s15, 13, 2953) _
  refine er_p rfl rfl rfl rfl ?_
  refine er_get rfl rfl f15_3_0_2 ?_
  refine er_p rfl rfl rfl rfl ?_
  refine er_new rfl (by decide) ⟨by decide, by decide⟩ ?_
  rw [← e16] 
  rw [n15_9]
  refine er_p rfl rfl rfl rfl ?_
  show ER 50 z50s (70, [some (rf 3 0), some (.inl (Int32.ofInt 1))], [rf 9 1, rf 9 1, .inl (Int32.ofInt 1), rf 19 0], s16, 14, 2955) _
  refine er_spc (as := []) (v := none) rfl (by decide) rfl rfl rfl rfl ⟨Nat.le_of_ble_eq_true rfl, ⟨by decide, by decide⟩⟩ r17 ?_
  refine er_ast (l := 1) rfl (by decide) ⟨rfl, ⟨(by show 16 ≤ 19; decide), (by show 19 ≤ 20; decide)⟩, (by show vp_in (Int32.ofInt 1) (s17.2.1 19 0); rw [l17_19_0]; exact vp_ok.mpr ⟨by decide, by decide, by decide⟩)⟩ ?_
  refine er_st e18 ?_
  show ER 50 z50s (74, [some (rf 3 0), some (.inl (Int32.ofInt 1))], [], s18, 17, 3918) _
  refine er_p rfl rfl rfl rfl ?_
  refine er_p rfl rfl rfl rfl ?_
  have i1 : Int32.ofInt 1 + Int32.ofInt 1 = Int32.ofInt 2 := by decide
  show ER 50 z50s (52, [some (rf 3 0), some (.inl (Int32.ofInt 1 + Int32.ofInt 1))], [], s18, 17, 3918) _
  rw [i1]
  clear i1
  refine er_p rfl rfl rfl rfl ?_
  refine er_p rfl rfl rfl rfl ?_
  refine er_get rfl rfl f18_3_0_2 ?_
  refine er_len (l := 2) rfl ⟨(by show 13 ≤ 19; decide), (by show 19 ≤ 21; decide)⟩ l18_19_0 ?_
  refine er_ct rfl rfl rfl (show Int32.ofNat 2 ≤ Int32.ofInt 2 by decide) ?_
  show ER 50 z50s (80, [some (rf 3 0), some (.inl (Int32.ofInt 2))], [], s18, 17, 3918) _
  exact er_ret rfl (by decide) rfl
