/-! a new hall -/
theorem cl_X_of {B B' : Nat → Nat} {τ τ' : mS} (h : cl_X B τ) (hB : ∀ c, c ≠ 4 → c ≠ 0 → c ≠ 7 → c ≠ 17 → B' c = B c) (hm : ∀ c j f, c ≠ 4 → m_get τ' c j f = m_get τ c j f) (hl : ∀ c j, 13 ≤ c → τ'.2.1 c j = τ.2.1 c j) : cl_X B' τ' := by
  have e2 := hB 2 (by decide) (by decide) (by decide) (by decide)
  have e6 := hB 6 (by decide) (by decide) (by decide) (by decide)
  have e8 := hB 8 (by decide) (by decide) (by decide) (by decide)
  have e10 := hB 10 (by decide) (by decide) (by decide) (by decide)
  have e13 := hB 13 (by decide) (by decide) (by decide) (by decide)
  have e14 := hB 14 (by decide) (by decide) (by decide) (by decide)
  have e16 := hB 16 (by decide) (by decide) (by decide) (by decide)
  have e18 := hB 18 (by decide) (by decide) (by decide) (by decide)
  have e20 := hB 20 (by decide) (by decide) (by decide) (by decide)
  have e21 := hB 21 (by decide) (by decide) (by decide) (by decide)
  unfold cl_X at h ⊢
  rw [e2, e6, e8, e10, e13, e14, e16, e18, e20, e21]
  obtain ⟨⟨a0, a1, a2, a3, a4⟩, b, c, d, e, f, l1, l2, l3, l4, l5, l6⟩ := h
  refine ⟨⟨(hm 2 _ _ (by decide)).trans a0, (hm 2 _ _ (by decide)).trans a1, (hm 2 _ _ (by decide)).trans a2, (hm 2 _ _ (by decide)).trans a3, (hm 2 _ _ (by decide)).trans a4⟩, fun m hm6 => ?_, fun k hk => (hm 16 _ _ (by decide)).trans (c k hk), fun k hk => ?_, fun k hk => (hm 20 _ _ (by decide)).trans (e k hk), fun k hk => (hm 21 _ _ (by decide)).trans (f k hk), (hl 16 _ (by decide)).trans l1, (hl 18 _ (by decide)).trans l2, (hl 20 _ (by decide)).trans l3, (hl 21 _ (by decide)).trans l4, fun k hk => (hl 13 _ (by decide)).trans (l5 k hk), fun m h6 => (hl 14 _ (by decide)).trans (l6 m h6)⟩
  · obtain ⟨x1, x2, x3, x4⟩ := b m hm6
    exact ⟨(hm 6 _ _ (by decide)).trans x1, (hm 6 _ _ (by decide)).trans x2, fun f y z => (hm 6 _ _ (by decide)).trans (x3 f y z), fun f h => (hm 14 _ _ (by decide)).trans (x4 f h)⟩
  · obtain ⟨x1, x2, x3, x4⟩ := d k hk
    exact ⟨(hm 18 _ _ (by decide)).trans x1, (hm 8 _ _ (by decide)).trans x2, (hm 8 _ _ (by decide)).trans x3, fun f y z => (hm 8 _ _ (by decide)).trans (x4 f y z)⟩
/-- a hall at its beginning, its first numbers B: what is told of it when nothing came yet -/
def hxs (B : Nat → Nat) (τ : mS) : Prop :=
  (m_get τ 0 (B 0) 0 = rf 17 (B 17) ∧ ∀ f, f ≠ 0 → m_get τ 0 (B 0) f = hz 0 f) ∧ τ.2.1 17 (B 17) = 120 ∧ (∀ k, k < 120 → m_get τ 17 (B 17) k = rf 7 (B 7 + k) ∧ m_get τ 7 (B 7 + k) 0 = .inl (Int32.ofNat k)) ∧
  (m_get τ 4 (B 4) 0 = rf 0 (B 0) ∧ m_get τ 4 (B 4) 1 = rf 2 (B 2)) ∧ (∀ f, 5 ≤ f → m_get τ 2 (B 2) f = hz 2 f) ∧ cl_X B τ
def hl_n (c : Nat) : Nat := if c = 0 then 1 else if c = 2 then 1 else if c = 7 then 120 else if c = 17 then 1 else cl_n c
def z58s : mAl := ((yX4_init, cX4_init, 1, none, rm_X4_init, []), rw_X4_init, true)
theorem z58s_at : m_alF[58]? = some z58s := rfl
theorem hl_run {σ : mS} {h : Nat} (hh : h < σ.1 4) : ∃ τ, ev_run sm_all 58 [rf 4 h] σ (.inl none) τ ∧ hxs (fun c => if c = 4 then h else σ.1 c) τ ∧ (∀ c, τ.1 c = σ.1 c + hl_n c) ∧ (∀ c j k, j < σ.1 c → ¬ (c = 4 ∧ j = h ∧ k < 2) → m_get τ c j k = m_get σ c j k) ∧ ∀ c j, 13 ≤ c → j < σ.1 c → τ.2.1 c j = σ.2.1 c j := by
  obtain ⟨τ1, r1, p1⟩ := bk_init (σ := m_nu σ 0 0) (b := σ.1 0)
  obtain ⟨a1, a2, a3, a4, a5⟩ := p1
  have n0 : ∀ c, (m_nu σ 0 0).1 c = if c = 0 then σ.1 c + 1 else σ.1 c := fun _ => rfl
  have n17 : (m_nu σ 0 0).1 17 = σ.1 17 := rfl
  have n7 : (m_nu σ 0 0).1 7 = σ.1 7 := rfl
  rw [n17] at a1 a2 a3 a4 a5
  rw [n7] at a1 a4 a5
  have c1 : ∀ c, τ1.1 c = σ.1 c + (if c = 0 then 1 else if c = 7 then 120 else if c = 17 then 1 else 0) := by
    intro c
    rw [a1, n0]
    by_cases x17 : c = 17
    · subst x17; rfl
    by_cases x7 : c = 7
    · subst x7; rfl
    by_cases x0 : c = 0
    · subst x0; rfl
    rw [if_neg x17, if_neg x7, if_neg x0, if_neg x0, if_neg x7, if_neg x17]
    rfl
  have e2 : τ1.1 2 = σ.1 2 := c1 2
  obtain ⟨τ3, r3, x3, k3, g3⟩ := cl_run (σ := m_nu (m_set τ1 4 h 0 (rf 0 (σ.1 0))) 2 0) (b := σ.1 2) (by
    show σ.1 2 < (m_nu (m_set τ1 4 h 0 (rf 0 (σ.1 0))) 2 0).1 2
    rw [m_nu_cnt, m_set_1, e2]
    omega)
  have n3 : ∀ c, (m_nu (m_set τ1 4 h 0 (rf 0 (σ.1 0))) 2 0).1 c = σ.1 c + (if c = 0 then 1 else if c = 7 then 120 else if c = 17 then 1 else if c = 2 then 1 else 0) := by
    intro c
    by_cases x2 : c = 2
    · subst x2; rw [m_nu_cnt, m_set_1, e2]; rfl
    · rw [m_nu_cntO _ x2, m_set_1, c1]
      by_cases x0 : c = 0
      · subst x0; rfl
      by_cases x7 : c = 7
      · subst x7; rfl
      by_cases x17 : c = 17
      · subst x17; rfl
      rw [if_neg x0, if_neg x7, if_neg x17, if_neg x0, if_neg x7, if_neg x17, if_neg x2]
  have le3 : ∀ c j, j < σ.1 c → j < (m_nu (m_set τ1 4 h 0 (rf 0 (σ.1 0))) 2 0).1 c := fun c j hj => by rw [n3]; omega
  -- a cell that the clearing's constructor finds
  have back : ∀ c j k, j < (m_nu (m_set τ1 4 h 0 (rf 0 (σ.1 0))) 2 0).1 c → ¬ (c = 2 ∧ j = σ.1 2) → ¬ (c = 4 ∧ j = h ∧ k = 0) → m_get τ3 c j k = m_get τ1 c j k := fun c j k hj h2 h4 => by
    rw [g3.2.1 c j k hj (fun z => h2 ⟨z.1, z.2.1⟩), m_nu_old _ (fun z => h2 ⟨z.1, by rw [z.2, m_set_1, e2]⟩), m_get_ne _ _ h4]
  have up : ∀ c j k, ¬ (c = 4 ∧ j = h ∧ k = 1) → m_get (m_set τ3 4 h 1 (rf 2 (σ.1 2))) c j k = m_get τ3 c j k := fun c j k hn => m_get_ne _ _ hn
  refine ⟨m_set τ3 4 h 1 (rf 2 (σ.1 2)), er_go z58s_at (Nat.le_of_ble_eq_true rfl) ?_, ⟨⟨?_, fun f hf => ?_⟩, ?_, fun k hk => ⟨?_, ?_⟩, ⟨?_, ?_⟩, fun f hf => ?_, ?_⟩, fun c => ?_, fun c j k hj hn => ?_, fun c j hc hj => ?_⟩
  · refine er_p rfl rfl rfl rfl ?_
    refine er_obj rfl rfl rfl (by decide) ?_
    refine er_p rfl rfl rfl rfl ?_
    refine er_new rfl (by decide) ⟨by decide, by decide⟩ ?_
    refine er_p rfl rfl rfl rfl ?_
    refine er_spc (as := []) (v := none) rfl (by decide) rfl rfl rfl rfl ⟨Nat.le_of_ble_eq_true rfl, ⟨by decide, by decide⟩⟩ r1 ?_
    refine er_put rfl rfl rfl ?_
    refine er_p rfl rfl rfl rfl ?_
    refine er_new rfl (by decide) ⟨by decide, by decide⟩ ?_
    refine er_p rfl rfl rfl rfl ?_
    have e2' : (m_set τ1 4 h 0 (rf 0 (σ.1 0))).1 2 = σ.1 2 := by rw [m_set_1]; exact e2
    have r3' : ev_run sm_all 20 [rf 2 ((m_set τ1 4 h 0 (rf 0 (σ.1 0))).1 2)] (m_nu (m_set τ1 4 h 0 (rf 0 (σ.1 0))) 2 0) (.inl none) τ3 := by rw [e2']; exact r3
    refine er_spc (as := []) (v := none) rfl (by decide) rfl rfl rfl rfl ⟨Nat.le_of_ble_eq_true rfl, ⟨by decide, by decide⟩⟩ r3' ?_
    have goal : ER 58 z58s (23, [some (rf 4 h)], [rf 2 ((m_set τ1 4 h 0 (rf 0 (σ.1 0))).1 2), rf 4 h], τ3, 346, 4029) (.inl none, m_set τ3 4 h 1 (rf 2 (σ.1 2))) := by
      rw [e2']
      refine er_put rfl rfl rfl ?_
      exact er_ret rfl (by decide) rfl
    exact goal
  · show m_get (m_set τ3 4 h 1 (rf 2 (σ.1 2))) 0 (σ.1 0) 0 = rf 17 (σ.1 17)
    rw [up _ _ _ (fun z => by cases z.1), back 0 _ 0 (by rw [n3]; show σ.1 0 < σ.1 0 + 1; omega) (fun z => by cases z.1) (fun z => by cases z.1)]
    exact a3
  · show m_get (m_set τ3 4 h 1 (rf 2 (σ.1 2))) 0 (σ.1 0) f = hz 0 f
    rw [up _ _ _ (fun z => by cases z.1), back 0 _ f (by rw [n3]; show σ.1 0 < σ.1 0 + 1; omega) (fun z => by cases z.1) (fun z => by cases z.1), a5 0 _ f (fun z => hf z.2.2) (fun z => by cases z.1) (fun z => by cases z.1)]
    exact m_nu_newz σ 0 0 f
  · show (m_set τ3 4 h 1 (rf 2 (σ.1 2))).2.1 17 (σ.1 17) = 120
    rw [m_set_2, g3.2.2 17 _ (by decide) (by rw [n3]; show σ.1 17 < σ.1 17 + 1; omega), m_nu_len _ (fun z => by cases z.1), m_set_2, a2 17 _ (by decide)]
    exact if_pos ⟨rfl, rfl⟩
  · show m_get (m_set τ3 4 h 1 (rf 2 (σ.1 2))) 17 (σ.1 17) k = rf 7 (σ.1 7 + k)
    rw [up _ _ _ (fun z => by cases z.1), back 17 _ k (by rw [n3]; show σ.1 17 < σ.1 17 + 1; omega) (fun z => by cases z.1) (fun z => by cases z.1)]
    exact (a4 k hk).1
  · show m_get (m_set τ3 4 h 1 (rf 2 (σ.1 2))) 7 (σ.1 7 + k) 0 = _
    rw [up _ _ _ (fun z => by cases z.1), back 7 _ 0 (by rw [n3]; show σ.1 7 + k < σ.1 7 + 120; omega) (fun z => by cases z.1) (fun z => by cases z.1)]
    exact (a4 k hk).2.1
  · show m_get (m_set τ3 4 h 1 (rf 2 (σ.1 2))) 4 h 0 = rf 0 (σ.1 0)
    rw [up _ _ _ (fun z => by cases z.2.2), g3.2.1 4 h 0 (le3 4 h hh) (fun z => by cases z.1), m_nu_old _ (fun z => by cases z.1)]
    exact m_get_eq _ rfl
  · show m_get (m_set τ3 4 h 1 (rf 2 (σ.1 2))) 4 h 1 = rf 2 (σ.1 2)
    exact m_get_eq _ rfl
  · show m_get (m_set τ3 4 h 1 (rf 2 (σ.1 2))) 2 (σ.1 2) f = hz 2 f
    rw [up _ _ _ (fun z => by cases z.1), g3.2.1 2 _ f (by rw [n3]; show σ.1 2 < σ.1 2 + 1; omega) (fun z => by omega)]
    have e : σ.1 2 = (m_set τ1 4 h 0 (rf 0 (σ.1 0))).1 2 := by rw [m_set_1]; exact e2.symm
    rw [e]
    exact m_nu_newz _ 2 0 f
  · refine cl_X_of x3 (fun c y4 y0 y7 y17 => ?_) (fun c j f y => up c j f (fun z => y z.1)) (fun c j _ => by rw [m_set_2])
    show (if c = 4 then h else σ.1 c) = if c = 2 then σ.1 2 else (m_nu (m_set τ1 4 h 0 (rf 0 (σ.1 0))) 2 0).1 c
    rw [if_neg y4, n3, if_neg y0, if_neg y7, if_neg y17]
    by_cases y2 : c = 2
    · rw [if_pos y2, y2]
    · rw [if_neg y2, if_neg y2]; rfl
  · rw [m_set_1, k3, n3]
    unfold hl_n
    by_cases x0 : c = 0
    · subst x0; rfl
    by_cases x2 : c = 2
    · subst x2; rfl
    by_cases x7 : c = 7
    · subst x7; rfl
    by_cases x17 : c = 17
    · subst x17; rfl
    rw [if_neg x0, if_neg x7, if_neg x17, if_neg x2, if_neg x0, if_neg x2, if_neg x7, if_neg x17]
    rfl
  · rw [up c j k (fun z => hn ⟨z.1, z.2.1, by omega⟩), back c j k (le3 c j hj) (fun z => by rw [z.1, z.2] at hj; exact Nat.lt_irrefl _ hj) (fun z => hn ⟨z.1, z.2.1, by omega⟩), a5 c j k (fun z => by rw [z.1, z.2.1] at hj; exact Nat.lt_irrefl _ hj) (fun z => by rw [z.1, z.2] at hj; exact Nat.lt_irrefl _ hj) (fun z => by rw [z.1] at hj; omega), m_nu_old _ (fun z => by rw [z.1, z.2] at hj; exact Nat.lt_irrefl _ hj)]
  · rw [m_set_2, g3.2.2 c j hc (le3 c j hj), m_nu_len _ (fun z => by omega), m_set_2, a2 c j hc, if_neg (fun z => by rw [z.1, z.2] at hj; exact Nat.lt_irrefl _ hj), m_nu_len _ (fun z => by omega)]
