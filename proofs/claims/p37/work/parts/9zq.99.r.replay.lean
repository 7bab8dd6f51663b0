/-! the first replay answers yes -/
def ac_cnA : List (Nat × Nat) := [(0, 1), (2, 1), (3, 1), (4, 1), (5, 4), (6, 6), (7, 120), (8, 3), (9, 2), (10, 200), (11, 1), (13, 18), (14, 7), (15, 0), (16, 1), (17, 1), (18, 1), (19, 1), (20, 1), (21, 1)]
theorem hx_cg {B B' : Nat → Nat} {τ : mS} (hB : ∀ c ∈ [0, 2, 4, 6, 7, 8, 10, 13, 14, 16, 17, 18, 20, 21], B' c = B c) (h : hxs B τ) : hxs B' τ := by
  unfold hxs cl_X at h ⊢
  rw [hB 0 (by decide), hB 2 (by decide), hB 4 (by decide), hB 6 (by decide), hB 7 (by decide), hB 8 (by decide), hB 10 (by decide), hB 13 (by decide), hB 14 (by decide), hB 16 (by decide), hB 17 (by decide), hB 18 (by decide), hB 20 (by decide), hB 21 (by decide)]
  exact h
theorem hy_of {B : Nat → Nat} {σ τ : mS} (h : hy B σ) (e : ∀ c j k, c ≠ 11 → m_get τ c j k = m_get σ c j k) (l : τ.2.1 = σ.2.1) : hy B τ := by
  obtain ⟨⟨a1, a2⟩, a3, a4, ⟨a5, a6⟩, a7, ⟨b0, b1, b2, b3, b4⟩, b5, b6, b7, b8, b9, ls⟩ := h
  refine ⟨⟨(e 0 _ _ (by decide)).trans a1, fun f hf => (e 0 _ _ (by decide)).trans (a2 f hf)⟩, by rw [l]; exact a3, fun k hk => ⟨(e 17 _ _ (by decide)).trans (a4 k hk).1, (e 7 _ _ (by decide)).trans (a4 k hk).2⟩, ⟨(e 4 _ _ (by decide)).trans a5, (e 4 _ _ (by decide)).trans a6⟩, fun f hf => (e 2 _ _ (by decide)).trans (a7 f hf), ⟨(e 2 _ _ (by decide)).trans b0, (e 2 _ _ (by decide)).trans b1, (e 2 _ _ (by decide)).trans b2, (e 2 _ _ (by decide)).trans b3, (e 2 _ _ (by decide)).trans b4⟩, fun m hm => ⟨(e 6 _ _ (by decide)).trans (b5 m hm).1, (e 6 _ _ (by decide)).trans (b5 m hm).2.1, fun f hf => (e 6 _ _ (by decide)).trans ((b5 m hm).2.2 f hf)⟩, fun k hk => (e 16 _ _ (by decide)).trans (b6 k hk), fun k hk => ⟨(e 18 _ _ (by decide)).trans (b7 k hk).1, (e 8 _ _ (by decide)).trans (b7 k hk).2.1, fun f hf => (e 8 _ _ (by decide)).trans ((b7 k hk).2.2 f hf)⟩, fun k hk => (e 20 _ _ (by decide)).trans (b8 k hk), fun k hk => (e 21 _ _ (by decide)).trans (b9 k hk), by rw [l]; exact ls⟩
theorem kk_ck2 : (List.range 22).all (fun c => match ac_K0.1[c]? with
  | some l => l.all (fun g => foB c g.2.2.1 && !(Nat.beq c 11 && (Nat.ble g.2.2.2.1 2 && Nat.ble 2 g.2.2.2.2.1)))
  | none => true) = true := by decide +kernel
/-- the same, but for the face's other hall -/
theorem kk_old2 {σ σ' : mS} (h : ac_KK ac_K0 σ) (hm : ∀ c i k, fo c i → ¬ (c = 11 ∧ k = 2) → m_get σ' c i k = m_get σ c i k) (hl : ∀ c i, 13 ≤ c → fo c i → σ'.2.1 c i = σ.2.1 c i) : ac_KK ac_K0 σ' := by
  have t0 := kk_tr0 h
  obtain ⟨h1, h2, h3⟩ := h
  refine ⟨fun c l hc g hg i k i1 i2 k1 k2 => ?_, fun c l hc q hq i i1 i2 => ?_, fun k hk => ?_⟩
  · have lt : c < 22 := Nat.lt_of_lt_of_le (List.getElem?_eq_some_iff.mp hc).1 kk_22.1
    have w := List.all_eq_true.mp kk_ck2 c (List.mem_range.mpr lt)
    rw [hc] at w
    have w2 := List.all_eq_true.mp w g hg
    rw [Bool.and_eq_true, Bool.not_eq_true'] at w2
    rw [hm c i k (foB_ok w2.1 i2) (fun z => by
      have w3 := w2.2
      have q1 : g.2.2.2.1 ≤ 2 := by have := z.2; omega
      have q2 : 2 ≤ g.2.2.2.2.1 := by have := z.2; omega
      rw [z.1, Nat.beq_refl, Nat.ble_eq_true_of_le q1, Nat.ble_eq_true_of_le q2] at w3
      cases w3)]
    exact h1 c l hc g hg i k i1 i2 k1 k2
  · have lt : c < 22 := Nat.lt_of_lt_of_le (List.getElem?_eq_some_iff.mp hc).1 kk_22.2
    have w := List.all_eq_true.mp kk_cl c (List.mem_range.mpr lt)
    rw [hc] at w
    have g := h2 c l hc q hq i i1 i2
    exact ⟨g.1, by rw [hl c i g.1 (foB_ok (List.all_eq_true.mp w q hq) i2)]; exact g.2⟩
  · have e : ac_tr σ' = ac_tr σ := by
      unfold ac_tr
      rw [hm 12 0 _ (Or.inr (Or.inl (by decide))) (fun z => by cases z.1)]
    rw [e] at hk
    omega
/-- the things that there are ahead of the first replay -/
theorem cnA_off {σ : mS} (h : ∀ q ∈ ac_cnA, σ.1 q.1 = q.2) : (∀ c ∈ [0, 2, 4, 6, 7, 8, 10, 13, 14, 16, 17, 18, 20, 21], σ.1 c = sm_off c) ∧ σ.1 15 = 0 ∧ σ.1 19 = 1 := by
  refine ⟨fun c hc => ?_, h (15, 0) (by decide), h (19, 1) (by decide)⟩
  have g : ∀ c ∈ [0, 2, 4, 6, 7, 8, 10, 13, 14, 16, 17, 18, 20, 21], (c, sm_off c) ∈ ac_cnA := by decide
  exact h (c, sm_off c) (g c hc)
theorem fo_cases {c i : Nat} (h : fo c i) : (c ∈ [0, 2, 4, 6, 7, 8, 10, 13, 14, 16, 17, 18, 20, 21] ∧ i < sm_off c) ∨ c ∈ [1, 3, 5, 9, 11, 12] ∨ (c = 15 ∧ i < 0) ∨ (c = 19 ∧ i < 1) := by
  rcases h with h | h | h | h
  · refine Or.inl ⟨?_, h⟩
    unfold sm_off at h
    split at h <;> first | decide | (exact absurd h (Nat.not_lt_zero _))
  · refine Or.inr (Or.inl ?_)
    simp only [List.mem_cons, List.mem_nil_iff, or_false]
    exact h
  · exact Or.inr (Or.inr (Or.inl h))
  · exact Or.inr (Or.inr (Or.inr h))
theorem rp_runA {σ0 σ : mS} {cs : List Nat} (hx0 : hxs (fun _ => 0) σ0) (h10 : σ0.1 1 = 0) (hH : hs_H σ0 cs σ) (hK : ac_KK ac_K0 σ) (hch : rp_ch σ cs (m_get σ 11 0 3)) (h5 : m_get σ 11 0 5 = .inl (Int32.ofNat cs.length)) (hl : cs.length ≤ 512) (h0 : m_get σ 11 0 0 = rf 4 0) (h2 : m_get σ 11 0 2 = .inr (.inr none)) (hA : ∀ q ∈ ac_cnA, σ.1 q.1 = q.2) :
    ∃ σ', ev_run sm_all 157 [rf 11 0] σ (.inl (some (.inl 1))) σ' ∧ σ'.1 1 = σ.1 1 ∧ (∀ c i, 13 ≤ c → fo c i → σ'.2.1 c i = σ.2.1 c i) ∧ (∀ c i k, fo c i → ¬ (c = 11 ∧ k = 2) → m_get σ' c i k = m_get σ c i k) ∧ m_get σ' 11 0 2 = rf 4 1 ∧ ac_KK ac_K0 σ' ∧ hy sm_off σ' ∧ hs_H σ0 cs σ' := by
  obtain ⟨a1, a15, a19⟩ := cnA_off hA
  have s4 : σ.1 4 = 1 := a1 4 (by decide)
  have n1 : ∀ c, c ≠ 4 → (m_nu σ 4 0).1 c = σ.1 c := fun c hc => by
    show (if c = 4 then σ.1 c + 1 else σ.1 c) = _
    rw [if_neg hc]
  have n4 : (m_nu σ 4 0).1 4 = 2 := by
    show σ.1 4 + 1 = 2
    rw [s4]
  obtain ⟨τ, r, hxB, ct, fr, ln⟩ := hl_run (σ := m_nu σ 4 0) (h := 1) (by rw [n4]; decide)
  have hxO : hxs sm_off τ := hx_cg (fun c hc => by
    by_cases e : c = 4
    · subst e; rfl
    · rw [if_neg e, n1 c e, a1 c hc]) hxB
  have E : ∀ c, c ∈ [1, 3, 5, 9, 11, 12] → eqH c σ τ := fun c hc => (eqH_nu (fun e => by
    subst e
    revert hc
    decide)).tr (hl_old hc r)
  have FR : ∀ c i k, fo c i → m_get τ c i k = m_get σ c i k := by
    intro c i k h
    rcases fo_cases h with ⟨h1, h2⟩ | h1 | ⟨rfl, h1⟩ | ⟨rfl, h1⟩
    · have hi : i < σ.1 c := by rw [a1 c h1]; exact h2
      by_cases e : c = 4
      · subst e
        have i0 : i = 0 := by omega
        subst i0
        exact (fr 4 0 k (by rw [n4]; decide) (fun z => by cases z.2.1)).trans (m_nu_old σ (fun z => by rw [s4] at z; cases z.2))
      · exact (fr c i k (by rw [n1 c e]; exact hi) (fun z => e z.1)).trans (m_nu_old σ (fun z => e z.1))
    · exact (E c h1).2 i k
    · exact (fr 15 i k (by rw [n1 15 (by decide), a15]; exact h1) (fun z => by cases z.1)).trans (m_nu_old σ (fun z => by cases z.1))
    · exact (fr 19 i k (by rw [n1 19 (by decide), a19]; exact h1) (fun z => by cases z.1)).trans (m_nu_old σ (fun z => by cases z.1))
  have LN : ∀ c i, 13 ≤ c → fo c i → τ.2.1 c i = σ.2.1 c i := by
    intro c i hc h
    have e : c ≠ 4 := by omega
    have hi : i < σ.1 c := by
      rcases fo_cases h with ⟨h1, h2⟩ | h1 | ⟨rfl, h1⟩ | ⟨rfl, h1⟩
      · rw [a1 c h1]; exact h2
      · simp only [List.mem_cons, List.mem_nil_iff, or_false] at h1
        omega
      · rw [a15]; exact h1
      · rw [a19]; exact h1
    rw [ln c i hc (by rw [n1 c e]; exact hi)]
    exact m_nu_len σ (fun z => e z.1)
  have st : ∀ c i k, ¬ (c = 11 ∧ i = 0 ∧ k = 2) → m_get (m_set τ 11 0 2 (rf 4 1)) c i k = m_get τ c i k := fun c i k h => m_get_ne _ _ h
  have f11 : fo 11 0 := Or.inr (Or.inl (by decide))
  have F2 : ∀ c i k, fo c i → ¬ (c = 11 ∧ k = 2) → m_get (m_set τ 11 0 2 (rf 4 1)) c i k = m_get σ c i k := fun c i k h hn => (st c i k (fun z => hn ⟨z.1, z.2.2⟩)).trans (FR c i k h)
  have ar : ∀ k, k ≠ 2 → m_get (m_set τ 11 0 2 (rf 4 1)) 11 0 k = m_get σ 11 0 k := fun k hk => F2 11 0 k f11 (fun z => hk z.2)
  have ec1 : eqH 1 σ (m_set τ 11 0 2 (rf 4 1)) := (E 1 (by decide)).tr (eqH_set (by decide))
  have eL : (m_set τ 11 0 2 (rf 4 1)).2.1 = τ.2.1 := m_set_2 ..
  have KA := kk_old2 (σ' := m_set τ 11 0 2 (rf 4 1)) hK F2 (fun c i hc h => by rw [eL]; exact LN c i hc h)
  have HA : hs_H σ0 cs (m_set τ 11 0 2 (rf 4 1)) := hs_grow hH (by rw [ec1.1]; exact Nat.le_refl _) (fun i k _ _ => ec1.2 i k) (fun c i k h => F2 c i k (Or.inl (off_sm h).1) (fun z => (off_sm h).2 (by omega))) (fun c i hc h => by rw [eL]; exact LN c i hc (Or.inl (off_sm h).1))
  have g2 : m_get (m_set τ 11 0 2 (rf 4 1)) 11 0 2 = rf 4 1 := m_get_eq _ rfl
  obtain ⟨σ', r', c1, c2, c3, c4, c5⟩ := rp_tail (k := 347) (n := 4031) (by decide) (by decide) hx0 h10 HA KA (by rw [ar 3 (by decide)]; exact rp_ch.of ec1 hch) ((ar 5 (by decide)).trans h5) hl ((ar 0 (by decide)).trans h0) g2 (hy_of (hx_hy hxO) (fun c j k hc => m_get_ne _ _ (fun z => hc z.1)) eL)
  refine ⟨σ', er_go z157s_at (Nat.le_of_ble_eq_true rfl) ?_, ?_, fun c i hc h => ?_, fun c i k h hn => (c3 c i k h).trans (F2 c i k h hn), (c3 11 0 2 f11).trans g2, c4, c5⟩
  · refine er_p rfl rfl rfl rfl ?_
    refine er_get rfl rfl h2 ?_
    refine er_cf rfl rfl rfl (fun z => z rfl) ?_
    refine er_p rfl rfl rfl rfl ?_
    refine er_new rfl (by decide) ⟨by decide, by decide⟩ ?_
    refine er_p rfl rfl rfl rfl ?_
    have r2 : ev_run sm_all 58 [.inr (.inr (some (4, σ.1 4)))] (m_nu σ 4 0) (.inl none) τ := by rw [s4]; exact r
    refine er_spc (as := []) (v := none) rfl (by decide) rfl rfl rfl rfl ⟨Nat.le_of_ble_eq_true rfl, ⟨by decide, by decide⟩⟩ r2 ?_
    refine er_put rfl rfl rfl ?_
    rw [s4]
    exact r'
  · rw [c1]; exact ec1.1
  · rw [c2, eL]; exact LN c i hc h
