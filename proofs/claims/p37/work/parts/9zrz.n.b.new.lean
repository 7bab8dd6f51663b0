/-! a new hall whole -/
section NH0
def z123s : mAl := ((yX11_init, cX11_init, 1, none, rm_X11_init, []), rw_X11_init, true)
theorem z123s_at : m_alF[123]? = some z123s := rfl
theorem hxs_of {B B' : Nat → Nat} {τ τ' : mS} (h : hxs B τ) (hB : ∀ c, c ≠ 11 → c ≠ 98 → B' c = B c) (hm : ∀ c j k, c ≠ 3 → c ≠ 5 → c ≠ 9 → c ≠ 19 → c ≠ 11 → (c = 13 → j < 4) → (c = 14 → j < 6) → m_get τ' c j k = m_get τ c j k) (hl : ∀ c j, c ≠ 3 → c ≠ 5 → c ≠ 9 → c ≠ 19 → (c = 13 → j < 4) → (c = 14 → j < 6) → τ'.2.1 c j = τ.2.1 c j) (b13 : B 13 = 0) (b14 : B 14 = 0) : hxs B' τ' := by
  have M : ∀ c j k, c ≠ 3 → c ≠ 5 → c ≠ 9 → c ≠ 19 → c ≠ 11 → c ≠ 13 → c ≠ 14 → m_get τ' c j k = m_get τ c j k := fun c j k a b d e f g i => hm c j k a b d e f (fun z => absurd z g) (fun z => absurd z i)
  have LN : ∀ c j, c ≠ 3 → c ≠ 5 → c ≠ 9 → c ≠ 19 → c ≠ 13 → c ≠ 14 → τ'.2.1 c j = τ.2.1 c j := fun c j y a b d e f => hl c j y a b d (fun z => absurd z e) (fun z => absurd z f)
  obtain ⟨⟨h1, h2⟩, h3, h4, ⟨h5, h6⟩, h7, ⟨x1, x2, x3, x4, x5⟩, y, u, v, r, t, ⟨l1, l2, l3, l4, l5, l6⟩⟩ := h
  unfold hxs cl_X
  rw [hB 0 (by decide) (by decide), hB 2 (by decide) (by decide), hB 4 (by decide) (by decide), hB 6 (by decide) (by decide), hB 7 (by decide) (by decide), hB 8 (by decide) (by decide), hB 10 (by decide) (by decide), hB 13 (by decide) (by decide), hB 14 (by decide) (by decide), hB 16 (by decide) (by decide), hB 17 (by decide) (by decide), hB 18 (by decide) (by decide), hB 20 (by decide) (by decide), hB 21 (by decide) (by decide)]
  have A : ∀ {c j k : Nat} {x : mV}, m_get τ c j k = x → c ≠ 3 → c ≠ 5 → c ≠ 9 → c ≠ 19 → c ≠ 11 → c ≠ 13 → c ≠ 14 → m_get τ' c j k = x := fun e a b d f g i o => (M _ _ _ a b d f g i o).trans e
  have Q : ∀ {c j l : Nat}, τ.2.1 c j = l → c ≠ 3 → c ≠ 5 → c ≠ 9 → c ≠ 19 → c ≠ 13 → c ≠ 14 → τ'.2.1 c j = l := fun e y a b d f o => (LN _ _ y a b d f o).trans e
  refine ⟨⟨A h1 (by decide) (by decide) (by decide) (by decide) (by decide) (by decide) (by decide), fun f hf => A (h2 f hf) (by decide) (by decide) (by decide) (by decide) (by decide) (by decide) (by decide)⟩, Q h3 (by decide) (by decide) (by decide) (by decide) (by decide) (by decide), fun k hk => ⟨A (h4 k hk).1 (by decide) (by decide) (by decide) (by decide) (by decide) (by decide) (by decide), A (h4 k hk).2 (by decide) (by decide) (by decide) (by decide) (by decide) (by decide) (by decide)⟩, ⟨A h5 (by decide) (by decide) (by decide) (by decide) (by decide) (by decide) (by decide), A h6 (by decide) (by decide) (by decide) (by decide) (by decide) (by decide) (by decide)⟩, fun f hf => A (h7 f hf) (by decide) (by decide) (by decide) (by decide) (by decide) (by decide) (by decide), ⟨A x1 (by decide) (by decide) (by decide) (by decide) (by decide) (by decide) (by decide), A x2 (by decide) (by decide) (by decide) (by decide) (by decide) (by decide) (by decide), A x3 (by decide) (by decide) (by decide) (by decide) (by decide) (by decide) (by decide), A x4 (by decide) (by decide) (by decide) (by decide) (by decide) (by decide) (by decide), A x5 (by decide) (by decide) (by decide) (by decide) (by decide) (by decide) (by decide)⟩, fun m hm' => ?_, fun k hk => A (u k hk) (by decide) (by decide) (by decide) (by decide) (by decide) (by decide) (by decide), fun k hk => ?_, fun k hk => A (r k hk) (by decide) (by decide) (by decide) (by decide) (by decide) (by decide) (by decide), fun k hk => A (t k hk) (by decide) (by decide) (by decide) (by decide) (by decide) (by decide) (by decide), ⟨Q l1 (by decide) (by decide) (by decide) (by decide) (by decide) (by decide), Q l2 (by decide) (by decide) (by decide) (by decide) (by decide) (by decide), Q l3 (by decide) (by decide) (by decide) (by decide) (by decide) (by decide), Q l4 (by decide) (by decide) (by decide) (by decide) (by decide) (by decide), fun k hk => (hl 13 _ (by decide) (by decide) (by decide) (by decide) (fun _ => by omega) (fun z => by cases z)).trans (l5 k hk), fun m hm' => (hl 14 _ (by decide) (by decide) (by decide) (by decide) (fun z => by cases z) (fun _ => by omega)).trans (l6 m hm')⟩⟩
  · obtain ⟨a, b, d, e⟩ := y m hm'
    exact ⟨A a (by decide) (by decide) (by decide) (by decide) (by decide) (by decide) (by decide), A b (by decide) (by decide) (by decide) (by decide) (by decide) (by decide) (by decide), fun f f0 f1 => A (d f f0 f1) (by decide) (by decide) (by decide) (by decide) (by decide) (by decide) (by decide), fun f hf => (hm 14 _ _ (by decide) (by decide) (by decide) (by decide) (by decide) (fun z => by cases z) (fun _ => by omega)).trans (e f hf)⟩
  · obtain ⟨a, b, d, e⟩ := v k hk
    exact ⟨A a (by decide) (by decide) (by decide) (by decide) (by decide) (by decide) (by decide), A b (by decide) (by decide) (by decide) (by decide) (by decide) (by decide) (by decide), A d (by decide) (by decide) (by decide) (by decide) (by decide) (by decide) (by decide), fun f f0 f1 => A (e f f0 f1) (by decide) (by decide) (by decide) (by decide) (by decide) (by decide) (by decide)⟩
/-- what constructor 123 leaves of an empty heap -/
def NHp (σ τ : mS) : Prop := hxs (fun _ => 0) τ ∧ (m_get τ 11 0 0 = rf 4 0 ∧ m_get τ 11 0 1 = rf 3 0 ∧ ∀ k, 2 ≤ k → m_get τ 11 0 k = m_get σ 11 0 k) ∧ (τ.1 13 = 14 ∧ τ.1 14 = 6 ∧ τ.1 1 = 0) ∧ ∃ s4, m_get s4 3 0 5 = .inl 0 ∧ ∃ s5, FDp s4 s5 ∧ (∀ c j k, c ≠ 11 → m_get τ c j k = m_get s5 c j k) ∧ τ.2.1 = s5.2.1
theorem er_123 {σ : mS} (h0 : ∀ c, c ≠ 11 → c ≠ 98 → σ.1 c = 0) (h11 : σ.1 11 = 1) : ∃ τ, ev_run sm_all 123 [rf 11 0] σ (.inl none) τ ∧ NHp σ τ := by
  obtain ⟨s1, e1⟩ : ∃ s, s = m_nu σ 4 0 := ⟨_, rfl⟩
  have n4 : σ.1 4 = 0 := h0 4 (by decide) (by decide)
  have c1 : s1.1 4 = 1 := by rw [e1, m_nu_cnt, n4]
  have c1o : ∀ c, c ≠ 4 → c ≠ 11 → c ≠ 98 → s1.1 c = 0 := fun c a b d => by rw [e1, m_nu_cntO _ a, h0 c b d]
  obtain ⟨s2, r2, hx2, k2, p2, q2⟩ := hl_run (σ := s1) (h := 0) (by rw [c1]; decide)
  obtain ⟨s3, e3⟩ : ∃ s, s = m_set s2 11 0 0 (.inr (.inr (some (4, 0)))) := ⟨_, rfl⟩
  obtain ⟨s4, e4⟩ : ∃ s, s = m_nu s3 3 0 := ⟨_, rfl⟩
  have k3 : ∀ c, s3.1 c = s1.1 c + hl_n c := fun c => by rw [e3, m_set_1, k2]
  have n3 : s3.1 3 = 0 := by rw [k3, c1o 3 (by decide) (by decide) (by decide)]; rfl
  have k4 : ∀ c, c ≠ 3 → s4.1 c = s1.1 c + hl_n c := fun c a => by rw [e4, m_nu_cntO _ a, k3]
  obtain ⟨s5, r5, f5⟩ := er_50 (s0 := s4) (by rw [k4 13 (by decide), c1o 13 (by decide) (by decide) (by decide)]; rfl) (by rw [k4 5 (by decide), c1o 5 (by decide) (by decide) (by decide)]; rfl) (by rw [k4 9 (by decide), c1o 9 (by decide) (by decide) (by decide)]; rfl) (by rw [k4 19 (by decide), c1o 19 (by decide) (by decide) (by decide)]; rfl)
  obtain ⟨s6, e6⟩ : ∃ s, s = m_set s5 11 0 1 (.inr (.inr (some (3, 0)))) := ⟨_, rfl⟩
  have f5' := f5
  obtain ⟨⟨d1, d2⟩, _, _, _, _, _, dp, dl⟩ := f5'
  refine ⟨s6, ?_, ?_, ⟨?_, ?_, fun k hk => ?_⟩, ⟨?_, ?_, ?_⟩, s4, ?_, s5, f5, fun c j k hc => ?_, ?_⟩
  · refine er_go z123s_at (Nat.le_of_ble_eq_true rfl) ?_
    refine er_p rfl rfl rfl rfl ?_
    refine er_obj rfl rfl rfl (by decide) ?_
    show ER 123 z123s (4, [some (rf 11 0)], [], σ, 0, 0) _
    refine er_p rfl rfl rfl rfl ?_
    refine er_new rfl (by decide) ⟨by decide, by decide⟩ ?_
    rw [← e1]
    rw [n4]
    refine er_p rfl rfl rfl rfl ?_
    show ER 123 z123s (9, [some (rf 11 0)], [rf 4 0, rf 4 0, rf 11 0], s1, 1, 2) _
    refine er_spc (as := []) (v := none) rfl (by decide) rfl rfl rfl rfl ⟨Nat.le_of_ble_eq_true rfl, ⟨by decide, by decide⟩⟩ r2 ?_
    refine er_put rfl rfl rfl ?_
    refine er_st e3 ?_
    show ER 123 z123s (15, [some (rf 11 0)], [], s3, _, _) _
    refine er_p rfl rfl rfl rfl ?_
    refine er_new rfl (by decide) ⟨by decide, by decide⟩ ?_
    rw [← e4]
    rw [n3]
    refine er_p rfl rfl rfl rfl ?_
    show ER 123 z123s (20, [some (rf 11 0)], [rf 3 0, rf 3 0, rf 11 0], s4, _, _) _
    refine er_spc (as := []) (v := none) rfl (by decide) rfl rfl rfl rfl ⟨Nat.le_of_ble_eq_true rfl, ⟨by decide, by decide⟩⟩ r5 ?_
    refine er_put rfl rfl rfl ?_
    refine er_st e6 ?_
    show ER 123 z123s (26, [some (rf 11 0)], [], s6, _, _) _
    exact er_ret rfl (by decide) rfl
  · refine hxs_of hx2 (fun c hc h98 => ?_) (fun c j k a1 a2 a3 a4 a5 a6 _ => ?_) (fun c j a1 a2 a3 a4 a6 _ => ?_) ?_ ?_
    · show 0 = if c = 4 then 0 else s1.1 c
      by_cases z : c = 4
      · rw [if_pos z]
      · rw [if_neg z, c1o c z hc h98]
    · rw [e6, m_get_ne _ _ (fun z => a5 z.1), dp c j k a1 a2 a3 a4 a6, e4, m_nu_old _ (fun z => a1 z.1), e3, m_get_ne _ _ (fun z => a5 z.1)]
    · rw [e6, m_set_2, dl c j a2 a3 a4 a6, e4]
      rw [m_nu_len _ (fun y => a1 y.1), e3, m_set_2]
    · show (if (13 : Nat) = 4 then 0 else s1.1 13) = 0
      rw [if_neg (by decide), c1o 13 (by decide) (by decide) (by decide)]
    · show (if (14 : Nat) = 4 then 0 else s1.1 14) = 0
      rw [if_neg (by decide), c1o 14 (by decide) (by decide) (by decide)]
  · rw [e6, m_get_ne _ _ (fun z => by cases z.2.2), dp 11 0 0 (by decide) (by decide) (by decide) (by decide) (fun z => by cases z), e4, m_nu_old _ (fun z => by cases z.1), e3]
    exact m_get_eq _ rfl
  · rw [e6]
    exact m_get_eq _ rfl
  · rw [e6, m_get_ne _ _ (fun z => by omega), dp 11 0 k (by decide) (by decide) (by decide) (by decide) (fun z => by cases z), e4, m_nu_old _ (fun z => by cases z.1), e3, m_get_ne _ _ (fun z => by omega), p2 11 0 k (by rw [e1, m_nu_cntO _ (by decide), h11]; decide) (fun z => by cases z.1), e1, m_nu_old _ (fun z => by cases z.1)]
  · rw [e6, m_set_1, d1]
  · rw [e6, m_set_1, d2 14 (by decide) (by decide) (by decide) (by decide), k4 14 (by decide), c1o 14 (by decide) (by decide) (by decide)]
    rfl
  · rw [e6, m_set_1, d2 1 (by decide) (by decide) (by decide) (by decide), k4 1 (by decide), c1o 1 (by decide) (by decide) (by decide)]
    rfl
  · have q := m_nu_new s3 (c := 3) (n := 0) (k := 5)
    rw [n3] at q
    rw [e4]
    exact q
  · rw [e6, m_get_ne _ _ (fun z => hc z.1)]
  · rw [e6, m_set_2]
end NH0
