/-! the replay, and main's places forwards -/
theorem hy_fo {σ τ : mS} (h : hy (fun _ => 0) σ) (hl : ∀ c i, 13 ≤ c → fo c i → τ.2.1 c i = σ.2.1 c i) (hf : ∀ c i k, fo c i → ¬ (c = 11 ∧ k = 2) → m_get τ c i k = m_get σ c i k) : hy (fun _ => 0) τ := by
  have lo : ∀ {c i}, i < sm_off c → fo c i := fun h => Or.inl h
  have f : ∀ {c i k v}, m_get σ c i k = v → i < sm_off c → c ≠ 11 → m_get τ c i k = v := fun e hi hc => (hf _ _ _ (lo hi) (fun z => hc z.1)).trans e
  have g : ∀ {c i n}, σ.2.1 c i = n → 13 ≤ c → i < sm_off c → τ.2.1 c i = n := fun e hc hi => (hl _ _ hc (lo hi)).trans e
  obtain ⟨⟨a1, a2⟩, a3, a4, ⟨a5, a6⟩, a7, ⟨b0, b1, b2, b3, b4⟩, b5, b6, b7, b8, b9, ⟨l1, l2, l3, l4, l5, l6⟩⟩ := h
  refine ⟨⟨f a1 (by decide) (by decide), fun k hk => f (a2 k hk) (by decide) (by decide)⟩, g a3 (by decide) (by decide), fun k hk => ⟨f (a4 k hk).1 (by decide) (by decide), f (a4 k hk).2 (by show 0 + k < 120; omega) (by decide)⟩, ⟨f a5 (by decide) (by decide), f a6 (by decide) (by decide)⟩, fun k hk => f (a7 k hk) (by decide) (by decide), ⟨f b0 (by decide) (by decide), f b1 (by decide) (by decide), f b2 (by decide) (by decide), f b3 (by decide) (by decide), f b4 (by decide) (by decide)⟩, fun m hm => ⟨f (b5 m hm).1 (by show 0 + m < 6; omega) (by decide), f (b5 m hm).2.1 (by show 0 + m < 6; omega) (by decide), fun k hk => f ((b5 m hm).2.2 k hk) (by show 0 + m < 6; omega) (by decide)⟩, fun k hk => f (b6 k hk) (by decide) (by decide), fun k hk => ⟨f (b7 k hk).1 (by decide) (by decide), f (b7 k hk).2.1 (by show 0 + k < 3; omega) (by decide), fun j hj => f ((b7 k hk).2.2 j hj) (by show 0 + k < 3; omega) (by decide)⟩, fun k hk => f (b8 k hk) (by decide) (by decide), fun k hk => f (b9 k hk) (by decide) (by decide), ⟨g l1 (by decide) (by decide), g l2 (by decide) (by decide), g l3 (by decide) (by decide), g l4 (by decide) (by decide), fun k hk => g (l5 k hk) (by decide) (by show 0 + k < 18; omega), fun m hm => g (l6 m hm) (by decide) (by show 0 + m < 7; omega)⟩⟩
/-- the replay answers yes, and what is held stays -/
theorem iv_replay {σ0 σ : mS} (hx0 : hxs (fun _ => 0) σ0) (h10 : σ0.1 1 = 0) (hK : ac_KK ac_K0 σ) (hI : iv σ0 σ) : ∃ σ', ev_run sm_all 157 [rf 11 0] σ (.inl (some (.inl 1))) σ' ∧ iv σ0 σ' ∧ ac_KK ac_K0 σ' ∧ σ'.1 1 = σ.1 1 ∧ (∀ c i, 13 ≤ c → fo c i → σ'.2.1 c i = σ.2.1 c i) ∧ ∀ c i k, fo c i → ¬ (c = 11 ∧ k = 2) → m_get σ' c i k = m_get σ c i k := by
  obtain ⟨⟨m, m1, m2⟩, t, Y⟩ := hI
  obtain ⟨σ', r, k1, k2, k3, k4, k5⟩ := rp_run hx0 h10 hK m2
  exact ⟨σ', r, ⟨⟨m, by rw [k3]; exact m1, k1⟩, fun p hp => (k5 8 p 7 (Or.inl (by show p < 3; exact hp)) (fun z => by cases z.1)).trans (t p hp), hy_fo Y k4 k5⟩, k2, k3, k4, k5⟩
theorem lm_fo {c j : Nat} (h : j < lm c) : fo c j := by
  unfold lm at h
  split at h
  all_goals first
    | (exact Or.inl (by first | exact h | exact Nat.lt_of_lt_of_le h (by decide)))
    | (exact Or.inr (Or.inl (by decide)))
    | (exact Or.inr (Or.inr (Or.inr ⟨rfl, h⟩)))
    | omega
theorem sF_fo {σ σ' : mS} (hl : ∀ c i, 13 ≤ c → fo c i → σ'.2.1 c i = σ.2.1 c i) (hf : ∀ c i k, fo c i → ¬ (c = 11 ∧ k = 2) → m_get σ' c i k = m_get σ c i k) : sF σ σ' := ⟨fun c j k h => hf c j k (lm_fo h), fun c j h13 h => hl c j h13 (lm_fo h)⟩
theorem ls18 {L : List (Option mV)} (h : L.length = 18) : ∃ a0 a1 a2 a3 a4 a5 a6 a7 a8 a9 a10 a11 a12 a13 a14 a15 a16 a17, L = [a0, a1, a2, a3, a4, a5, a6, a7, a8, a9, a10, a11, a12, a13, a14, a15, a16, a17] := match L, h with
  | [a0, a1, a2, a3, a4, a5, a6, a7, a8, a9, a10, a11, a12, a13, a14, a15, a16, a17], _ => ⟨a0, a1, a2, a3, a4, a5, a6, a7, a8, a9, a10, a11, a12, a13, a14, a15, a16, a17, rfl⟩
theorem n_rf {c i : Nat} {x : mV} (h : ab_Tr (2, c, (i : Int), (i : Int), 1, 1) x) : x = rf c i := by
  rcases x with y | y | _ | ⟨q1, q2⟩
  · cases h.1
  · cases h.1
  · cases h.2
  · obtain ⟨-, -, a3, a4, a5⟩ := h
    have a3 : q1 = c := a3
    have a4 : (i : Int) ≤ (q2 : Int) := a4
    have a5 : (q2 : Int) ≤ (i : Int) := a5
    have : q2 = i := by omega
    subst a3; subst this
    rfl
section NM
variable {C : ec_C} {σ0 : mS} {s0 : ev_T}
def n_J (C : ec_C) (σ0 : mS) (s0 : ev_T) : Nat → List (Option mV) → List mV → mS → Nat → Nat → Prop := g_J (iv σ0) (n_RJ C s0)
theorem n_J_cl : ev_cl n_G (n_CC C σ0) 18 ab_main none (fun _ _ => True) (n_J C σ0 s0) := v_cl (Gd := n_G) (fun xs j z s o hG ho hI => lw_st σ0 xs j z s o hG.2 ho hI) n_C0m (fun j avs σ Q hI h => by
  obtain ⟨x, σ', r, i, q⟩ := h hI
  exact ⟨x, σ', r, i, q⟩) (fun _ _ _ _ => trivial) (fun _ _ _ _ => trivial) n_RJ_cl
def n_J2 (C : ec_C) (σ0 : mS) (s0 : ev_T) (τ : mS) : Nat → List (Option mV) → List mV → mS → Nat → Nat → Prop := g_J (fun σ => σ = τ) (n_J C σ0 s0)
theorem n_st2 {τ : mS} : g_st n_G2 (fun σ => σ = τ) := by
  intro xs j z s o hG ho hI
  obtain ⟨-, hw⟩ := hG
  cases hr : m_at z.2.1 s.1 with
  | none =>
    unfold ev_st ev_nf at ho
    rw [hr] at ho
    cases ho
  | some r =>
    rw [hr] at hw
    have hw : tr_w r = false := hw
    have hI : s.2.2.2.1 = τ := hI
    have g := tr_same hr hw ho
    rcases o with s' | e | c
    · exact (show s'.2.2.2.1 = s.2.2.2.1 from g).trans hI
    · exact (show e.2 = s.2.2.2.1 from g).trans hI
    · trivial
theorem n_J2_cl {τ : mS} : ev_cl n_G2 (n_CC2 C τ) 18 ab_main none (fun _ _ => True) (n_J2 C σ0 s0 τ) := v_cl (CC := n_CC C σ0) (Gd' := n_G) n_st2 n_CCm (fun j avs σ Q hI h => by
  obtain ⟨x, r, q⟩ := h hI
  exact fun hiv => ⟨x, σ, r, hiv, hI, q⟩) (fun _ _ _ h => h.1) (fun _ _ _ _ => trivial) n_J_cl
section NJ
variable {CC : Nat → List mV → mS → (mX → mS → Prop) → Prop} {Gd : ev_G} {J : Nat → List (Option mV) → List mV → mS → Nat → Nat → Prop} {Q : mX → mS → Prop} {pc k n : Nat} {L : List (Option mV)} {st : List mV} {σ : mS} {r : mRow}
theorem nj_p (hJ : ev_cl Gd CC 18 ab_main none Q J) (hG : Gd 18 ab_main (pc, L, st, σ, k, n)) (hr : m_at ab_main.2.1 pc = some r) (hb : er_bareI r.1 = true) (hc : m_cond r st = none) {pc' : Nat} {L' : List (Option mV)} {st' : List mV} (hp : m_pure r pc L st = some (pc', L', st')) (K : J pc' L' st' σ k n) : J pc L st σ k n := by
  refine hJ _ _ _ _ _ _ hG (ev_nf_ok.mpr ⟨.inl (pc', L', st', σ, k, n), ?_, K⟩)
  show ev_st none ab_main (pc, L, st, σ, k, n) = _
  rw [er_bare hr hb]
  unfold ev_bare
  rw [hc, hp]
theorem nj_c (hJ : ev_cl Gd CC 18 ab_main none Q J) (hG : Gd 18 ab_main (pc, L, st, σ, k, n)) (hr : m_at ab_main.2.1 pc = some r) (hb : er_bareI r.1 = true) {P : Prop} {st' : List mV} (hc : m_cond r st = some (P, st')) (K1 : P → J r.2.2.1 L st' σ k n) (K2 : ¬ P → J (pc + 3) L st' σ k n) : J pc L st σ k n := by
  by_cases hP : P
  · refine hJ _ _ _ _ _ _ hG (ev_nf_ok.mpr ⟨.inl (r.2.2.1, L, st', σ, k, n), ?_, K1 hP⟩)
    show ev_st none ab_main (pc, L, st, σ, k, n) = _
    rw [er_bare hr hb]
    unfold ev_bare
    rw [hc]
    dsimp only
    rw [if_pos hP]
  · refine hJ _ _ _ _ _ _ hG (ev_nf_ok.mpr ⟨.inl (pc + 3, L, st', σ, k, n), ?_, K2 hP⟩)
    show ev_st none ab_main (pc, L, st, σ, k, n) = _
    rw [er_bare hr hb]
    unfold ev_bare
    rw [hc]
    dsimp only
    rw [if_neg hP]
theorem nj_ir (hJ : ev_cl Gd CC 18 ab_main none (fun _ _ => True) J) {e : Nat × Nat × Nat × Int × List Nat} {v : Int32} (hG : Gd 18 ab_main (pc, L, [.inl v], σ, k, n)) (hr : m_at ab_main.2.1 pc = some (.ireturn, e)) (hk : m_rm ab_main.1.2.2.2.2.1 k n) (hv : v = 0 ∨ v = 1) : J pc L [.inl v] σ k n := by
  refine hJ _ _ _ _ _ _ hG (ev_nf_ok.mpr ⟨.inr (.inl (.inl (some (.inl v)), σ)), ?_, trivial⟩)
  show ev_st none ab_main (pc, L, [.inl v], σ, k, n) = _
  unfold ev_st ev_nf
  dsimp only
  rw [hr]
  refine ev_if_some.mpr ⟨hk, ?_⟩
  show ev_ny σ (ev_iret (some .boolean) [.inl v]) = _
  have : ev_iret (some .boolean) [.inl v] = some (some (.inl v)) := ev_if_some.mpr ⟨Or.inr ⟨rfl, hv⟩, rfl⟩
  rw [this]
  rfl
/-- a call of a method of an object, without arguments -/
theorem nj_v (hJ : ev_cl Gd CC 18 ab_main none (fun _ _ => True) J) {i : Nat} {e : Nat × Nat × Nat × Int × List Nat} {p : Nat × Nat} {y : mMt} (hG : Gd 18 ab_main (pc, L, .inr (.inr (some p)) :: st, σ, k, n)) (hr : m_at ab_main.2.1 pc = some (.invokevirtual i, e)) (hy : m_mt[e.2.1]? = some y) (hp : p.1 = m_p (.invokevirtual i, e) 5) (ha : e.2.2.1 = 0) (hL : L.length = 18) (hm : (st.map m_cat).sum ≤ 8 ∧ m_rm ab_main.1.2.2.2.2.1 (k + y.2.2.2.2.1.cells) (n + y.2.2.2.2.1.slots)) (K : CC e.2.1 [.inr (.inr (some p))] σ (fun x σ' => ∀ v, x = .inl v → J (pc + 3) L (v.toList ++ st) σ' (k + y.2.2.2.2.1.cells) (n + y.2.2.2.2.1.slots))) (hCC : ac_CCm CC) : J pc L (.inr (.inr (some p)) :: st) σ k n := by
  refine hJ _ _ _ _ _ _ hG (ev_nf_ok.mpr ⟨.inr (.inr (e.2.1, y, [.inr (.inr (some p))], st)), ?_, ?_⟩)
  · show ev_st none ab_main (pc, L, .inr (.inr (some p)) :: st, σ, k, n) = _
    unfold ev_st ev_nf
    dsimp only
    rw [hr]
    dsimp only
    refine ev_if_some.mpr ⟨hL, ?_⟩
    rw [hy]
    dsimp only
    unfold ev_callV
    dsimp only
    rw [ha]
    dsimp only [List.drop_zero, List.take_zero]
    refine ev_if_some.mpr ⟨⟨hp, rfl, hm.1, hm.2⟩, ?_⟩
    unfold m_take
    dsimp only
    rw [ha]
    obtain ⟨p1, p2⟩ := p
    have hp : p1 = m_p (.invokevirtual i, e) 5 := hp
    rw [← hp]
    rfl
  · refine hCC _ _ _ _ _ (fun x σ' hx => ?_) K
    cases x with
    | inl v => exact hx v rfl
    | inr b => exact ⟨hm.2.1, hm.2.2, trivial⟩
end NJ
/-- replays, as main's runs have them -/
def n_F7 (C : ec_C) (σ0 : mS) : Prop := ∀ σ, ac_KK ac_K0 σ → iv σ0 σ → ∃ σ', C 157 [rf 11 0] σ = some (.inl (some (.inl 1)), σ') ∧ iv σ0 σ' ∧ ac_KK ac_K0 σ' ∧ σ'.1 1 = σ.1 1
theorem n_In_sub {kp : ac_Kp} {σ1 σ2 σ : mS} {T T' : v_Tm} {Lc : List (Option mV)} (h : v_In kp σ1 18 T Lc σ) (hs : ∀ b ∈ T'.2, b ∈ T.2) (hf : ac_fr kp.2 σ2 σ) : v_In kp σ2 18 T' Lc σ := ⟨h.1, fun b hb => h.2.1 b (hs b hb), h.2.2.1, hf⟩
set_option maxRecDepth 100000 in
theorem n_c1091 (hF : n_F C σ0) (h7 : n_F7 C σ0) {σ1 σ : mS} {Lc : List (Option mV)} {b n : Nat} {y : Int32} (hin : v_In (ac_K0, n_WX) σ1 18 n_T1091 Lc σ) (hy : m_ld Lc 8 = some (.inl y)) (hc8 : σ.1 1 + 8 ≤ 512) (hb : b ≤ 300000) (hn : n ≤ 3000000) : n_J C σ0 s0 1091 Lc [] σ b n := by
  have hJ := n_J_cl (C := C) (σ0 := σ0) (s0 := s0)
  have hcl : ab_main.1.2.2.2.2.1.cells ≥ 400000 ∧ ab_main.1.2.2.2.2.1.slots ≥ 5000000 := ⟨by decide, by decide⟩
  obtain ⟨a0, a1, a2, a3, a4, a5, a6, a7, a8, a9, a10, a11, a12, a13, a14, a15, a16, a17, eL⟩ := ls18 hin.1
  obtain ⟨x7, e7, t7⟩ := hin.2.1 (7, (0, 0, 0, 1, 0, 0)) (by decide)
  obtain ⟨y7, rfl, -, -⟩ := v_Ti t7
  obtain ⟨x1, e1, t1⟩ := hin.2.1 (1, (2, 11, 0, 0, 1, 1)) (by decide)
  have t1 := n_rf (c := 11) (i := 0) t1
  subst t1
  have hin' := hin
  subst eL
  obtain rfl := m_ld_o (o := a7) rfl e7
  obtain rfl := m_ld_o (o := a1) rfl e1
  refine nj_p hJ ⟨rfl, Or.inl rfl⟩ rfl rfl rfl rfl ?_
  show n_J C σ0 s0 1093 [a0, some (rf 11 0), a2, a3, a4, a5, a6, some (.inl y7), a8, a9, a10, a11, a12, a13, a14, a15, a16, a17] [.inl y7] σ b n
  refine nj_c hJ ⟨rfl, Or.inl rfl⟩ rfl rfl rfl (fun _ => ?_) (fun _ => ?_)
  · show n_J C σ0 s0 1127 [a0, some (rf 11 0), a2, a3, a4, a5, a6, some (.inl y7), a8, a9, a10, a11, a12, a13, a14, a15, a16, a17] [] σ b n
    refine nj_p hJ ⟨rfl, Or.inl rfl⟩ rfl rfl rfl rfl ?_
    show n_J C σ0 s0 1128 [a0, some (rf 11 0), a2, a3, a4, a5, a6, some (.inl y7), a8, a9, a10, a11, a12, a13, a14, a15, a16, a17] [.inl (Int32.ofInt 0)] σ b n
    exact nj_ir hJ ⟨rfl, Or.inl rfl⟩ rfl ⟨by omega, by omega⟩ (Or.inl rfl)
  · show n_J C σ0 s0 1096 [a0, some (rf 11 0), a2, a3, a4, a5, a6, some (.inl y7), a8, a9, a10, a11, a12, a13, a14, a15, a16, a17] [] σ b n
    refine nj_p hJ ⟨rfl, Or.inl rfl⟩ rfl rfl rfl rfl ?_
    show n_J C σ0 s0 1097 [a0, some (rf 11 0), a2, a3, a4, a5, a6, some (.inl y7), a8, a9, a10, a11, a12, a13, a14, a15, a16, a17] [rf 11 0] σ b n
    refine nj_v hJ (p := (11, 0)) (st := []) ⟨rfl, Or.inl rfl⟩ rfl rfl rfl rfl rfl ⟨by decide, ?_⟩ ?_ n_CCm
    · show m_rm _ (b + 347) (n + 4031)
      exact ⟨by omega, by omega⟩
    intro hI
    obtain ⟨σ', c1, c2, c3, c4⟩ := h7 σ hin.2.2.1 hI
    refine ⟨_, _, c1, c2, fun v ev => ?_⟩
    cases ev
    show n_J C σ0 s0 1100 [a0, some (rf 11 0), a2, a3, a4, a5, a6, some (.inl y7), a8, a9, a10, a11, a12, a13, a14, a15, a16, a17] [.inl 1] σ' (b + 347) (n + 4031)
    refine nj_c hJ ⟨rfl, Or.inl rfl⟩ rfl rfl rfl (fun z => absurd (ic_eq.mp z) (by decide)) (fun _ => ?_)
    refine n_seg n_rule n_CCm n_gd_ok n_hG (n_SP_ok hF) n_k1103 rfl hJ (T := n_T1103) (y := y) (σ := σ') ⟨rfl, fun q hq => hin'.2.1 q ?_, c3, ac_fr.rf⟩ hy (by omega) (fun _ _ _ _ o ho => by cases ho) (by omega) (by omega) (fun q hq => by cases hq)
    have hs : ∀ q ∈ n_T1103.2, q ∈ n_T1091.2 := by decide
    exact hs q hq
end NM
