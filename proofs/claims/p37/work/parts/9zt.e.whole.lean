/-! main whole, as a run whose calls go by a function -/
def n_D1 : Nat → List mV → mS → Prop := fun j _ _ => j = 141
theorem n_ev_v {pc k n : Nat} {L : List (Option mV)} {st : List mV} {σ : mS} {i : Nat} {e : Nat × Nat × Nat × Int × List Nat} {p : Nat × Nat} {y : mMt} (hr : m_at ab_main.2.1 pc = some (.invokevirtual i, e)) (hy : m_mt[e.2.1]? = some y) (hp : p.1 = m_p (.invokevirtual i, e) 5) (ha : e.2.2.1 = 0) (hL : L.length = 18) (hm : (st.map m_cat).sum ≤ 8 ∧ m_rm ab_main.1.2.2.2.2.1 (k + y.2.2.2.2.1.cells) (n + y.2.2.2.2.1.slots)) : ev_st none ab_main (pc, L, .inr (.inr (some p)) :: st, σ, k, n) = some (.inr (.inr (e.2.1, y, [.inr (.inr (some p))], st))) := by
  unfold ev_st ev_nf
  dsimp only
  rw [hr]
  dsimp only
  refine ev_if_some.mpr ⟨hL, ?_⟩
  rw [hy]
  dsimp only
  unfold ev_callV
  dsimp only
  rw [ha]
  dsimp only [List.drop_zero, List.take_zero]
  refine ev_if_some.mpr ⟨⟨hp, rfl, hm.1, hm.2⟩, ?_⟩
  unfold m_take
  dsimp only
  rw [ha]
  obtain ⟨p1, p2⟩ := p
  have hp : p1 = m_p (.invokevirtual i, e) 5 := hp
  rw [← hp]
  rfl
section NZ
variable {C : ec_C} {σ0 σ00 : mS} {s0 : ev_T} {a7 a8 a9 a10 a11 a12 a13 a14 a15 a16 a17 : Option mV}
set_option maxRecDepth 100000 in
theorem n_st35 (h123 : ∀ avs σ x σ', C 123 avs σ = some (x, σ') → ev_run sm_all 123 avs σ x σ') (c0 : ∀ c, c ≠ 98 → σ00.1 c = 0) (r0 : ∀ c i k, m_r σ00 c i k = none) {σ' : mS} {b n : Nat} (hb : b ≤ 500) (hn : n ≤ 9000) (R : ∀ D : Nat → List mV → mS → Prop, (∀ avs σ, ¬ D 123 avs σ) → ∀ q, n_run (n_D C D) (35, [some (rf 98 0), some (rf 11 0), some (rf 13 14), some (rf 13 15), some (rf 13 16), some (rf 13 17), some (rf 14 6), a7, a8, a9, a10, a11, a12, a13, a14, a15, a16, a17], [], σ', b, n) q → n_run (n_D C D) (0, m_L0 18 [rf 98 0], [], σ00, 0, 0) q) : PB σ' ∧ hxs (fun _ => 0) σ' := by
  have q := n_cells
  have s1 : n_run (n_D C n_D1) (35, [some (rf 98 0), some (rf 11 0), some (rf 13 14), some (rf 13 15), some (rf 13 16), some (rf 13 17), some (rf 14 6), a7, a8, a9, a10, a11, a12, a13, a14, a15, a16, a17], [], σ', b, n) (.inr 7, σ') := by
    refine nf_p rfl rfl rfl rfl ?_
    show n_run _ (36, [some (rf 98 0), some (rf 11 0), some (rf 13 14), some (rf 13 15), some (rf 13 16), some (rf 13 17), some (rf 14 6), a7, a8, a9, a10, a11, a12, a13, a14, a15, a16, a17], [rf 11 0], σ', b, n) _
    have e1 := n_ev_v (pc := 36) (k := b) (n := n) (σ := σ') (L := [some (rf 98 0), some (rf 11 0), some (rf 13 14), some (rf 13 15), some (rf 13 16), some (rf 13 17), some (rf 14 6), a7, a8, a9, a10, a11, a12, a13, a14, a15, a16, a17]) (st := []) (p := (11, 0)) rfl rfl rfl rfl rfl ⟨by decide, (⟨by omega, by omega⟩ : m_rm ab_main.1.2.2.2.2.1 (b + 0) (n + 0))⟩
    exact ⟨1, ev_r_succ.mpr ⟨trivial, _, e1, .inr 7, σ', n_D_y (D := n_D1) rfl, n_rmq e1, rfl⟩⟩
  obtain ⟨f, r⟩ := R n_D1 (fun _ _ z => by cases z) _ s1
  obtain ⟨τ, nh, nd, f', h'⟩ := t0 (C := n_D C n_D1) (fun avs σ x σ' e => h123 avs σ x σ' ((n_D_n (D := n_D1) (fun z => by cases z)).symm.trans e)) c0 r0 ⟨0, 0, r⟩
  obtain ⟨f2, -, h2⟩ := ec_p h' rfl rfl rfl rfl
  replace h2 : EC (n_D C n_D1) f2 18 ab_main 36 [some (rf 98 0), some (rf 11 0), some (rf 13 14), some (rf 13 15), some (rf 13 16), some (rf 13 17), some (rf 14 6), none, none, none, none, none, none, none, none, none, none, none] [rf 11 0] (m_nu (m_nu (m_nu (m_nu (m_nu τ 13 60) 13 60) 13 12) 13 8) 14 1) (.inr 7, σ') := h2
  obtain ⟨x, σ1, e, g⟩ := ec_v (as := []) (p := (11, 0)) h2 rfl rfl rfl
  have e : n_D C n_D1 141 _ _ = some (x, σ1) := e
  rw [n_D_y (D := n_D1) rfl] at e
  cases e
  rcases g with ⟨v, ev, _⟩ | ⟨b', eb, eq⟩
  · cases ev
  · have es : σ' = m_nu (m_nu (m_nu (m_nu (m_nu τ 13 60) 13 60) 13 12) 13 8) 14 1 := congrArg Prod.snd eq
    obtain ⟨hp, hx, -⟩ := pb nh nd rfl rfl rfl rfl rfl
    rw [es]
    exact ⟨hp, hx⟩
/-- ahead of the loop, by computing -/
theorem n_seg49 (hF : n_F C σ0) {J : Nat → List (Option mV) → List mV → mS → Nat → Nat → Prop} (hJ : ev_cl n_G (n_CC C σ0) 18 ab_main none (fun _ _ => True) J) {Lc : List (Option mV)} {σ : mS} {b n : Nat} (hin : v_In (ac_K0, n_WX) σ 18 n_T49 Lc σ) (hc8 : σ.1 1 + 8 ≤ 512) (hb : b + 400 ≤ ab_main.1.2.2.2.2.1.cells) (hn : n + 3600 ≤ ab_main.1.2.2.2.2.1.slots) (hto : ∀ Lc' σ' b' n', v_In (ac_K0, n_WX) σ 18 n_T162 Lc' σ' → σ'.1 1 ≤ σ.1 1 → b' ≤ b + 400 → n' ≤ n + 3600 → J 162 Lc' [] σ' b' n') : J 49 Lc [] σ b n := by
  have hck := n_k49
  unfold n_ck0 at hck
  cases hs : v_seg n_gd (ac_K0, n_WX) (n_SP (ac_K0, n_WX)) n_LP n_PL (n_cut [(n_T162, 0, 0)]) 18 (ac_zR ab_main 400 3600) (some 8) n_T49 [] with
  | none => rw [hs] at hck; cases hck
  | some outs =>
  rw [hs] at hck
  dsimp only at hck
  have hJ' := v_clS (c := 400) (s := 3600) (kb := b) (nb := n) n_CCm (fun pc L st σ k n' h => n_hG _ _ _ _ _ _ _ _ _ _ _ _ h) rfl hJ hb hn
  refine v_seg_ok (co := some 8) n_rule (n_gd_ok _) (n_SP_ok hF) hs hJ' hin hc8 (fun _ _ _ _ o ho => by cases ho) (fun ν1 av1 c1 v1 e1 k1 o ho => ?_)
  have hb' := List.all_eq_true.mp hck o ho
  cases o with
  | inl e => exact fun _ _ _ _ _ _ => trivial
  | inr S =>
    intro ν' Lc' sc' σ' u2 hL2 hs2 hp2
    have hb' : (v_room 400 3600 S && v_fit (some 8) 0 n_T162 18 S) = true := hb'
    rw [Bool.and_eq_true] at hb'
    obtain ⟨q3, q1⟩ := hb'
    obtain ⟨f1, f2, f3, f4⟩ := v_fit_ok (c := σ.1 1) q1 u2.1 hL2 hs2 hp2 (fun d hd => by
      obtain ⟨b1, b2⟩ := k1 d hd
      exact ⟨Nat.lt_of_lt_of_le b1 u2.2.2, (u2.2.1 1 b1).trans b2⟩)
    unfold v_room at q3
    rw [Bool.and_eq_true, Nat.ble_eq, Nat.ble_eq] at q3
    rw [f1, f2]
    exact hto Lc' σ' _ _ f3 f4 (by omega) (by omega)
set_option maxRecDepth 100000 in
theorem n_c35 (hF : n_F C σ0) (h7 : n_F7 C σ0) {σ : mS} {b n : Nat} (hp : PB σ) (hKK : ac_KK ac_K0 σ) (c1 : σ.1 1 = 0) (hb : b ≤ 500) (hn : n ≤ 9000) (h162 : ∀ m, m ≤ 62 → n_Cl C σ0 s0 n_T162 m (2 * m) 0 0) : n_J C σ0 s0 35 [some (rf 98 0), some (rf 11 0), some (rf 13 14), some (rf 13 15), some (rf 13 16), some (rf 13 17), some (rf 14 6), a7, a8, a9, a10, a11, a12, a13, a14, a15, a16, a17] [] σ b n := by
  have hJ := n_J_cl (C := C) (σ0 := σ0) (s0 := s0)
  have q := n_cells
  refine nj_p hJ ⟨rfl, Or.inl rfl⟩ rfl rfl rfl rfl ?_
  show n_J C σ0 s0 36 [some (rf 98 0), some (rf 11 0), some (rf 13 14), some (rf 13 15), some (rf 13 16), some (rf 13 17), some (rf 14 6), a7, a8, a9, a10, a11, a12, a13, a14, a15, a16, a17] [rf 11 0] σ b n
  refine nj_v hJ (p := (11, 0)) (st := []) ⟨rfl, Or.inl rfl⟩ rfl rfl rfl rfl rfl ⟨by decide, ?_⟩ ?_ n_CCm
  · show m_rm _ (b + 0) (n + 0)
    exact ⟨by omega, by omega⟩
  intro hI
  obtain ⟨x, σ', r, i, kk, fr, cnt, res⟩ := v_oa (σ0 := σ0) (141, [(2, 11, 0, 0, 1, 1)], [], some (some (0, 0, 0, 200, 0, 0)), [], [], none) (List.mem_of_getElem? (i := 15) rfl) [rf 11 0] σ (And.intro ⟨rfl, rfl, rfl, by decide, by decide⟩ trivial) hKK trivial (fun x σ' => ac_KK ac_K0 σ' ∧ ac_fr [] σ σ' ∧ σ'.1 1 = σ.1 1 ∧ ac_res (141, [(2, 11, 0, 0, 1, 1)], [], some (some (0, 0, 0, 200, 0, 0)), [], [], none) [rf 11 0] x σ') (fun x σ' a b c d => ⟨a, b, c, d⟩) hI
  have es : σ = σ' := (ro2_run rfl r).symm
  subst es
  refine ⟨x, σ, hF.1 141 _ _ _ _ (by decide) (by decide) r, hI, fun v ev => ?_⟩
  subst ev
  obtain ⟨⟨T, t1, t2⟩, -⟩ := res
  cases t1
  cases v with
  | none => exact t2.elim
  | some v =>
  obtain ⟨w, rfl, -, -⟩ := v_Ti t2
  have p4 := x141 hp.1.1.1 r
  show n_J C σ0 s0 39 [some (rf 98 0), some (rf 11 0), some (rf 13 14), some (rf 13 15), some (rf 13 16), some (rf 13 17), some (rf 14 6), a7, a8, a9, a10, a11, a12, a13, a14, a15, a16, a17] [.inl w] σ b n
  refine nj_c hJ ⟨rfl, Or.inl rfl⟩ rfl rfl rfl (fun hp5 => ?_) (fun _ => ?_)
  · refine absurd ?_ (ic_ne.mp hp5)
    rw [p4.1]
    exact hp.2.1
  show n_J C σ0 s0 42 [some (rf 98 0), some (rf 11 0), some (rf 13 14), some (rf 13 15), some (rf 13 16), some (rf 13 17), some (rf 14 6), a7, a8, a9, a10, a11, a12, a13, a14, a15, a16, a17] [] σ b n
  refine nj_p hJ ⟨rfl, Or.inl rfl⟩ rfl rfl rfl rfl ?_
  show n_J C σ0 s0 43 [some (rf 98 0), some (rf 11 0), some (rf 13 14), some (rf 13 15), some (rf 13 16), some (rf 13 17), some (rf 14 6), a7, a8, a9, a10, a11, a12, a13, a14, a15, a16, a17] [rf 11 0] σ b n
  refine nj_v hJ (p := (11, 0)) (st := []) ⟨rfl, Or.inl rfl⟩ rfl rfl rfl rfl rfl ⟨by decide, ?_⟩ ?_ n_CCm
  · show m_rm _ (b + 347) (n + 4031)
    exact ⟨by omega, by omega⟩
  intro hI
  obtain ⟨σ2, d1, d2, d3, d4⟩ := h7 σ hKK hI
  refine ⟨_, _, d1, d2, fun v ev => ?_⟩
  cases ev
  show n_J C σ0 s0 46 [some (rf 98 0), some (rf 11 0), some (rf 13 14), some (rf 13 15), some (rf 13 16), some (rf 13 17), some (rf 14 6), a7, a8, a9, a10, a11, a12, a13, a14, a15, a16, a17] [.inl 1] σ2 (b + 347) (n + 4031)
  refine nj_c hJ ⟨rfl, Or.inl rfl⟩ rfl rfl rfl (fun z => absurd (ic_eq.mp z) (by decide)) (fun _ => ?_)
  show n_J C σ0 s0 49 [some (rf 98 0), some (rf 11 0), some (rf 13 14), some (rf 13 15), some (rf 13 16), some (rf 13 17), some (rf 14 6), a7, a8, a9, a10, a11, a12, a13, a14, a15, a16, a17] [] σ2 (b + 347) (n + 4031)
  refine n_seg49 hF hJ ⟨rfl, fun q hq => ?_, d3, ac_fr.rf⟩ (by omega) (by omega) (by omega) (fun Lc' σ3 b' n' hin' hc' hb' hn' => ?_)
  · unfold n_T49 at hq
    rcases List.mem_cons.mp hq with rfl | hq
    · exact ⟨_, rfl, rfl, rfl, rfl, by decide, by decide⟩
    rcases List.mem_cons.mp hq with rfl | hq
    · exact ⟨_, rfl, rfl, rfl, rfl, by decide, by decide⟩
    rcases List.mem_cons.mp hq with rfl | hq
    · exact ⟨_, rfl, rfl, rfl, rfl, by decide, by decide⟩
    rcases List.mem_cons.mp hq with rfl | hq
    · exact ⟨_, rfl, rfl, rfl, rfl, by decide, by decide⟩
    rcases List.mem_cons.mp hq with rfl | hq
    · exact ⟨_, rfl, rfl, rfl, rfl, by decide, by decide⟩
    rcases List.mem_cons.mp hq with rfl | hq
    · exact ⟨_, rfl, rfl, rfl, rfl, by decide, by decide⟩
    rcases List.mem_cons.mp hq with rfl | hq
    · exact ⟨_, rfl, rfl, rfl, rfl, by decide, by decide⟩
    cases hq
  · obtain ⟨x8, e8, t8⟩ := hin'.2.1 (8, (0, 0, 0, 62, 0, 0)) (by decide)
    obtain ⟨y8, rfl, y1, y2⟩ := v_Ti t8
    have e1 : n_bk y8.toInt.toNat = 2000 + 3000 * y8.toInt.toNat := rfl
    have e2 : n_bn y8.toInt.toNat = 30000 + 27000 * y8.toInt.toNat := rfl
    exact h162 y8.toInt.toNat (by omega) Lc' σ3 b' n' y8 ⟨hin'.1, hin'.2.1, hin'.2.2.1, ac_fr.rf⟩ e8 (by omega) (by omega) (by omega) (by omega)
theorem n_DF : n_D C (fun _ _ _ => False) = C := by
  funext j avs σ
  exact n_D_n (fun z => z)
theorem n_Cf_K0 {len : Nat} {fc : Nat → Int32} (hlen : len < 2147483648) : CK (n_Cf (some (len, fc))) := by
  refine ⟨fun j avs σ x σ' hj h => ?_, fun k n σ x σ' h hn => ?_, fun avs σ x σ' h => ?_⟩
  · rcases n_Cf_R h with ⟨e, _⟩ | ⟨e, r, _⟩ | ⟨_, _, r⟩
    · exact absurd e hj
    · rw [e]; exact r
    · exact r
  · rcases n_Cf_R h with ⟨_, ⟨k', n', e, hk, _⟩, r⟩ | ⟨e, _⟩ | ⟨e, _⟩
    · injection e with _ e
      injection e with e1 e
      injection e with e2 _
      injection e1 with e1
      injection e2 with e2
      subst e1; subst e2
      obtain ⟨v, r2, b⟩ := n_part_run (fc := fc) (C := fun _ _ _ => none) (σ := σ) hlen hk hn
      have := gx_uni r r2
      cases this
      exact Or.inl ⟨v, rfl, b, rfl⟩
    · cases e
    · exact absurd rfl e
  · rcases n_Cf_R h with ⟨e, _⟩ | ⟨_, _, ⟨v, ev, hv⟩, hs⟩ | ⟨_, e, _⟩
    · cases e
    · exact ⟨v, ev, hv, hs⟩
    · exact absurd rfl e
/-- no run of main ends as a stop does -/
theorem th_main : ab_main.2.1.all (fun q => !(th_in q.2)) = true := by decide +kernel
theorem n_no7 {len : Nat} {fc : Nat → Int32} (hlen : len < 2147483648) {s : ev_T} {q : mX × mS} (h : n_run (n_Cf (some (len, fc))) s q) : q.1 ≠ .inr 7 := by
  obtain ⟨f, h⟩ := h
  obtain ⟨x, σ'⟩ := q
  have row : ∀ (s : ev_T) (o : ev_O), ev_st none ab_main s = some o → ∃ r, th_o r o := by
    intro s o ho
    cases hr : m_at ab_main.2.1 s.1 with
    | none =>
      unfold ev_st ev_nf at ho
      rw [hr] at ho
      cases ho
    | some r =>
      have g := List.all_eq_true.mp th_main _ (m_at_mem hr)
      exact ⟨r, th_step hr (by simpa using g) ho⟩
  refine ev_inv (I := fun _ => True) (Po := fun x _ => x ≠ .inr 7) (fun _ _ _ _ => trivial) (fun s e _ ho => ?_) (fun s c y τ _ ho hc => ?_) f _ x σ' trivial h
  · obtain ⟨r, g⟩ := row s _ ho
    exact g
  · cases y with
    | inl v => trivial
    | inr b =>
      show Sum.inr b ≠ .inr 7
      rcases n_Cf_R hc with ⟨_, ⟨k, n, ea, hk, hn⟩, r⟩ | ⟨_, _, ⟨v, ev, _⟩, _⟩ | ⟨_, _, r⟩
      · rw [ea] at r
        obtain ⟨v, r2, -⟩ := n_part_run (fc := fc) (C := fun _ _ _ => none) (σ := s.2.2.2.1) hlen hk hn
        have := gx_uni r r2
        cases this
      · cases ev
      · exact th_run r
/-- the law's own run: it is there, and answers yes -/
theorem n_whole {len : Nat} {fc : Nat → Int32} (hlen : len < 2147483648) (c0 : ∀ c, c ≠ 98 → σ00.1 c = 0) (r0 : ∀ c i k, m_r σ00 c i k = none) (h : ab_hp 1 (fun _ => 0) ac_H0 σ00) : ∃ w σ', n_run (n_Cf (some (len, fc))) (0, m_L0 18 [rf 98 0], [], σ00, 0, 0) (w, σ') ∧ OKw w := by
  have hF := fun σx => n_Cf_F (fc := fc) hlen σx
  obtain ⟨Lc, σ', b, n, ⟨⟨a7, a8, a9, a10, a11, a12, a13, a14, a15, a16, a17, eL⟩, hG, hb, hn⟩, R⟩ := n_first (hF σ00) h
  subst eL
  obtain ⟨hp, hx⟩ := n_st35 (fun avs σ x σ' h => (n_Cf_K0 (fc := fc) hlen).1 123 avs σ x σ' (by decide) h) c0 r0 hb hn R
  have hiv := n_iv hG hx
  have h7 := n_Cf_7 (xs := some (len, fc)) hx hG.2.2.1
  have h162 : ∀ m, m ≤ 62 → n_Cl (n_Cf (some (len, fc))) σ' (n_s0 σ00) n_T162 m (2 * m) 0 0 := fun m hm => n_all162 (hF σ') h7 (n_Cf_K hlen) c0 r0 (62 - m) m (by omega)
  obtain ⟨q, hq⟩ := n_c35 (hF σ') h7 hp hG.1 hG.2.2.1 hb hn h162 hiv (fun D h3 q h => ⟨q, R D h3 q h, Or.inl rfl⟩)
  have hr := R (fun _ _ _ => False) (fun _ _ z => z) q (by rw [n_DF]; exact hq)
  rw [n_DF] at hr
  obtain ⟨w, σ2⟩ := q
  refine ⟨w, σ2, hr, ?_⟩
  have h7' := n_no7 hlen hr
  obtain ⟨f, hr⟩ := hr
  rcases b_allx (n_Cf_K0 hlen) c0 r0 (f := f) ⟨0, 0, hr⟩ with g | g
  · exact g
  · exact absurd g h7'
end NZ
