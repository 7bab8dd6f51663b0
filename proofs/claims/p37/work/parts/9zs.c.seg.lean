/-! main's stretches over runs of main whose calls go by a function -/
theorem n_18 : m_alF.all (fun z => !(Nat.beq z.1.2.2.1 18)) = true := by decide +kernel
def n_CC (C : ec_C) (σ0 : mS) (j : Nat) (avs : List mV) (σ : mS) (Q : mX → mS → Prop) : Prop := iv σ0 σ → ∃ x σ', C j avs σ = some (x, σ') ∧ iv σ0 σ' ∧ Q x σ'
/-- what is asked of the calls, forwards -/
def n_F (C : ec_C) (σ0 : mS) : Prop := (∀ j avs σ x σ', j ≠ 171 → j ≠ 157 → ev_run sm_all j avs σ x σ' → C j avs σ = some (x, σ')) ∧ ∀ (k n : Int32) σ, 0 ≤ k.toInt → 0 < n.toInt → ∃ v : Int32, C 171 [rf 98 0, .inl k, .inl n] σ = some (.inl (some (.inl v)), σ) ∧ 0 ≤ v.toInt ∧ v.toInt < n.toInt
def n_G : ev_G := fun j z s => z.1.2.2.1 = 18 ∧ lw_G j z s
def n_G2 : ev_G := fun j z s => n_G j z s ∧ match m_at z.2.1 s.1 with
  | some r => tr_w r = false
  | none => True
theorem n_vac {CC : Nat → List mV → mS → (mX → mS → Prop) → Prop} {Gd : ev_G} (h : ∀ j z s, Gd j z s → z.1.2.2.1 = 18) : ev_rule Gd CC := by
  intro j z avs σ Q hz hn main
  have hm := List.all_eq_true.mp n_18 z (List.mem_of_getElem? hz)
  have hne : ¬ z.1.2.2.1 = 18 := fun e => by rw [e] at hm; cases hm
  exact absurd (main (fun _ _ _ _ _ _ => False) (fun pc L st σ k n hG _ => hne (h _ _ _ hG))) (fun z => z)
theorem n_rule {CC : Nat → List mV → mS → (mX → mS → Prop) → Prop} : ev_rule n_G CC := n_vac (fun _ _ _ h => h.1)
theorem n_rule2 {CC : Nat → List mV → mS → (mX → mS → Prop) → Prop} : ev_rule n_G2 CC := n_vac (fun _ _ _ h => h.1.1)
theorem n_gd_ok (kp : ac_Kp) : ar_gok n_G kp n_gd := by
  intro j z S hb xs ν σ0 Lc sc σ h hL hst hp
  have hb : (Nat.beq z.1.2.2.1 18 && lw_gd j z S) = true := hb
  rw [Bool.and_eq_true] at hb
  exact ⟨Nat.eq_of_beq_eq_true hb.1, lw_gd_ok kp j z S hb.2 xs ν σ0 Lc sc σ h hL hst hp⟩
theorem n_gd2_ok (kp : ac_Kp) : ar_gok n_G2 kp n_gd2 := by
  intro j z S hb xs ν σ0 Lc sc σ h hL hst hp
  unfold n_gd2 at hb
  rw [Bool.and_eq_true] at hb
  refine ⟨n_gd_ok kp j z S hb.1 xs ν σ0 Lc sc σ h hL hst hp, ?_⟩
  have h2 := hb.2
  show match m_at z.2.1 S.2.1 with
    | some r => tr_w r = false
    | none => True
  cases hr : m_at z.2.1 S.2.1 with
  | none => trivial
  | some r =>
    rw [hr] at h2
    dsimp only at h2 ⊢
    simpa using h2
section NS
variable {C : ec_C} {σ0 : mS}
theorem n_CCm : ac_CCm (n_CC C σ0) := fun _ _ _ _ _ hQ h hI => by
  obtain ⟨x, σ', r, i, q⟩ := h hI
  exact ⟨x, σ', r, i, hQ x σ' q⟩
theorem n_part_sh {j : Nat} {args : List ab_V} {Cx : ab_C} {H : ac_H} {outs : List ac_Q} (hs : n_part j args Cx H = some outs) {xs : ab_X} {ν : ab_N} {avs : List mV} (h : ab_cx xs Cx ν) (ha : ab_Vs Cx.1.length ν args avs) : ∃ (k y : Int32) (e : ab_E), j = 171 ∧ avs = [rf 98 0, .inl k, .inl y] ∧ 0 ≤ k.toInt ∧ 1 ≤ e.2 ∧ y.toInt = e.2 ∧ outs = [((ab_fr Cx 0 (e.2 - 1)).1, .inl (some (.inl (ab_fr Cx 0 (e.2 - 1)).2)), H)] := by
  unfold n_part at hs
  cases hj : Nat.beq j 171 with
  | false => rw [hj] at hs; cases hs
  | true =>
  rw [hj] at hs
  dsimp only [cond_true] at hs
  split at hs
  · rename_i z a e
    have h0 : ν 0 = 0 := h.1.1
    cases hb : (ab_le 0 (ab_iv Cx.1 a).1 && (Nat.beq z.1 98 && (ab_eE z.2.1 (0, 0) && (ab_eE z.2.2 (0, 1) && (Nat.beq e.1 0 && ab_le 1 e.2))))) with
    | false => rw [hb] at hs; cases hs
    | true =>
    rw [hb] at hs
    cases hs
    simp only [Bool.and_eq_true] at hb
    obtain ⟨b0, b1, b2, b3, b4, b5⟩ := hb
    obtain ⟨r, s1, rfl, g1, h1⟩ := ab_Vs_a ha
    obtain ⟨k, s2, rfl, g2, h2⟩ := ab_Vs_i h1
    obtain ⟨y, s3, rfl, g3, h3⟩ := ab_Vs_i h2
    have := ab_Vs_0 h3
    subst this
    have e2 := ab_eE_ok b2
    have e3 := ab_eE_ok b3
    obtain ⟨q1, q2, q3⟩ := g1
    have e1 := Nat.eq_of_beq_eq_true b1
    have e4 := Nat.eq_of_beq_eq_true b4
    rw [ab_le_ok] at b5 b0
    have gk := ab_iv_ok h.1 g2
    refine ⟨k, y, e, Nat.eq_of_beq_eq_true hj, ?_, by omega, b5, ?_, rfl⟩
    · cases r with
      | none =>
        have q3 : ν z.2.2.1 + z.2.2.2 = 0 := q3
        rw [e3] at q3
        have q3 : ν 0 + 1 = 0 := q3
        omega
      | some p =>
        obtain ⟨-, p1, p2⟩ := q3
        have p2 : (p.2 : Int) = ν z.2.1.1 + z.2.1.2 := p2
        rw [e2] at p2
        have p2 : (p.2 : Int) = ν 0 + 0 := p2
        have p1 : p.1 = z.1 := p1
        obtain ⟨pa, pb⟩ := p
        have ea : pa = 98 := p1.trans e1
        have eb : pb = 0 := by
          have p2 : (pb : Int) = ν 0 + 0 := p2
          omega
        subst ea; subst eb
        rfl
    · have := g3.2
      rw [e4, h0] at this
      omega
  · cases hs
theorem n_part_ok (hF : n_F C σ0) {kp : ac_Kp} : ar_SPok (n_CC C σ0) kp n_part := by
  intro j args Cx H outs hs xs ν σ1 avs σ h ha hp Q hQ hI
  obtain ⟨k, y, e, rfl, rfl, ek, e1, ey, rfl⟩ := n_part_sh hs h ha
  obtain ⟨v, c1, c2, c3⟩ := hF.2 k y σ ek (by omega)
  refine ⟨_, _, c1, hI, ?_⟩
  obtain ⟨ν1, u1, g1⟩ := ab_fr_ok h (x := v.toInt) (lo := 0) (hi := e.2 - 1) c2 (by omega)
  exact hQ _ List.mem_cons_self ν1 _ σ u1 g1 (hp.ex u1.2.1 u1.2.2)
/-- pieces alone, where nothing is changed -/
def n_CC2 (C : ec_C) (τ : mS) (j : Nat) (avs : List mV) (σ : mS) (Q : mX → mS → Prop) : Prop := σ = τ → ∃ x, C j avs σ = some (x, σ) ∧ Q x σ
theorem n_CC2m {τ : mS} : ac_CCm (n_CC2 C τ) := fun _ _ _ _ _ hQ h hI => by
  obtain ⟨x, r, q⟩ := h hI
  exact ⟨x, r, hQ x _ q⟩
theorem n_part_ok2 (hF : n_F C σ0) {τ : mS} {kp : ac_Kp} : ar_SPok (n_CC2 C τ) kp n_part := by
  intro j args Cx H outs hs xs ν σ1 avs σ h ha hp Q hQ hI
  obtain ⟨k, y, e, rfl, rfl, ek, e1, ey, rfl⟩ := n_part_sh hs h ha
  obtain ⟨v, c1, c2, c3⟩ := hF.2 k y σ ek (by omega)
  refine ⟨_, c1, ?_⟩
  obtain ⟨ν1, u1, g1⟩ := ab_fr_ok h (x := v.toInt) (lo := 0) (hi := e.2 - 1) c2 (by omega)
  exact hQ _ List.mem_cons_self ν1 _ σ u1 g1 (hp.ex u1.2.1 u1.2.2)
theorem n_SP_ok (hF : n_F C σ0) : ar_SPok (n_CC C σ0) (ac_K0, n_WX) (n_SP (ac_K0, n_WX)) := by
  intro j args Cx H outs hs
  unfold n_SP at hs
  cases hp : n_part j args Cx H with
  | some o =>
    rw [hp] at hs
    cases hs
    exact n_part_ok hF j args Cx H outs hp
  | none =>
    rw [hp] at hs
    dsimp only at hs
    cases hb : (Nat.beq j 157 || Nat.beq j 171) with
    | true => rw [hb] at hs; cases hs
    | false =>
      rw [hb] at hs
      rw [Bool.or_eq_false_iff] at hb
      intro xs ν σ1 avs σ h ha hp' Q hQ hI
      obtain ⟨x, σ', r, i, q⟩ := v_SP_ok (σ0 := σ0) v_on v_ob n_WX j args Cx H outs hs xs ν σ1 avs σ h ha hp' Q hQ hI
      exact ⟨x, σ', hF.1 j avs σ x σ' (fun z => by rw [z] at hb; cases hb.2) (fun z => by rw [z] at hb; cases hb.1) r, i, q⟩
theorem n_hG : ∀ (j : Nat) (z : mAl) (c s pc : Nat) (L : List (Option mV)) (st : List mV) (σ : mS) (k n k' n' : Nat), n_G j (ac_zR z c s) (pc, L, st, σ, k, n) → n_G j z (pc, L, st, σ, k', n') := fun _ _ _ _ _ _ _ _ _ _ _ _ h => h
theorem n_hG2 : ∀ (j : Nat) (z : mAl) (c s pc : Nat) (L : List (Option mV)) (st : List mV) (σ : mS) (k n k' n' : Nat), n_G2 j (ac_zR z c s) (pc, L, st, σ, k, n) → n_G2 j z (pc, L, st, σ, k', n') := fun _ _ _ _ _ _ _ _ _ _ _ _ h => h
/-- a stretch of main -/
theorem n_seg {CC : Nat → List mV → mS → (mX → mS → Prop) → Prop} {Gd : ev_G} {gd : ar_D} {SP : ac_SP} (hl : ev_rule Gd CC) (hCC : ac_CCm CC) (hgd : ∀ kp, ar_gok Gd kp gd) (hG : ∀ (j : Nat) (z : mAl) (c s pc : Nat) (L : List (Option mV)) (st : List mV) (σ : mS) (k n k' n' : Nat), Gd j (ac_zR z c s) (pc, L, st, σ, k, n) → Gd j z (pc, L, st, σ, k', n')) (hSP : ar_SPok CC (ac_K0, n_WX) SP) {T : v_Tm} {O : List ac_O} {ts : List (v_Tm × Int × Nat)} {rk rn c s : Nat} (hck : n_ck gd SP T O ts rk rn c s = true) {lo hi : Int} {ls : List (Nat × ab_T)} (hT0 : T.2 = (8, (0, 0, lo, hi, 0, 0)) :: ls) {J : Nat → List (Option mV) → List mV → mS → Nat → Nat → Prop} (hJ : ev_cl Gd CC 18 ab_main none (fun _ _ => True) J) {Lc : List (Option mV)} {σ : mS} {b n : Nat} {y : Int32} (hin : v_In (ac_K0, n_WX) σ 18 T Lc σ) (hy : m_ld Lc 8 = some (.inl y)) (hc8 : σ.1 1 + 8 ≤ 512) (hO : ∀ (n : Nat) (ν : ab_N), 0 < n → ν 0 = 0 → ∀ o ∈ O, ac_ov n ν σ o)
    (hb : b + c ≤ ab_main.1.2.2.2.2.1.cells) (hn : n + s ≤ ab_main.1.2.2.2.2.1.slots)
    (hto : ∀ q ∈ ts, ∀ Lc' σ' b' n' y', v_In (ac_K0, n_WX) σ 18 q.1 Lc' σ' → m_ld Lc' 8 = some (.inl y') → y'.toInt = y.toInt + q.2.1 → σ'.1 1 ≤ σ.1 1 + q.2.2 → b' ≤ b + rk → n' ≤ n + rn → J q.1.1 Lc' [] σ' b' n') : J T.1 Lc [] σ b n := by
  unfold n_ck at hck
  cases hs : v_seg gd (ac_K0, n_WX) SP n_LP n_PL (n_cut ts) 18 (ac_zR ab_main c s) (some 8) T O with
  | none => rw [hs] at hck; cases hck
  | some outs =>
  rw [hs] at hck
  dsimp only at hck
  have hJ' := v_clS (c := c) (s := s) (kb := b) (nb := n) hCC (fun pc L st σ k n' h => hG _ _ _ _ _ _ _ _ _ _ _ _ h) rfl hJ hb hn
  refine v_seg_ok (co := some 8) hl (hgd _) hSP hs hJ' hin hc8 hO (fun ν1 av1 c1 v1 e1 k1 o ho => ?_)
  have hb' := List.all_eq_true.mp hck o ho
  cases o with
  | inl e => exact fun _ _ _ _ _ _ => trivial
  | inr S =>
    intro ν' Lc' sc' σ' u2 hL2 hs2 hp2
    have hb' : (v_room rk rn S && ts.any (fun q => v_fit (some 8) q.2.2 q.1 18 S && v_up (some 8) T q.2.1 S)) = true := hb'
    rw [Bool.and_eq_true] at hb'
    obtain ⟨q3, hq⟩ := hb'
    obtain ⟨q, q0, hq⟩ := List.any_eq_true.mp hq
    rw [Bool.and_eq_true] at hq
    obtain ⟨q1, q2⟩ := hq
    obtain ⟨f1, f2, f3, f4⟩ := v_fit_ok (c := σ.1 1) q1 u2.1 hL2 hs2 hp2 (fun d hd => by
      obtain ⟨b1, b2⟩ := k1 d hd
      exact ⟨Nat.lt_of_lt_of_le b1 u2.2.2, (u2.2.1 1 b1).trans b2⟩)
    unfold v_room at q3
    rw [Bool.and_eq_true, Nat.ble_eq, Nat.ble_eq] at q3
    unfold v_up at q2
    rw [hT0] at q2
    dsimp only at q2
    split at q2
    · rename_i e he
      have e2 := ab_eE_ok q2
      have he2 : S.2.2.1[8]? = some (some (.inl e)) := by
        unfold ab_ld at he
        split at he
        · rename_i w hw; cases he; exact hw
        · cases he
      obtain ⟨x, x1, x2⟩ := hL2.2 8 _ he2
      obtain ⟨yw, rfl, i2⟩ := ab_Vi x2
      have v2 := v1
      have hce : ∃ vs', (v_ini (some 8) T).2 = .inl (v_ce (some 8) T) :: vs' := by
        unfold v_ce v_ini
        rw [hT0]
        exact ⟨_, rfl⟩
      obtain ⟨vs', hvs⟩ := hce
      rw [hvs] at v2
      obtain ⟨y2, s', es, i1, -⟩ := ab_Vs_i v2
      rw [es, hT0, List.map_cons, List.map_cons] at e1
      injection e1 with e1 _
      have e1 : m_ld Lc 8 = some (.inl y2) := e1
      rw [hy] at e1
      cases e1
      have i3 := (u2.I i1).2
      have i4 := i2.2
      rw [e2] at i4
      have i4 : yw.toInt = ν' (v_ce (some 8) T).1 + ((v_ce (some 8) T).2 + q.2.1) := i4
      rw [f1, f2]
      exact hto q q0 Lc' σ' _ _ yw f3 x1 (by omega) f4 (by omega) (by omega)
    · cases q2
end NS
