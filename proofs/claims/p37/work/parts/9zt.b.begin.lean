/-! main's beginning forwards: the heap when the law's arrays are made -/
def ac_nl (g : ab_G) : ab_G := bif Nat.beq g.2.2.2.2.2.1 2 && Nat.beq g.2.2.2.2.2.2.2.2.2.1 0 then (g.1, g.2.1, g.2.2.1, g.2.2.2.1, g.2.2.2.2.1, (2, 0, 0, 0, 0, 0)) else g
theorem ac_nl_ok {g : ab_G} {x : mV} (h : ab_Tr (ac_nl g).2.2.2.2.2 x) : ab_Tr g.2.2.2.2.2 x := by
  unfold ac_nl at h
  cases hb : (Nat.beq g.2.2.2.2.2.1 2 && Nat.beq g.2.2.2.2.2.2.2.2.2.1 0) with
  | false => rw [hb] at h; exact h
  | true =>
    rw [hb] at h
    rw [Bool.and_eq_true] at hb
    rcases x with y | y | r
    · cases h.1
    · cases h.1
    · cases r with
      | none => exact ⟨Nat.eq_of_beq_eq_true hb.1, Nat.eq_of_beq_eq_true hb.2⟩
      | some p => cases h.2.1
theorem ac_nl_rg (g : ab_G) : (ac_nl g).1 = g.1 ∧ (ac_nl g).2.1 = g.2.1 ∧ (ac_nl g).2.2.1 = g.2.2.1 ∧ (ac_nl g).2.2.2.1 = g.2.2.2.1 ∧ (ac_nl g).2.2.2.2.1 = g.2.2.2.2.1 := by
  unfold ac_nl
  cases (Nat.beq g.2.2.2.2.2.1 2 && Nat.beq g.2.2.2.2.2.2.2.2.2.1 0) <;> exact ⟨rfl, rfl, rfl, rfl, rfl⟩
def n_exA : List ab_G := [(11, 0, 0, 2, 2, (2, 0, 0, 0, 0, 0)), (12, 0, 0, 35, 35, (0, 0, 0, 0, 0, 0)), (11, 0, 0, 4, 4, (2, 0, 0, 0, 0, 0)), (11, 0, 0, 5, 5, (0, 0, 0, 0, 0, 0))]
def n_HG : ab_H := ((1, (0, 0)) :: ac_cnA.map (fun q => (q.1, (0, (q.2 : Int)))), ac_lnA, ac_K0.1.flatten.map ac_nl ++ n_exA, [])
def n_rv (c i : Nat) : ab_V := .inr (.inr (.inl (c, (0, (i : Int)), (0, 1))))
def n_L35 : List (Option ab_V) := [some (n_rv 98 0), some (n_rv 11 0), some (n_rv 13 14), some (n_rv 13 15), some (n_rv 13 16), some (n_rv 13 17), some (n_rv 14 6), none, none, none, none, none, none, none, none, none, none, none]
def n_ckA (S : ab_S) : Bool := Nat.beq S.2.1 35 && (ab_ckL n_L35 S.2.2.1 && (S.2.2.2.1.isEmpty && (ab_imp2 S.1 S.2.2.2.2.1 n_HG && (Nat.ble S.2.2.2.2.2.1 500 && Nat.ble S.2.2.2.2.2.2 9000))))
def n_cA (j pc : Nat) : Bool := Nat.beq j 18 && Nat.beq pc 35
def n_S0 : ab_S := (ab_Ce, 0, ab_L0 18 [n_rv 98 0], [], ac_H0, 0, 0)
/-- the hall's constructor, gone through -/
def n_SP1 : ab_SP := fun j args C H => bif Nat.beq j 123 then ab_ret ab_SP0 (bb_go (fun _ _ _ => true) (ab_SPx [ac_eA2]) ac_LPn ac_PLn ac_ABt ac_nc 4000) 123 args C H else none
def n_outA : Option (List ab_Z) := bb_go (fun _ z _ => Nat.beq z.1.2.2.1 18) n_SP1 ac_LPn ac_PLn ac_ABt n_cA 4000 false 18 ab_main [] n_S0
def n_isA (z : ab_Z) : Bool := match z with
  | .inr S => n_ckA S
  | .inl _ => false
theorem n_stA : (match n_outA with
  | some l => l.all n_isA
  | none => false) = true := by decide +kernel
theorem n_K0c : (Nat.ble ac_K0.1.length 22 && (List.range 22).all (fun c => (ac_rw ac_K0 c).all (fun g => Nat.beq g.1 c))) = true := by decide +kernel
theorem n_K0l : (Nat.ble ac_K0.2.length 22 && (List.range 22).all (fun c => (ac_ln ac_K0 c).all (fun q => Nat.ble 13 c && ac_lnA.any (fun p => Nat.beq p.1 c && (Nat.beq p.2.1 q.1 && (Nat.beq p.2.2.1 q.2.1 && Nat.beq p.2.2.2 q.2.2)))))) = true := by decide +kernel
def n_KG (σ : mS) : Prop := ac_KK ac_K0 σ ∧ (m_get σ 11 0 2 = .inr (.inr none) ∧ ∀ q ∈ ac_cnA, σ.1 q.1 = q.2) ∧ σ.1 1 = 0 ∧ m_get σ 11 0 4 = .inr (.inr none) ∧ m_get σ 11 0 5 = .inl 0
section NG
variable {n : Nat} {ν : ab_N} {σ : mS}
theorem n_exG (h : ab_hp n ν n_HG σ) {g : ab_G} (hg : g ∈ n_exA) : ∀ i k, g.2.1 ≤ i → i ≤ g.2.2.1 → g.2.2.2.1 ≤ k → k ≤ g.2.2.2.2.1 → ab_Tr g.2.2.2.2.2 (m_get σ g.1 i k) := h.2.2.1 g (List.mem_append_right _ hg)
theorem n_nul (h : ab_hp n ν n_HG σ) {c i k : Nat} (hg : (c, i, i, k, k, ((2, 0, 0, 0, 0, 0) : ab_T)) ∈ n_exA) : m_get σ c i k = .inr (.inr none) := by
  have g := n_exG h hg i k (Nat.le_refl _) (Nat.le_refl _) (Nat.le_refl _) (Nat.le_refl _)
  have g : ab_Tr (2, 0, 0, 0, 0, 0) (m_get σ c i k) := g
  generalize m_get σ c i k = x at g
  rcases x with y | y | r
  · cases g.1
  · cases g.1
  · cases r with
    | none => rfl
    | some p => cases g.2.1
theorem n_zer (h : ab_hp n ν n_HG σ) {c i k : Nat} (hg : (c, i, i, k, k, ((0, 0, 0, 0, 0, 0) : ab_T)) ∈ n_exA) : m_get σ c i k = .inl 0 := by
  have g := n_exG h hg i k (Nat.le_refl _) (Nat.le_refl _) (Nat.le_refl _) (Nat.le_refl _)
  obtain ⟨y, y1, y2, y3⟩ := v_Ti g
  have y1 : m_get σ c i k = .inl y := y1
  have e : y = 0 := Int32.toInt_inj.mp (by
    have z : (0 : Int32).toInt = 0 := by decide
    omega)
  rw [y1, e]
theorem n_hpG (h : ab_hp n ν n_HG σ) (h0 : ν 0 = 0) : n_KG σ := by
  have hc := n_K0c
  have hl := n_K0l
  rw [Bool.and_eq_true, Nat.ble_eq] at hc hl
  refine ⟨⟨fun c l hcl g hg i k h1 h2 h3 h4 => ?_, fun c l hcl q hq i h1 h2 => ?_, fun k hk => ?_⟩, ⟨n_nul h (by decide), fun q hq => ?_⟩, ?_, n_nul h (by decide), n_zer h (by decide)⟩
  · have hlt := (List.getElem?_eq_some_iff.mp hcl).1
    have e1 : ac_rw ac_K0 c = l := by unfold ac_rw; rw [hcl]
    have b := List.all_eq_true.mp hc.2 c (List.mem_range.mpr (by omega))
    rw [e1] at b
    have e2 := Nat.eq_of_beq_eq_true (List.all_eq_true.mp b g hg)
    obtain ⟨r1, r2, r3, r4, r5⟩ := ac_nl_rg g
    have hm : ac_nl g ∈ n_HG.2.2.1 := List.mem_append_left _ (List.mem_map.mpr ⟨g, List.mem_flatten.mpr ⟨l, List.mem_of_getElem? hcl, hg⟩, rfl⟩)
    have t := h.2.2.1 (ac_nl g) hm i k (by omega) (by omega) (by omega) (by omega)
    rw [r1, e2] at t
    exact ac_nl_ok t
  · have hlt := (List.getElem?_eq_some_iff.mp hcl).1
    have e1 : ac_ln ac_K0 c = l := by unfold ac_ln; rw [hcl]
    have b := List.all_eq_true.mp hl.2 c (List.mem_range.mpr (by omega))
    rw [e1] at b
    have b := List.all_eq_true.mp b q hq
    rw [Bool.and_eq_true, Nat.ble_eq] at b
    obtain ⟨p, p1, p2⟩ := List.any_eq_true.mp b.2
    simp only [Bool.and_eq_true] at p2
    have d1 := Nat.eq_of_beq_eq_true p2.1
    have d2 := Nat.eq_of_beq_eq_true p2.2.1
    have d3 := Nat.eq_of_beq_eq_true p2.2.2.1
    have d4 := Nat.eq_of_beq_eq_true p2.2.2.2
    rw [← d1, ← d4]
    exact ⟨by rw [d1]; exact b.1, h.2.1 p p1 i (by omega) (by omega)⟩
  · have y1 : m_get σ 12 0 35 = .inl 0 := n_zer h (by decide)
    have y1 : m_get σ 12 0 ac_TR = .inl 0 := y1
    unfold ac_tr at hk
    rw [y1] at hk
    have z : (0 : Int32).toInt = 0 := by decide
    dsimp only at hk
    omega
  · have g := h.1 (q.1, (0, (q.2 : Int))) (List.mem_cons_of_mem _ (List.mem_map.mpr ⟨q, hq, rfl⟩))
    have g2 : (σ.1 q.1 : Int) = ν 0 + (q.2 : Int) := g.2
    rw [h0] at g2
    omega
  · have g := h.1 (1, (0, 0)) List.mem_cons_self
    have g2 : (σ.1 1 : Int) = ν 0 + 0 := g.2
    rw [h0] at g2
    omega
theorem n_rh {σ : mS} (h : ac_KK ac_K0 σ) : m_get σ 11 0 0 = rf 4 0 := by
  have g := kk_row (c := 11) (lo := 0) (hi := 0) (k := 0) (i := 0) (T := (2, 4, 0, 0, 1, 1)) h (by decide +kernel) (Nat.le_refl 0) (Nat.le_refl 0)
  exact n_rf (c := 4) (i := 0) g
theorem n_iv {σ : mS} (h : n_KG σ) (hx0 : hxs (fun _ => 0) σ) : iv σ σ := by
  obtain ⟨k1, ⟨k2, k4⟩, k3, k5, k6⟩ := h
  refine ⟨⟨0, Nat.zero_le _, rp_I0 (gt_r rfl σ 0) k6 (n_rh k1) k2 k5 k4⟩, fun p hp => ?_, hx_hy hx0⟩
  have g := (hx0.2.2.2.2.2.2.2.2.1 p hp).2.2.2 7 (by decide) (by decide)
  simp only [Nat.zero_add] at g
  exact g
end NG
/-! from the entry to the arrays: runs that may be stopped, but not in the constructor -/
def n_G0 : ev_G := fun _ z _ => z.1.2.2.1 = 18
def n_C1 (C : ec_C) (j : Nat) (avs : List mV) (σ : mS) (Q : mX → mS → Prop) : Prop := j = 123 ∧ ∃ x σ', C j avs σ = some (x, σ') ∧ Q x σ'
def n_good (Lc : List (Option mV)) (σ : mS) (b n : Nat) : Prop := (∃ a7 a8 a9 a10 a11 a12 a13 a14 a15 a16 a17, Lc = [some (rf 98 0), some (rf 11 0), some (rf 13 14), some (rf 13 15), some (rf 13 16), some (rf 13 17), some (rf 14 6), a7, a8, a9, a10, a11, a12, a13, a14, a15, a16, a17]) ∧ n_KG σ ∧ b ≤ 500 ∧ n ≤ 9000
def n_JB (C : ec_C) : Nat → List (Option mV) → List mV → mS → Nat → Nat → Prop := fun pc L st σ k n => ∃ Lc σ' b n', n_good Lc σ' b n' ∧ ∀ D : Nat → List mV → mS → Prop, (∀ avs σ, ¬ D 123 avs σ) → ∀ q, n_run (n_D C D) (35, Lc, [], σ', b, n') q → n_run (n_D C D) (pc, L, st, σ, k, n) q
theorem n_JB_cl {C : ec_C} : ev_cl n_G0 (n_C1 C) 18 ab_main none (fun _ _ => False) (n_JB C) := by
  intro pc L st σ k n hG hst
  obtain ⟨o, o1, o2⟩ := ev_nf_ok.mp hst
  have o1 : ev_st none ab_main (pc, L, st, σ, k, n) = some o := o1
  rcases o with s' | e | c
  · obtain ⟨Lc, σ', b, n', g, R⟩ := o2
    exact ⟨Lc, σ', b, n', g, fun D hD q h => by
      obtain ⟨f, h⟩ := R D hD q h
      exact ⟨f + 1, ev_r_succ.mpr ⟨trivial, .inl s', o1, h⟩⟩⟩
  · exact o2.elim
  · obtain ⟨ej, x, σ', hc, g2⟩ := o2
    cases x with
    | inl v =>
      obtain ⟨Lc, σ2, b, n', g, R⟩ := g2
      exact ⟨Lc, σ2, b, n', g, fun D hD q h => by
        obtain ⟨f, h⟩ := R D hD q h
        exact ⟨f + 1, ev_r_succ.mpr ⟨trivial, _, o1, .inl v, σ', (n_D_n (fun z => by rw [ej] at z; exact hD _ _ z)).trans hc, h⟩⟩⟩
    | inr b => exact (g2 : _ ∧ _ ∧ False).2.2.elim
theorem n_rule0 {CC : Nat → List mV → mS → (mX → mS → Prop) → Prop} : ev_rule n_G0 CC := n_vac (fun _ _ _ h => h)
theorem n_gd0_ok : bb_gok n_G0 (fun _ z _ => Nat.beq z.1.2.2.1 18) := fun _ _ _ h _ _ _ _ _ _ _ _ _ => Nat.eq_of_beq_eq_true h
theorem n_gdT_ok : bb_gok sm_all (fun _ _ _ => true) := fun _ _ _ _ _ _ _ _ _ _ _ _ _ => trivial
theorem n_entA0 : bb_entB (fun _ _ _ => true) ab_SP0 ac_eA0 = true := by decide +kernel
theorem n_entA1 : bb_entB (fun _ _ _ => true) ab_SP0 ac_eA1 = true := by decide +kernel
theorem n_entA2 : bb_entB (fun _ _ _ => true) (ab_SPx [ac_eA0, ac_eA1]) ac_eA2 = true := by decide +kernel
theorem n_SPA_ok : bb_SPok CA (ab_SPx [ac_eA0, ac_eA1]) := bb_SPx_ok ev_CC_rule n_gdT_ok (bb_SP0_ok CA) (fun e he => by
  rcases List.mem_cons.mp he with rfl | he
  · exact n_entA0
  · rcases List.mem_cons.mp he with rfl | he
    · exact n_entA1
    · cases he)
theorem n_SPH_ok : bb_SPok CA (ab_SPx [ac_eA2]) := bb_SPx_ok ev_CC_rule n_gdT_ok n_SPA_ok (fun e he => by
  rcases List.mem_cons.mp he with rfl | he
  · exact n_entA2
  · cases he)
theorem n_SP1_ok {C : ec_C} {σx : mS} (hF : n_F C σx) : bb_SPok (n_C1 C) n_SP1 := by
  intro j args Cx H outs hs xs ν avs σ hc ha hp Q hQ
  unfold n_SP1 at hs
  cases hj : Nat.beq j 123 with
  | false => rw [hj] at hs; cases hs
  | true =>
  rw [hj] at hs
  dsimp only [cond_true] at hs
  have ej := Nat.eq_of_beq_eq_true hj
  subst ej
  obtain ⟨x, σ', r, q⟩ := bb_ret_ok (CC := CA) ev_CC_rule (bb_SP0_ok CA) (bb_go_ok ev_CC_rule n_gdT_ok n_SPH_ok 4000) hs hc ha hp hQ
  exact ⟨rfl, x, σ', hF.1 123 avs σ x σ' (by decide) (by decide) r, q⟩
theorem n_Ls_rf {N : Nat} {ν : ab_N} {Lc : List (Option mV)} (h : ab_Ls N ν n_L35 Lc) (h0 : ν 0 = 0) {j c m : Nat} (hj : n_L35[j]? = some (some (n_rv c m))) : m_ld Lc j = some (rf c m) := by
  obtain ⟨x, x1, x2⟩ := h.2 j _ hj
  obtain ⟨q, rfl, g⟩ := ab_Va x2
  cases q with
  | none =>
    have g3 : ν 0 + 1 = 0 := g.2.2
    rw [h0] at g3
    cases g3
  | some p =>
    obtain ⟨p1, p2⟩ := p
    obtain ⟨-, -, -, g4, g5⟩ := g
    have g4 : p1 = c := g4
    have g5 : (p2 : Int) = ν 0 + (m : Int) := g5
    rw [h0] at g5
    have e2 : p2 = m := by omega
    subst g4; subst e2
    exact x1
theorem n_first {C : ec_C} {σx σ00 : mS} (hF : n_F C σx) (h : ab_hp 1 (fun _ => 0) ac_H0 σ00) : n_JB C 0 (m_L0 18 [rf 98 0]) [] σ00 0 0 := by
  have hA := n_stA
  cases ho : n_outA with
  | none => rw [ho] at hA; cases hA
  | some os =>
    rw [ho] at hA
    dsimp only at hA
    have hg : bb_go (fun _ z _ => Nat.beq z.1.2.2.1 18) n_SP1 ac_LPn ac_PLn ac_ABt n_cA 4000 false 18 ab_main [] n_S0 = some os := ho
    have hcx : ab_cx none ab_Ce (fun _ => 0) := by
      refine ⟨⟨rfl, fun j q hq => ?_⟩, Nat.zero_lt_succ _, fun f hf => (by cases hf), fun f hf => (by cases hf)⟩
      match j, hq with
      | 0, hq =>
        cases hq
        exact ⟨Int.le_refl _, Int.le_refl _⟩
      | j + 1, hq => cases hq
    have hLs : ab_Ls 1 (fun _ => 0) (ab_L0 18 [n_rv 98 0]) (m_L0 18 [rf 98 0]) := ab_L0_ok ⟨⟨Nat.zero_lt_succ _, Nat.zero_lt_succ _, rfl, rfl, rfl⟩, trivial⟩
    refine bb_go_ok n_rule0 n_gd0_ok (n_SP1_ok hF) 4000 false 18 ab_main [] n_S0 os hg none none (fun _ => 0) _ [] σ00 _ (n_JB C) (fun z => by cases z) (fun z => by cases z) n_JB_cl (fun p hp => by cases hp) hcx hLs trivial h (fun z hz => ?_)
    have hz2 := List.all_eq_true.mp hA z hz
    cases z with
    | inl e => cases hz2
    | inr S =>
      have hz3 : n_ckA S = true := hz2
      unfold n_ckA at hz3
      simp only [Bool.and_eq_true] at hz3
      obtain ⟨c1, c2, c3, c4, c5, c6⟩ := hz3
      intro ν' Lc' sc' σ' u hL' hs' hp'
      have e3 := List.isEmpty_iff.mp c3
      rw [e3] at hs'
      have e4 := ab_Vs_0 hs'
      subst e4
      have h0 : ν' 0 = 0 := u.1.1.1
      have hB := n_hpG (ab_imp2_ok u.1 hp' c4) h0
      obtain ⟨d1, d2⟩ := ab_ckL_at c2
      have hL2 : ab_Ls S.1.1.length ν' n_L35 Lc' := ⟨hL'.1.trans d1, fun i v hv => hL'.2 i v (d2 i v hv)⟩
      have l0 := n_Ls_rf hL2 h0 (j := 0) (c := 98) (m := 0) rfl
      have l1 := n_Ls_rf hL2 h0 (j := 1) (c := 11) (m := 0) rfl
      have l2 := n_Ls_rf hL2 h0 (j := 2) (c := 13) (m := 14) rfl
      have l3 := n_Ls_rf hL2 h0 (j := 3) (c := 13) (m := 15) rfl
      have l4 := n_Ls_rf hL2 h0 (j := 4) (c := 13) (m := 16) rfl
      have l5 := n_Ls_rf hL2 h0 (j := 5) (c := 13) (m := 17) rfl
      have l6 := n_Ls_rf hL2 h0 (j := 6) (c := 14) (m := 6) rfl
      obtain ⟨a0, a1, a2, a3, a4, a5, a6, a7, a8, a9, a10, a11, a12, a13, a14, a15, a16, a17, eL⟩ := ls18 hL2.1
      subst eL
      obtain rfl := m_ld_o (o := a0) rfl l0
      obtain rfl := m_ld_o (o := a1) rfl l1
      obtain rfl := m_ld_o (o := a2) rfl l2
      obtain rfl := m_ld_o (o := a3) rfl l3
      obtain rfl := m_ld_o (o := a4) rfl l4
      obtain rfl := m_ld_o (o := a5) rfl l5
      obtain rfl := m_ld_o (o := a6) rfl l6
      refine ⟨[some (rf 98 0), some (rf 11 0), some (rf 13 14), some (rf 13 15), some (rf 13 16), some (rf 13 17), some (rf 14 6), a7, a8, a9, a10, a11, a12, a13, a14, a15, a16, a17], σ', S.2.2.2.2.2.1, S.2.2.2.2.2.2, ⟨⟨a7, a8, a9, a10, a11, a12, a13, a14, a15, a16, a17, rfl⟩, hB, Nat.le_of_ble_eq_true c5, Nat.le_of_ble_eq_true c6⟩, fun D hD q r => ?_⟩
      rw [Nat.eq_of_beq_eq_true c1]
      exact r
