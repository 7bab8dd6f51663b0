/-! the face's methods: what they ask ahead, by the analysis, over runs -/
abbrev CA : Nat → List mV → mS → (mX → mS → Prop) → Prop := ev_CC sm_all
theorem ca_up {K : ac_Kd} {ct : ac_Ct} (h : ar_cok ar_CC K ct) : ar_cok CA K ct := by
  intro avs σ a b c Q hQ
  obtain ⟨x, σ', ⟨f, r⟩, g⟩ := h avs σ a b c Q hQ
  exact ⟨x, σ', ⟨f, ev_c_mono (fun _ _ _ _ => trivial) f f _ _ _ _ (Nat.le_refl f) r⟩, g⟩
def gd0 : ar_D := fun _ _ _ => true
theorem gd0_ok (kp : ac_Kp) : ar_gok sm_all kp gd0 := fun _ _ _ _ _ _ _ _ _ _ _ _ _ _ => trivial
def fd_in (l : List Nat) (ct : ac_Ct) : Bool := l.any (Nat.beq ct.1)
def fd1 : List ac_Ct := ac_L0_1.filter (fd_in [51, 80, 82, 83, 101, 190])
def fd2 : List ac_Ct := (ac_L0_2_0 ++ ac_L0_2_1).filter (fd_in [33, 54, 78, 79, 81])
def fd3 : List ac_Ct := ac_L0_3_0.filter (fd_in [85, 86])
def fd4 : List ac_Ct := ac_L0_4_0.filter (fd_in [53])
def fdA1 : List ac_Ct := fd1 ++ ar_L1
def fdA2 : List ac_Ct := fd2 ++ fdA1
def fdA3 : List ac_Ct := fd3 ++ fdA2
theorem fd_t1 : fd1.all (ar_chk gd0 ac_K0 (fun _ => ac_SP0) ac_LP0 ac_PL ac_nc) = true := by decide +kernel
theorem fd_t2 : fd2.all (ar_chk gd0 ac_K0 (fun kp => ac_SPt kp fdA1) ac_LP0 ac_PL ac_nc) = true := by decide +kernel
theorem fd_t3 : fd3.all (ar_chk gd0 ac_K0 (fun kp => ac_SPt kp fdA2) ac_LP0 ac_PL ac_nc) = true := by decide +kernel
theorem fd_t4 : fd4.all (ar_chk gd0 ac_K0 (fun kp => ac_SPt kp fdA3) ac_LP0 ac_PL ac_nc) = true := by decide +kernel
theorem fd_o1 : ∀ ct ∈ fdA1, ar_cok CA ac_K0 ct := fun ct hct => (List.mem_append.mp hct).elim (fun h => ar_chk_ok ev_CC_rule gd0_ok (fun W => ar_SP0_ok _ _) (List.all_eq_true.mp fd_t1 ct h)) (fun h => ca_up (ar_o1 ct h))
theorem fd_o2 : ∀ ct ∈ fdA2, ar_cok CA ac_K0 ct := fun ct hct => (List.mem_append.mp hct).elim (fun h => ar_chk_ok ev_CC_rule gd0_ok (fun W => ar_SPt_ok (kp := (ac_K0, W)) fd_o1) (List.all_eq_true.mp fd_t2 ct h)) (fd_o1 ct)
theorem fd_o3 : ∀ ct ∈ fdA3, ar_cok CA ac_K0 ct := fun ct hct => (List.mem_append.mp hct).elim (fun h => ar_chk_ok ev_CC_rule gd0_ok (fun W => ar_SPt_ok (kp := (ac_K0, W)) fd_o2) (List.all_eq_true.mp fd_t3 ct h)) (fd_o2 ct)
theorem fd_o4 : ∀ ct ∈ fd4, ar_cok CA ac_K0 ct := fun ct hct => ar_chk_ok ev_CC_rule gd0_ok (fun W => ar_SPt_ok (kp := (ac_K0, W)) fd_o3) (List.all_eq_true.mp fd_t4 ct hct)
/-! runs that go on from a state are a closed judgement -/
def er_J (j : Nat) (z : mAl) (Q : mX → mS → Prop) : Nat → List (Option mV) → List mV → mS → Nat → Nat → Prop := fun pc L st σ k n => ∃ x τ, ER j z (pc, L, st, σ, k, n) (x, τ) ∧ Q x τ
theorem er_J_cl {j : Nat} {z : mAl} {Q : mX → mS → Prop} : ev_cl sm_all CA j z none Q (er_J j z Q) := by
  intro pc L st σ k n hG hst
  obtain ⟨o, o1, o2⟩ := ev_nf_ok.mp hst
  have up : ∀ {f f' : Nat} {s : ev_T} {q : mX × mS}, f ≤ f' → ev_r none sm_all (ev_c sm_all f) j z f s = some q → ev_r none sm_all (ev_c sm_all f') j z f' s = some q :=
    fun hf h => ev_r_mono (fun j avs σ q h => ev_c_mono (fun _ _ _ h => h) _ _ j avs σ q hf h) (fun _ _ _ h => h) _ _ _ hf h
  have step : ∀ {f : Nat} {q : mX × mS}, ev_ro (fun s' => ev_r none sm_all (ev_c sm_all f) j z f s' = some q) (ev_c sm_all f) z (pc, L, st, σ, k, n) q o → Q q.1 q.2 → er_J j z Q pc L st σ k n := by
    intro f q ho hQ
    refine ⟨q.1, q.2, ⟨f + 1, ev_r_succ.mpr ⟨hG, o, o1, ev_ro_mono (fun s' h => ?_) (fun j avs σ q h => ev_c_mono (fun _ _ _ h => h) f (f + 1) j avs σ q (Nat.le_succ f) h) ho⟩⟩, hQ⟩
    exact ev_r_mono (fun j avs σ q h => ev_c_mono (fun _ _ _ h => h) f (f + 1) j avs σ q (Nat.le_succ f) h) (fun _ _ _ h => h) f f s' (Nat.le_refl f) h
  rcases o with s' | e | c
  · obtain ⟨x, τ, ⟨f, g1⟩, g2⟩ := o2
    exact step (f := f) (q := (x, τ)) g1 g2
  · exact step (f := 0) (q := e) rfl o2
  · obtain ⟨x, σ', ⟨f0, g1⟩, g2⟩ := o2
    cases x with
    | inl v =>
      obtain ⟨x, τ, ⟨f, k1⟩, k2⟩ := g2
      refine step (f := max f0 f) (q := (x, τ)) ⟨.inl v, σ', ev_c_mono (fun _ _ _ h => h) _ _ _ _ _ _ (Nat.le_max_left _ _) g1, ?_⟩ k2
      exact up (Nat.le_max_right _ _) k1
    | inr x =>
      have g2 : ab_TT z Q _ pc L σ' _ _ x := g2
      unfold ab_TT at g2
      cases hh : z.1.2.2.2.2.2 with
      | nil =>
        rw [hh] at g2
        exact step (f := f0) (q := (.inr x, σ')) ⟨.inr x, σ', g1, (by dsimp only; rw [hh]; exact ⟨⟨g2.1, g2.2.1⟩, rfl⟩)⟩ g2.2.2
      | cons w ws =>
        rw [hh] at g2
        obtain ⟨s', h1, y, τ, ⟨f, k1⟩, k2⟩ := (ev_hd_J (s := (pc, L, st, σ, k, n)) (c := c)).mp g2
        exact step (f := max f0 f) (q := (y, τ)) ⟨.inr x, σ', ev_c_mono (fun _ _ _ h => h) _ _ _ _ _ _ (Nat.le_max_left _ _) g1, (by dsimp only; rw [hh]; exact ⟨s', h1, up (Nat.le_max_right _ _) k1⟩)⟩ k2
/-! the checks of a method of the face, up to where it makes its call -/
def mu_Ts (n : Nat) : List ab_T := (2, 11, 0, 0, 1, 1) :: List.replicate n T0
def mu_S (nL n : Nat) : ac_S := ((ac_ini (mu_Ts n) ac_C1).1, 0, ab_L0 nL (ac_ini (mu_Ts n) ac_C1).2, [], (none, [], []), 0, 0)
def mu_cut (j0 p0 j pc : Nat) : Bool := Nat.beq j j0 && Nat.beq pc p0
def mu_lo (S : ac_S) (b : Nat × ab_T) : Bool := match ab_ld S.2.2.1 b.1 with
  | some v => ab_in S.1 v b.2
  | none => false
def mu_ok (ex : List Nat) (nL p0 k0 n0 : Nat) (bs : List (Nat × ab_T)) (z : ac_Z) : Bool := match z with
  | .inl e => (match e.2.1 with
    | .inr x => ex.any (Nat.beq x)
    | .inl _ => false) && e.2.2.1.isNone
  | .inr S => Nat.beq S.2.1 p0 && (Nat.beq S.2.2.1.length nL && (S.2.2.2.1.isEmpty && (S.2.2.2.2.1.1.isNone && (Nat.beq S.2.2.2.2.2.1 k0 && (Nat.beq S.2.2.2.2.2.2 n0 && bs.all (mu_lo S))))))
def mu_kp : ac_Kp := (ac_K0, [])
def mu_G (j p0 : Nat) : ac_GT := ar_go gd0 mu_kp (ac_SPt mu_kp fdA2) ac_LP0 ac_PL (mu_cut j p0) 4000
def mu_ck (ex : List Nat) (j p0 k0 n0 n : Nat) (bs : List (Nat × ab_T)) (z : mAl) : Bool := match mu_G j p0 false j z [] (mu_S z.1.2.2.1 n) with
  | some l => l.all (mu_ok ex z.1.2.2.1 p0 k0 n0 bs)
  | none => false
theorem mu_phase {ex : List Nat} {j p0 k0 n0 n : Nat} {bs : List (Nat × ab_T)} {z : mAl} {avs : List mV} {σ : mS} {Q : mX → mS → Prop} (hz : m_alF[j]? = some z) (hlen : (m_args avs).length ≤ z.1.2.2.1) (hc : mu_ck ex j p0 k0 n0 n bs z = true) (hT : ac_TrL (mu_Ts n) avs) (hK : ac_KK ac_K0 σ)
    (hxs : ∀ b σ', b ∈ ex → ac_KK ac_K0 σ' → ac_fr [] σ σ' → σ'.1 1 = σ.1 1 → Q (.inr b) σ')
    (hn : ∀ Lc σ', Lc.length = z.1.2.2.1 → (∀ b ∈ bs, ∃ x, m_ld Lc b.1 = some x ∧ ab_Tr b.2 x) → ac_KK ac_K0 σ' → ac_fr [] σ σ' → σ'.1 1 = σ.1 1 → ∃ x τ, ER j z (p0, Lc, [], σ', k0, n0) (x, τ) ∧ Q x τ) : CA j avs σ Q := by
  unfold mu_ck at hc
  cases hg : mu_G j p0 false j z [] (mu_S z.1.2.2.1 n) with
  | none => rw [hg] at hc; cases hc
  | some outs =>
  rw [hg] at hc
  dsimp only at hc
  obtain ⟨ν1, u1, g1⟩ := ac_ini_ok ac_cx1 hT
  have hL := ab_L0_ok (nL := z.1.2.2.1) g1
  have main : er_J j z Q 0 (m_L0 z.1.2.2.1 avs) [] σ 0 0 := by
    refine ar_go_ok ev_CC_rule (gd0_ok mu_kp) (ar_SPt_ok (kp := mu_kp) fd_o2) 4000 false j z [] (mu_S z.1.2.2.1 n) outs hg none none ν1 σ (m_L0 z.1.2.2.1 avs) [] σ Q (er_J j z Q) (fun w => by cases w) (fun w => by cases w) er_J_cl (fun p hp => by cases hp) u1.1 hL trivial ⟨hK, ac_fr.rf, rfl, (fun o ho => by cases ho), fun g hg => by cases hg⟩ (fun o ho => ?_)
    have ho := List.all_eq_true.mp hc o ho
    cases o with
    | inl e =>
      intro ν' x σ' u hx' hp
      have ho : ((match e.2.1 with
        | .inr x => ex.any (Nat.beq x)
        | .inl _ => false) && e.2.2.1.isNone) = true := ho
      rw [Bool.and_eq_true] at ho
      obtain ⟨eC, eo, eH⟩ := e
      dsimp only at ho hx' hp
      rcases eo with v | b
      · cases ho.1
      · cases x with
        | inl r => cases r <;> exact hx'.elim
        | inr x =>
          have e1 : b = x := hx'
          subst e1
          obtain ⟨y, y1, y2⟩ := List.any_eq_true.mp ho.1
          have e2 := Nat.eq_of_beq_eq_true y2
          refine hxs b σ' (by rw [e2]; exact y1) hp.1 hp.2.1 ?_
          have c1 := hp.2.2.1
          rw [Option.isNone_iff_eq_none.mp ho.2] at c1
          exact c1
    | inr S =>
      intro ν' Lc' sc' σ' u hL' hs' hp
      have ho : (Nat.beq S.2.1 p0 && (Nat.beq S.2.2.1.length z.1.2.2.1 && (S.2.2.2.1.isEmpty && (S.2.2.2.2.1.1.isNone && (Nat.beq S.2.2.2.2.2.1 k0 && (Nat.beq S.2.2.2.2.2.2 n0 && bs.all (mu_lo S))))))) = true := ho
      simp only [Bool.and_eq_true] at ho
      obtain ⟨o1, o0, o2, o3, o4, o5, o6⟩ := ho
      have e2 : S.2.2.2.1 = [] := List.isEmpty_iff.mp o2
      rw [e2] at hs'
      have e3 : sc' = [] := by
        cases sc' with
        | nil => rfl
        | cons _ _ => exact hs'.elim
      rw [e3, Nat.eq_of_beq_eq_true o1, Nat.eq_of_beq_eq_true o4, Nat.eq_of_beq_eq_true o5]
      have c1 := hp.2.2.1
      rw [Option.isNone_iff_eq_none.mp o3] at c1
      refine hn Lc' σ' ?_ (fun b hb => ?_) hp.1 hp.2.1 c1
      · rw [← Nat.eq_of_beq_eq_true o0]; exact hL'.1
      · have g := List.all_eq_true.mp o6 b hb
        unfold mu_lo at g
        cases hv : ab_ld S.2.2.1 b.1 with
        | none => rw [hv] at g; cases g
        | some v =>
          rw [hv] at g
          have hv2 : S.2.2.1[b.1]? = some (some v) := by
            unfold ab_ld at hv
            split at hv
            · rename_i w hw
              cases hv
              exact hw
            · cases hv
          obtain ⟨x, x1, x2⟩ := hL'.2 b.1 v hv2
          exact ⟨x, x1, ab_in_ok u.1 x2 g⟩
  obtain ⟨x, τ, ⟨f, r⟩, q⟩ := main
  exact ⟨x, τ, ⟨f + 1, ev_c_succ.mpr ⟨z, hz, hlen, r⟩⟩, q⟩
