/-! a judgement that carries what is held along -/
def g_CC (l : Launch) (I : mS → Prop) (j : Nat) (avs : List mV) (σ : mS) (Q : mX → mS → Prop) : Prop := I σ → m_ConI l j avs σ (fun x σ' => I σ' ∧ Q x σ')
def g_o (I : mS → Prop) (o : ev_O) : Prop := match o with
  | .inl s' => I s'.2.2.2.1
  | .inr (.inl e) => I e.2
  | .inr (.inr _) => True
/-- the guarded steps keep it -/
def g_st (Gd : ev_G) (I : mS → Prop) : Prop := ∀ (xs : ab_X) (j : Nat) (z : mAl) (s : ev_T) (o : ev_O), Gd j z s → ev_st xs z s = some o → I s.2.2.2.1 → g_o I o
def g_J (I : mS → Prop) (J : Nat → List (Option mV) → List mV → mS → Nat → Nat → Prop) : Nat → List (Option mV) → List mV → mS → Nat → Nat → Prop := fun pc L st σ k n => I σ → J pc L st σ k n
theorem g_cl {l : Launch} {I : mS → Prop} {Gd : ev_G} (hst : g_st Gd I) {j : Nat} {z : mAl} {xs : ab_X} {Q Q' : mX → mS → Prop} {J : Nat → List (Option mV) → List mV → mS → Nat → Nat → Prop} (hQ : ∀ x σ', I σ' → Q x σ' → Q' x σ') (hJ : ab_cl l z xs Q' J) : ev_cl Gd (g_CC l I) j z xs Q (g_J I J) := by
  intro pc L st σ k n hG hst0 hI
  refine hJ pc L st σ k n ?_
  obtain ⟨o, o1, o2⟩ := ev_nf_ok.mp hst0
  refine ev_nf_ok.mpr ⟨o, o1, ?_⟩
  have hS := hst xs j z (pc, L, st, σ, k, n) o hG o1 hI
  rcases o with s' | e | c
  · exact o2 hS
  · exact hQ _ _ hS o2
  · refine ac_ConIm _ _ _ _ _ (fun x σ' hxs => ?_) (o2 hI)
    obtain ⟨hI', hxs⟩ := hxs
    cases x with
    | inl v => exact hxs hI'
    | inr x =>
      have hxs : ab_TT z Q (g_J I J) pc L σ' _ _ x := hxs
      show ab_TT z Q' J pc L σ' _ _ x
      unfold ab_TT at hxs ⊢
      cases hh : z.1.2.2.2.2.2 with
      | nil =>
        rw [hh] at hxs
        exact ⟨hxs.1, hxs.2.1, hQ _ _ hI' hxs.2.2⟩
      | cons w ws =>
        rw [hh] at hxs
        obtain ⟨s', h1, h2⟩ := (ev_hd_J (s := (pc, L, st, σ, k, n)) (c := c)).mp hxs
        refine (ev_hd_J (s := (pc, L, st, σ, k, n)) (c := c)).mpr ⟨s', h1, h2 ?_⟩
        have e : s'.2.2.2.1 = σ' := by
          unfold ev_hd at h1
          split at h1
          · cases h1
          · split at h1
            · cases h1
            · split at h1
              · split at h1
                · cases h1; rfl
                · cases h1
              · split at h1
                · cases h1; rfl
                · cases h1
              · cases h1
        rw [e]
        exact hI'
theorem g_rule {l : Launch} (hl : l.stackTraces = false) {I : mS → Prop} {Gd : ev_G} (hst : g_st Gd I) : ev_rule Gd (g_CC l I) := by
  intro j z avs σ Q hz hn main hI
  exact ev_conI hl hz hn (fun J hJ => main (g_J I J) (g_cl hst (fun x σ' a b => ⟨a, b⟩) hJ) hI)
/-! the law's judgement: what is held between the calls goes along -/
abbrev lw_CC (l : Launch) (σ0 : mS) : Nat → List mV → mS → (mX → mS → Prop) → Prop := g_CC l (iv σ0)
/-- an instruction that leaves what is held -/
def lw_g (r : mRow) (st : List mV) : Prop := tr_w r = false ∨ match r.1 with
  | .putfield _ => ∀ i, fpC r.2.2.1 i
  | .iastore => match st with
    | _ :: _ :: .inr (.inr (some q)) :: _ => fpC 13 q.2
    | _ => True
  | .lastore => match st with
    | _ :: _ :: .inr (.inr (some q)) :: _ => fpC 14 q.2
    | _ => True
  | .bastore => True
  | _ => False
def lw_G : ev_G := fun _ z s => match m_at z.2.1 s.1 with
  | none => True
  | some r => lw_g r s.2.2.1
def lw_gb (r : mRow) (C : ab_C) (st : List ab_V) : Bool := !(tr_w r) || match r.1 with
  | .putfield _ => [3, 5, 9, 12].any (Nat.beq r.2.2.1)
  | .iastore => match st with
    | _ :: _ :: .inr (.inr (.inl q)) :: _ => ab_le 4 (ab_iv C.1 q.2.1).1 && ab_le (ab_iv C.1 q.2.1).2 17
    | _ => false
  | .lastore => match st with
    | _ :: _ :: .inr (.inr (.inl q)) :: _ => ab_le 6 (ab_iv C.1 q.2.1).1 && ab_le (ab_iv C.1 q.2.1).2 6
    | _ => false
  | .bastore => true
  | _ => false
def lw_gd : ar_D := fun _ z S => match m_at z.2.1 S.2.1 with
  | none => true
  | some r => lw_gb r S.1 S.2.2.2.1
theorem lw_fpf {c : Nat} (h : [3, 5, 9, 12].any (Nat.beq c) = true) (i : Nat) : fpC c i := by
  obtain ⟨x, x1, x2⟩ := List.any_eq_true.mp h
  have e := Nat.eq_of_beq_eq_true x2
  rw [← e] at x1
  simp only [List.mem_cons, List.mem_nil_iff, or_false] at x1
  unfold fpC
  omega
theorem lw_st3 {n : Nat} {ν : ab_N} {v w : ab_V} {q : Nat × ab_E × ab_E} {st : List ab_V} {sc : List mV} (h : ab_Vs n ν (v :: w :: .inr (.inr (.inl q)) :: st) sc) : (∃ a b s', sc = a :: b :: .inr (.inr none) :: s') ∨ ∃ a b p s', sc = a :: b :: .inr (.inr (some p)) :: s' ∧ ab_I n ν q.2.1 (p.2 : Int) := by
  obtain ⟨a, s1, rfl, -, h⟩ := ab_Vs_c h
  obtain ⟨b, s2, rfl, -, h⟩ := ab_Vs_c h
  obtain ⟨c, s3, rfl, hc, h⟩ := ab_Vs_c h
  obtain ⟨r, rfl, g⟩ := ab_Va hc
  cases r with
  | none => exact Or.inl ⟨_, _, _, rfl⟩
  | some p => exact Or.inr ⟨_, _, p, _, rfl, g.1, g.2.2.2.2⟩
theorem lw_gd_ok (kp : ac_Kp) : ar_gok lw_G kp lw_gd := by
  intro j z S hb xs ν σ0 Lc sc σ h hL hst hp
  unfold lw_gd at hb
  show match m_at z.2.1 S.2.1 with
    | none => True
    | some r => lw_g r sc
  cases hr : m_at z.2.1 S.2.1 with
  | none => trivial
  | some r =>
    rw [hr] at hb
    dsimp only at hb ⊢
    unfold lw_gb at hb
    unfold lw_g
    rcases (Bool.or_eq_true _ _).mp hb with hb | hb
    · exact Or.inl (by simpa using hb)
    · refine Or.inr ?_
      obtain ⟨ig, rr⟩ := r
      cases ig
      case putfield i => exact lw_fpf hb
      case bastore => trivial
      case iastore =>
        dsimp only at hb ⊢
        split at hb
        · rename_i q st' heq
          rw [heq] at hst
          rw [Bool.and_eq_true, ab_le_ok, ab_le_ok] at hb
          rcases lw_st3 hst with ⟨a, b, s', rfl⟩ | ⟨a, b, p, s', rfl, g⟩
          · trivial
          · have := ab_iv_ok h.1 g
            show fpC 13 p.2
            unfold fpC
            omega
        · cases hb
      case lastore =>
        dsimp only at hb ⊢
        split at hb
        · rename_i q st' heq
          rw [heq] at hst
          rw [Bool.and_eq_true, ab_le_ok, ab_le_ok] at hb
          rcases lw_st3 hst with ⟨a, b, s', rfl⟩ | ⟨a, b, p, s', rfl, g⟩
          · trivial
          · have := ab_iv_ok h.1 g
            show fpC 14 p.2
            unfold fpC
            omega
        · cases hb
      all_goals cases hb
/-- a step leaves what is held -/
def lw_o (σ : mS) (o : ev_O) : Prop := match o with
  | .inl s' => fpS σ s'.2.2.2.1
  | .inr (.inl e) => fpS σ e.2
  | .inr (.inr _) => True
section LWS
variable {xs : ab_X} {mt : List mMt} {rt : Option FieldType} {R : Room} {nL : Nat} {rows : List (Nat × mRow)} {mc ms : Nat} {pc : Nat} {L : List (Option mV)} {st : List mV} {σ : mS} {k n : Nat} {r : mRow} {o : ev_O}
theorem lw_step (hr : m_at rows pc = some r) (hg : lw_g r st) (h : ev_nf xs mt rt R nL rows mc ms pc L st σ k n = some o) : lw_o σ o := by
  rcases hg with hw | hg
  · have g := tr_same hr hw h
    rcases o with s' | e | c
    · show fpS σ s'.2.2.2.1
      rw [show s'.2.2.2.1 = σ from g]
      exact fpS.rf
    · show fpS σ e.2
      rw [show e.2 = σ from g]
      exact fpS.rf
    · trivial
  · have nx : ∀ {pc' k' n' : Nat} {o1 : Option ev_H}, (∀ q, o1 = some q → fpS σ q.2) → ev_nx pc' L k' n' o1 = some o → lw_o σ o := by
      intro pc' k' n' o1 hq h
      cases o1 with
      | none => cases h
      | some q => cases h; exact hq q rfl
    unfold ev_nf at h
    rw [hr] at h
    dsimp only at h
    obtain ⟨ig, ln, ra, rb, rz, rp⟩ := r
    cases ig
    case putfield i =>
      refine nx (fun q hq => ?_) h
      unfold ev_put at hq
      split at hq
      · obtain ⟨-, e⟩ := ev_if_some.mp hq
        cases e
        exact fpS_set (hg _)
      · cases hq
    case iastore =>
      refine nx (fun q hq => ?_) h
      unfold ev_iast at hq
      split at hq
      · obtain ⟨-, e⟩ := ev_if_some.mp hq
        cases e
        dsimp only
        exact fpS_set hg
      · cases hq
    case lastore =>
      refine nx (fun q hq => ?_) h
      unfold ev_last at hq
      split at hq
      · obtain ⟨-, e⟩ := ev_if_some.mp hq
        cases e
        dsimp only
        exact fpS_set hg
      · cases hq
    case bastore =>
      refine nx (fun q hq => ?_) h
      unfold ev_zast at hq
      split at hq
      · obtain ⟨-, e⟩ := ev_if_some.mp hq
        cases e
        dsimp only
        exact fpS_set (by unfold fpC; omega)
      · cases hq
    all_goals exact hg.elim
end LWS
theorem lw_st (σ0 : mS) : g_st lw_G (iv σ0) := by
  intro xs j z s o hG ho hI
  have hG : match m_at z.2.1 s.1 with
    | none => True
    | some r => lw_g r s.2.2.1 := hG
  cases hr : m_at z.2.1 s.1 with
  | none =>
    unfold ev_st ev_nf at ho
    rw [hr] at ho
    cases ho
  | some r =>
    rw [hr] at hG
    have hS := lw_step hr hG ho
    rcases o with s' | e | c
    · exact iv_fp hI hS
    · exact iv_fp hI hS
    · trivial
abbrev lw_J (σ0 : mS) (J : Nat → List (Option mV) → List mV → mS → Nat → Nat → Prop) : Nat → List (Option mV) → List mV → mS → Nat → Nat → Prop := g_J (iv σ0) J
theorem lw_cl {l : Launch} {σ0 : mS} {j : Nat} {z : mAl} {xs : ab_X} {Q Q' : mX → mS → Prop} {J : Nat → List (Option mV) → List mV → mS → Nat → Nat → Prop} (hQ : ∀ x σ', iv σ0 σ' → Q x σ' → Q' x σ') (hJ : ab_cl l z xs Q' J) : ev_cl lw_G (lw_CC l σ0) j z xs Q (lw_J σ0 J) := g_cl (lw_st σ0) hQ hJ
theorem lw_rule {l : Launch} (hl : l.stackTraces = false) (σ0 : mS) : ev_rule lw_G (lw_CC l σ0) := g_rule hl (lw_st σ0)
/-! contracts that reach nothing of what is held -/
def lw_isS (o : Option ab_E) (e : ac_Q) : Bool := match o, e.2.2.1 with
  | some a, some b => ab_eE b a
  | _, _ => false
def lw_SPx (SP : ac_SP) : ac_SP := fun j args C H => bif H.1.isSome then (match SP j args C H with
  | some outs => bif outs.all (lw_isS H.1) then some outs else none
  | none => none) else none
theorem lw_SPx_ok {l : Launch} {σ0 : mS} {WB W : List ab_G} {SP : ac_SP} (hB : WB.all fpB = true) (hW : ac_subW WB W = true) (hSP : ac_SPok l (ac_K0, WB) SP) : ar_SPok (lw_CC l σ0) (ac_K0, W) (lw_SPx SP) := by
  intro j args C H outs hs xs ν σ1 avs σ h ha hp Q hQ hI
  unfold lw_SPx at hs
  cases hb : H.1.isSome with
  | false => rw [hb] at hs; cases hs
  | true =>
  rw [hb] at hs
  dsimp only [cond_true] at hs
  cases ho : SP j args C H with
  | none => rw [ho] at hs; cases hs
  | some os =>
  rw [ho] at hs
  dsimp only at hs
  cases ha2 : os.all (lw_isS H.1) with
  | false => rw [ha2] at hs; cases hs
  | true =>
  rw [ha2] at hs
  cases hs
  cases hH : H.1 with
  | none => rw [hH] at hb; cases hb
  | some c0 =>
  have hp0 := hp.2.2.1
  rw [hH] at hp0
  have hp0 : ab_I C.1.length ν c0 (σ.1 1 : Int) := hp0
  have hp' : ac_hp (ac_K0, WB) σ C.1.length ν H σ := ⟨hp.1, ac_fr.rf, by rw [hH]; exact hp0, hp.2.2.2.1, hp.2.2.2.2⟩
  refine hSP j args C H outs ho xs ν σ avs σ h ha hp' _ (fun e he ν' x σ' u hxs hσ => ?_)
  have is := List.all_eq_true.mp ha2 e he
  unfold lw_isS at is
  rw [hH] at is
  have hc' := hσ.2.2.1
  cases he1 : e.2.2.1 with
  | none => rw [he1] at is; cases is
  | some c1 =>
    rw [he1] at is hc'
    have e1 : c1 = c0 := ab_eE_ok is
    subst e1
    have hc' : ab_I e.1.1.length ν' c1 (σ'.1 1 : Int) := hc'
    have g0 := u.I hp0
    have ce : σ'.1 1 = σ.1 1 := by
      have h1 := hc'.2
      have h2 := g0.2
      omega
    exact ⟨iv_fp hI (fpS_fr hB hσ.2.1 ce), hQ e he ν' x σ' u hxs ⟨hσ.1, ac_fr_tr hp.2.1 hσ.2.1 hW, by rw [he1]; exact hc', hσ.2.2.2.1, hσ.2.2.2.2⟩⟩
