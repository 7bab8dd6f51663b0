/-! step by step -/
def tw_m (j : Nat) : Bool := [17, 49, 60, 90, 96, 108, 109, 118, 122].any (Nat.beq j)
def tw_st (r : mRow) : Bool := match r.1 with
  | .invokestatic _ => true
  | _ => false
def tw_rB (r : mRow) : Bool := !(tr_w r) && (!(tw_acmp r) && (!(tw_st r) && match tr_inv r with
  | none => true
  | some i => tw_m i))
theorem tw_rows : (List.range 123).all (fun j => !(tw_m j) || match m_alF[j]? with
  | some z => !(sm_sp j) && (z.1.2.2.2.2.2.isEmpty && z.2.1.all (fun q => tw_rB q.2))
  | none => false) = true := by decide +kernel
def tw_sr (σ : mS) (s s2 : ev_T) : Prop := ∃ Lp stp, s.2.1 = rL tw_1 Lp ∧ s2.2.1 = rL tw_2 Lp ∧ s.2.2.1 = rS tw_1 stp ∧ s2.2.2.1 = rS tw_2 stp ∧ (∀ v, some v ∈ Lp → gV (tw_g σ) v) ∧ (∀ v ∈ stp, gV (tw_g σ) v) ∧ s2.1 = s.1 ∧ s.2.2.2.1 = σ ∧ s2.2.2.2 = (σ, s.2.2.2.2)
def tw_oq (σ : mS) (o2 : Option ev_O) (o : ev_O) : Prop := match o with
  | .inl s' => ∃ s2', o2 = some (.inl s2') ∧ tw_sr σ s' s2'
  | .inr (.inl e) => ∃ v, e = (.inl (v.map (rn tw_1)), σ) ∧ o2 = some (.inr (.inl (.inl (v.map (rn tw_2)), σ))) ∧ ∀ w, v = some w → gV (tw_g σ) w
  | .inr (.inr c) => tw_m c.1 = true ∧ ∃ ap sp, c.2.2.1 = rS tw_1 ap ∧ c.2.2.2 = rS tw_1 sp ∧ o2 = some (.inr (.inr (c.1, c.2.1, rS tw_2 ap, rS tw_2 sp))) ∧ (∀ v ∈ ap, gV (tw_g σ) v) ∧ ∀ v ∈ sp, gV (tw_g σ) v
theorem tw_callV {R : Room} {y : mMt} {r : mRow} {stp : List mV} {k n : Nat} {o : ev_O} {σ : mS} (hi : tw_m r.2.2.1 = true) (hS : ∀ v ∈ stp, gV (tw_g σ) v) (h : ev_callV R y r (rS tw_1 stp) k n = some o) : tw_oq σ (ev_callV R y r (rS tw_2 stp) k n) o := by
  unfold ev_callV at h ⊢
  rw [rS_drop] at h ⊢
  cases hd : stp.drop r.2.2.2.1 with
  | nil => rw [hd] at h; cases h
  | cons w st1 =>
    rw [hd] at h
    rcases w with a | a | _ | p
    · cases h
    · cases h
    · cases h
    · obtain ⟨⟨e1, e2, e3, e4⟩, e5⟩ := ev_if_some.mp h
      cases e5
      have e1 : p.1 = m_p r 5 := e1
      have hmem : ∀ v ∈ stp.drop r.2.2.2.1, v ∈ stp := fun v hv => List.mem_of_mem_drop hv
      rw [hd] at hmem
      refine ⟨hi, .inr (.inr (some (m_p r 5, p.2))) :: m_take stp r, st1, ?_, rfl, ?_, fun v hv => ?_, fun v hv => hS v (hmem v (List.mem_cons_of_mem _ hv))⟩
      · show (.inr (.inr (some (m_p r 5, p.2 / 2))) : mV) :: m_take (rS tw_1 stp) r = .inr (.inr (some (m_p r 5, p.2 / 2))) :: rS tw_1 (m_take stp r)
        rw [rS_mtake]
      · have e3 : ((rS tw_1 st1).map m_cat).sum ≤ 8 := e3
        rw [rS_sum] at e3
        rw [rS_take, rS_len] at e2
        refine ev_if_some.mpr ⟨⟨e1, by rw [rS_take, rS_len]; exact e2, by show ((rS tw_2 st1).map m_cat).sum ≤ 8; rw [rS_sum]; exact e3, e4⟩, ?_⟩
        show some (Sum.inr (Sum.inr (r.2.2.1, y, .inr (.inr (some (m_p r 5, p.2 / 2 + p.2 % 2 * sm_off p.1))) :: m_take (rS tw_2 stp) r, rS tw_2 st1))) = some (Sum.inr (Sum.inr (r.2.2.1, y, .inr (.inr (some (m_p r 5, p.2 / 2 + p.2 % 2 * sm_off (m_p r 5)))) :: rS tw_2 (m_take stp r), rS tw_2 st1)))
        rw [rS_mtake, e1]
      · rcases List.mem_cons.mp hv with rfl | hv
        · have := hS _ (hmem _ List.mem_cons_self)
          have this : tw_g σ p := this
          show tw_g σ (m_p r 5, p.2)
          rw [← e1]
          exact this
        · exact hS v (List.mem_of_mem_take (List.mem_reverse.mp hv))
set_option maxHeartbeats 4000000 in
theorem tw_step {j : Nat} {z : mAl} {s s2 : ev_T} {o : ev_O} {σ : mS} (hsp : sm_sp j = false) (hro : ∀ pc r, m_at z.2.1 pc = some r → tw_rB r = true) (hr : sm_hr none hs_E σ σ) (hrel : tw_sr σ s s2) (hG : sm_G j z s) (ho : ev_st none z s = some o) : tw_oq σ (ev_st none z s2) o := by
  obtain ⟨pc, L, st, σ', k, n⟩ := s
  obtain ⟨pc2, L2, st2, kn⟩ := s2
  obtain ⟨Lp, stp, h1, h2, h3, h4, hL, hS, h5, h6, h7⟩ := hrel
  dsimp only at h1 h2 h3 h4 hL hS h5 h6 h7
  have h5 := h5.symm
  subst h1; subst h2; subst h3; subst h4; subst h5; subst h6; subst h7
  unfold sm_G at hG
  show tw_oq σ' (ev_nf none m_mt z.1.2.2.2.1 z.1.2.2.2.2.1 z.1.2.2.1 z.2.1 z.1.2.2.2.2.1.cells z.1.2.2.2.2.1.slots pc (rL tw_2 Lp) (rS tw_2 stp) σ' k n) o
  unfold ev_st at ho
  unfold ev_nf at ho ⊢
  dsimp only at hG ho ⊢
  have hm : ∀ pc, sm_md j pc = none := fun pc => sm_md_n hsp
  cases hrow : m_at z.2.1 pc with
  | none => rw [hrow] at hG; exact hG.elim
  | some r =>
  have hB := hro pc r hrow
  rw [hrow] at hG ho
  dsimp only at hG ho ⊢
  have nw : ∀ {pc' : Nat} {o1 o2 : Option (List mV)}, (∀ st', o1 = some st' → ∃ stp', st' = rS tw_1 stp' ∧ o2 = some (rS tw_2 stp') ∧ ∀ v ∈ stp', gV (tw_g σ') v) → ev_nw pc' (rL tw_1 Lp) σ' k n o1 = some o → tw_oq σ' (ev_nw pc' (rL tw_2 Lp) σ' k n o2) o := by
    intro pc' o1 o2 hh h
    cases o1 with
    | none => cases h
    | some st' =>
      cases h
      obtain ⟨stp', g1, g2, g3⟩ := hh st' rfl
      subst g1; subst g2
      exact ⟨_, rfl, Lp, stp', rfl, rfl, rfl, rfl, hL, g3, rfl, rfl, rfl⟩
  have ret : ∀ {ov : Option (Option mV)} {o2 : Option ev_O}, (∀ v, ov = some v → ∃ w, v = w.map (rn tw_1) ∧ o2 = ev_ny σ' (some (w.map (rn tw_2))) ∧ ∀ u, w = some u → u ∈ stp) → ev_ny σ' ov = some o → tw_oq σ' o2 o := by
    intro ov o2 hh h
    cases ov with
    | none => cases h
    | some v =>
      cases h
      obtain ⟨w, g1, g2, g3⟩ := hh v rfl
      subst g1
      exact ⟨w, rfl, g2, fun u hu => hS u (g3 u hu)⟩
  unfold tw_rB at hB
  simp only [Bool.and_eq_true, Bool.not_eq_true'] at hB
  obtain ⟨hw, ha, hst, hcl⟩ := hB
  obtain ⟨ig, ln, ra, rb, rz, rp⟩ := r
  cases ig
  case getfield i => exact nw (fun st' h => tw_get hsp hS hr hG h) ho
  case putfield i => cases hw
  case arraylength =>
    dsimp only at ho ⊢
    have hxs : ∀ (ρ : Nat × Nat → mR) (l : List mV), m_isx (rS ρ l) 0 = true → ev_xlen none (rS ρ l) = none := fun _ _ _ => rfl
    cases hi : m_isx (rS tw_1 stp) 0 with
    | true => rw [hi] at ho; cases ho
    | false =>
      rw [hi] at ho
      have hi2 : m_isx (rS tw_2 stp) 0 = false := by
        rcases stp with _ | ⟨a | a | _ | q, l⟩
        · rfl
        · rfl
        · rfl
        · rfl
        · exact hi
      rw [hi2]
      exact nw (fun st' h => tw_len hS hr h) ho
  case iaload =>
    dsimp only at ho ⊢
    cases hi : m_isx (rS tw_1 stp) 1 with
    | true => rw [hi] at ho; cases ho
    | false =>
      rw [hi] at ho
      have hi2 : m_isx (rS tw_2 stp) 1 = false := by
        rcases stp with _ | ⟨b, _ | ⟨a | a | _ | q, l⟩⟩
        · rfl
        · rfl
        · rfl
        · rfl
        · rfl
        · exact hi
      rw [hi2]
      exact nw (fun st' h => tw_ald (Or.inl rfl) hS hr h) ho
  case laload => exact nw (fun st' h => tw_ald (Or.inr rfl) hS hr h) ho
  case aaload => exact nw (fun st' h => tw_aldq hm hS hr hG h) ho
  case iastore => cases hw
  case lastore => cases hw
  case invokevirtual i =>
    dsimp only at ho ⊢
    obtain ⟨g1, g2⟩ := ev_if_some.mp ho
    rw [rn_len] at g1
    cases hy : m_mt[ra]? with
    | none => rw [hy] at g2; cases g2
    | some y =>
      rw [hy] at g2
      have := tw_callV (σ := σ') (show tw_m ra = true from hcl) hS g2
      have e : ev_if ((rL tw_2 Lp).length = z.1.2.2.1) (ev_callV z.1.2.2.2.2.1 y (.invokevirtual i, ln, ra, rb, rz, rp) (rS tw_2 stp) k n) = ev_callV z.1.2.2.2.2.1 y (.invokevirtual i, ln, ra, rb, rz, rp) (rS tw_2 stp) k n := by
        unfold ev_if
        rw [if_pos (by rw [rn_len]; exact g1)]
      rw [e]
      exact this
  case invokespecial i =>
    dsimp only at ho ⊢
    obtain ⟨g1, g2⟩ := ev_if_some.mp ho
    rw [rn_len] at g1
    have hne : ¬ ra = 2000 := hG.2
    rw [if_neg hne] at g2
    cases hy : m_mt[ra]? with
    | none => rw [hy] at g2; cases g2
    | some y =>
      rw [hy] at g2
      have hcl : tw_m ra = true := by
        have e : tr_inv (.invokespecial i, ln, ra, rb, rz, rp) = some ra := by
          show (bif Nat.beq ra 2000 then none else some ra) = some ra
          cases hb : Nat.beq ra 2000 with
          | true => exact absurd (Nat.eq_of_beq_eq_true hb) hne
          | false => rfl
        rw [e] at hcl
        exact hcl
      have := tw_callV (σ := σ') (r := (.invokespecial i, ln, ra, rb, rz, rp)) hcl hS g2
      have e : ev_if ((rL tw_2 Lp).length = z.1.2.2.1) (if ra = 2000 then ev_nw (pc + 3) (rL tw_2 Lp) σ' k n (ev_obj z.1.2.2.2.2.1 (rS tw_2 stp)) else ev_callV z.1.2.2.2.2.1 y (.invokespecial i, ln, ra, rb, rz, rp) (rS tw_2 stp) k n) = ev_callV z.1.2.2.2.2.1 y (.invokespecial i, ln, ra, rb, rz, rp) (rS tw_2 stp) k n := by
        unfold ev_if
        rw [if_pos (by rw [rn_len]; exact g1), if_neg hne]
      rw [e]
      exact this
  case invokestatic i => cases hst
  case ireturn =>
    dsimp only at ho ⊢
    obtain ⟨g1, g2⟩ := ev_if_some.mp ho
    refine ret (fun v hv => ?_) g2
    rcases stp with _ | ⟨a | a | _ | a, _ | ⟨b, st⟩⟩ <;> first | cases hv | skip
    obtain ⟨k1, k2⟩ := ev_if_some.mp hv
    cases k2
    exact ⟨some (.inl a), rfl, ev_if_some.mpr ⟨g1, congrArg (ev_ny σ') (ev_if_some.mpr ⟨k1, rfl⟩)⟩, (fun u hu => by cases hu; exact List.mem_cons_self)⟩
  case lreturn =>
    dsimp only at ho ⊢
    obtain ⟨g1, g2⟩ := ev_if_some.mp ho
    refine ret (fun v hv => ?_) g2
    rcases stp with _ | ⟨a | a | _ | a, _ | ⟨b, st⟩⟩ <;> first | cases hv | skip
    obtain ⟨k1, k2⟩ := ev_if_some.mp hv
    cases k2
    exact ⟨some (.inr (.inl a)), rfl, ev_if_some.mpr ⟨g1, congrArg (ev_ny σ') (ev_if_some.mpr ⟨k1, rfl⟩)⟩, (fun u hu => by cases hu; exact List.mem_cons_self)⟩
  case areturn =>
    dsimp only at ho ⊢
    obtain ⟨g1, g2⟩ := ev_if_some.mp ho
    refine ret (fun v hv => ?_) g2
    rcases stp with _ | ⟨a | a | _ | a, _ | ⟨b, st⟩⟩ <;> first | cases hv | skip
    · obtain ⟨k1, k2⟩ := ev_if_some.mp hv
      cases k2
      exact ⟨some (.inr (.inr none)), rfl, ev_if_some.mpr ⟨g1, congrArg (ev_ny σ') (ev_if_some.mpr ⟨k1, rfl⟩)⟩, (fun u hu => by cases hu; exact List.mem_cons_self)⟩
    · obtain ⟨k1, k2⟩ := ev_if_some.mp hv
      cases k2
      exact ⟨some (.inr (.inr (some a))), rfl, ev_if_some.mpr ⟨g1, congrArg (ev_ny σ') (ev_if_some.mpr ⟨k1, rfl⟩)⟩, (fun u hu => by cases hu; exact List.mem_cons_self)⟩
  case return_ =>
    dsimp only at ho ⊢
    obtain ⟨g1, g2⟩ := ev_if_some.mp ho
    cases g2
    have hn : stp = [] := by
      cases stp with
      | nil => rfl
      | cons a t => exact absurd g1.2.2.2 (fun z => by cases z)
    subst hn
    exact ⟨none, rfl, ev_if_some.mpr ⟨⟨g1.1, g1.2.1, g1.2.2.1, rfl⟩, rfl⟩, (fun w hw => by cases hw)⟩
  case new i => exact hG.elim
  case newarray i => exact hG.elim
  case anewarray i => exact hG.elim
  case multianewarray i d => exact hG.elim
  case baload => exact hG.elim
  case bastore => exact hG.elim
  case aastore => exact hG.elim
  all_goals
    have ho : ev_bare _ pc (rL tw_1 Lp) (rS tw_1 stp) σ' k n = some o := ho
    show tw_oq σ' (ev_bare _ pc (rL tw_2 Lp) (rS tw_2 stp) σ' k n) o
    unfold ev_bare at ho ⊢
    cases hc : m_cond _ (rS tw_1 stp) with
    | some q =>
      rw [hc] at ho
      dsimp only at ho
      obtain ⟨P, sp, p1, p2, p3⟩ := tw_cond tw_n1 ha hc
      obtain ⟨P', p4, p5⟩ := tw_condS tw_n2 ha p1
      rw [p4]
      dsimp only
      have gs := gV_cond p1 hS
      by_cases hq : q.1
      · rw [if_pos hq] at ho
        rw [if_pos (p5.mpr (p3.mp hq))]
        cases ho
        exact ⟨_, rfl, Lp, sp, rfl, rfl, p2, rfl, hL, gs, rfl, rfl, rfl⟩
      · rw [if_neg hq] at ho
        rw [if_neg (fun z => hq (p3.mpr (p5.mp z)))]
        cases ho
        exact ⟨_, rfl, Lp, sp, rfl, rfl, p2, rfl, hL, gs, rfl, rfl, rfl⟩
    | none =>
      rw [hc] at ho
      dsimp only at ho
      rw [tw_condN' tw_n2 ha (tw_condN tw_n1 ha hc)]
      dsimp only
      rw [rn_pure] at ho ⊢
      cases hp : m_pure _ pc Lp stp with
      | none => rw [hp] at ho; cases ho
      | some q =>
        rw [hp] at ho
        cases ho
        obtain ⟨k1, k2⟩ := gV_pure hp hL hS
        exact ⟨_, rfl, q.2.1, q.2.2, rfl, rfl, rfl, rfl, k1, k2, rfl, rfl, rfl⟩
def tw_lk (f j : Nat) (ap : List mV) (σ : mS) (x : mX) (σ' : mS) : Prop := ∃ v, x = .inl (v.map (rn tw_1)) ∧ σ' = σ ∧ ev_c sm_all f j (rS tw_2 ap) σ = some (.inl (v.map (rn tw_2)), σ) ∧ ∀ w, v = some w → gV (tw_g σ) w
theorem tw_lockr {f : Nat} {σ : mS} (hr : sm_hr none hs_E σ σ) (IH : ∀ (j : Nat) (ap : List mV) (x : mX) (σ' : mS), ev_c sm_G f j (rS tw_1 ap) σ = some (x, σ') → tw_m j = true → (∀ v ∈ ap, gV (tw_g σ) v) → tw_lk f j ap σ x σ')
    {j : Nat} {z : mAl} (hsp : sm_sp j = false) (hh : z.1.2.2.2.2.2 = []) (hro : ∀ pc r, m_at z.2.1 pc = some r → tw_rB r = true) : ∀ (g : Nat) (s s2 : ev_T) (x : mX) (σ' : mS), ev_r none sm_G (ev_c sm_G f) j z g s = some (x, σ') → tw_sr σ s s2 →
    ∃ v, x = .inl (v.map (rn tw_1)) ∧ σ' = σ ∧ ev_r none sm_all (ev_c sm_all f) j z g s2 = some (.inl (v.map (rn tw_2)), σ) ∧ ∀ w, v = some w → gV (tw_g σ) w
  | 0, _, _, _, _, h, _ => by cases h
  | g + 1, s, s2, x, σ', h, hrel => by
    obtain ⟨hG, o, ho, hro'⟩ := ev_r_succ.mp h
    have hout := tw_step hsp hro hr hrel hG ho
    rcases o with s' | e | c
    · obtain ⟨s2', h1, h2⟩ := hout
      obtain ⟨v, g1, g2, g3, g4⟩ := tw_lockr hr IH hsp hh hro g s' s2' x σ' hro' h2
      exact ⟨v, g1, g2, ev_r_succ.mpr ⟨trivial, _, h1, g3⟩, g4⟩
    · obtain ⟨v, h1, h2, h3⟩ := hout
      have e1 : e = (x, σ') := hro'
      rw [h1] at e1
      cases e1
      exact ⟨v, rfl, rfl, ev_r_succ.mpr ⟨trivial, _, h2, rfl⟩, h3⟩
    · obtain ⟨hm, ap, sp, h1, h2, h3, h4, h5⟩ := hout
      obtain ⟨y, τ, c1, c2⟩ := hro'
      obtain ⟨pc, L, st, σ1, k, n⟩ := s
      obtain ⟨pc2, L2, st2, kn⟩ := s2
      obtain ⟨Lp, stp, r1, r2, r3, r4, hL, hS, r5, r6, r7⟩ := hrel
      dsimp only at r1 r2 r3 r4 hL hS r5 r6 r7 h1 h2 h3 c1
      have r5 := r5.symm
      subst r1; subst r2; subst r3; subst r4; subst r5; subst r6; subst r7
      rw [h1] at c1
      obtain ⟨v, k1, k2, k3, k4⟩ := IH c.1 ap y τ c1 hm h4
      subst k1; subst k2
      have app : ∀ (ρ : Nat × Nat → mR) (v : Option mV), rS ρ (v.toList ++ sp) = (v.map (rn ρ)).toList ++ rS ρ sp := by
        intro ρ v
        cases v <;> rfl
      obtain ⟨v', g1, g2, g3, g4⟩ := tw_lockr hr IH hsp hh hro g (ev_nxt (pc, rL tw_1 Lp, rS tw_1 stp, τ, k, n) c (v.map (rn tw_1)) τ) (ev_nxt (pc, rL tw_2 Lp, rS tw_2 stp, τ, k, n) (c.1, c.2.1, rS tw_2 ap, rS tw_2 sp) (v.map (rn tw_2)) τ) x σ' c2 ⟨Lp, v.toList ++ sp, rfl, rfl, (by
        show (v.map (rn tw_1)).toList ++ c.2.2.2 = _
        rw [app, h2]), (app tw_2 v).symm, hL, (fun w hw => by
        rcases List.mem_append.mp hw with hw | hw
        · cases v with
          | none => cases hw
          | some v =>
            have e := List.mem_singleton.mp hw
            subst e
            exact k4 _ rfl
        · exact h5 w hw), rfl, rfl, rfl⟩
      exact ⟨v', g1, g2, ev_r_succ.mpr ⟨trivial, _, h3, .inl (v.map (rn tw_2)), τ, k3, g3⟩, g4⟩
theorem tw_lock {σ : mS} (hr : sm_hr none hs_E σ σ) : ∀ (f j : Nat) (ap : List mV) (x : mX) (σ' : mS), ev_c sm_G f j (rS tw_1 ap) σ = some (x, σ') → tw_m j = true → (∀ v ∈ ap, gV (tw_g σ) v) → tw_lk f j ap σ x σ'
  | 0, _, _, _, _, h, _, _ => by cases h
  | f + 1, j, ap, x, σ', h, hm, hav => by
    obtain ⟨z, h1, h3, h4⟩ := ev_c_succ.mp h
    have hlt : j < 123 := by
      obtain ⟨i, i1, i2⟩ := List.any_eq_true.mp hm
      have e := Nat.eq_of_beq_eq_true i2
      subst e
      simp only [List.mem_cons, List.mem_nil_iff, or_false] at i1
      omega
    have hz := List.all_eq_true.mp tw_rows j (List.mem_range.mpr hlt)
    rw [hm, h1] at hz
    simp only [Bool.not_true, Bool.false_or, Bool.and_eq_true, Bool.not_eq_true'] at hz
    obtain ⟨z1s, z2s, z3s⟩ := hz
    obtain ⟨v, g1, g2, g3, g4⟩ := tw_lockr hr (tw_lock hr f) z1s (List.isEmpty_iff.mp z2s) (fun pc r h => List.all_eq_true.mp z3s _ (m_at_mem h)) f (0, m_L0 z.1.2.2.1 (rS tw_1 ap), [], σ, 0, 0) (0, m_L0 z.1.2.2.1 (rS tw_2 ap), [], σ, 0, 0) x σ' h4 ⟨m_L0 z.1.2.2.1 ap, [], rn_L0, rn_L0, rfl, rfl, (fun v hv => hav v (m_L0_mem hv)), (fun v hv => by cases hv), rfl, rfl, rfl⟩
    exact ⟨v, g1, g2, ev_c_succ.mpr ⟨z, h1, by rw [rn_args, rn_len] at h3 ⊢; exact h3, g3⟩, g4⟩
