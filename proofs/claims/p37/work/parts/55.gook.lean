/-! what the second analysis says of a method holds of it -/
section ACG
variable {l : Launch} {kp : ac_Kp} {SP : ac_SP} {G : ac_GT}
theorem ac_callee (hl : l.stackTraces = false) (hG : ac_GOK l kp G) {j : Nat} {args : List ab_V} {C : ab_C} {H : ac_H} {z : mAl} {outs : List ac_Q} (hz : m_alF[j]? = some z) (hlen : Nat.ble (ab_args args).length z.1.2.2.1 = true) (hg : ac_unz (G false j z [] (C, 0, ab_L0 z.1.2.2.1 args, [], H, 0, 0)) = some outs)
    (hhr : z.1.2.2.2.2.2 ≠ [] → z.1.1.cls = RL ∧ z.2.2 = false ∧ m_hok z.1.2.2.2.2.2 = true)
    {xs : ab_X} {ν : ab_N} {σ0 : mS} {avs : List mV} {σ : mS} {Q : mX → mS → Prop} (h : ab_cx xs C ν) (ha : ab_Vs C.1.length ν args avs) (hp : ac_hp kp σ0 C.1.length ν H σ) (hQ : ∀ e ∈ outs, ∀ ν' x σ', ab_up xs C ν e.1 ν' → ab_xo e.1.1.length ν' e.2.1 x → ac_hp kp σ0 e.1.1.length ν' e.2.2 σ' → Q x σ') : m_ConI l j avs σ Q := by
  cases hq : G false j z [] (C, 0, ab_L0 z.1.2.2.1 args, [], H, 0, 0) with
  | none => rw [hq] at hg; cases hg
  | some os =>
  rw [hq] at hg
  have hg : ac_unz1 os = some outs := hg
  have hn : (m_args avs).length ≤ z.1.2.2.1 := by
    rw [(ab_args_ok ha).1]
    exact Nat.le_of_ble_eq_true hlen
  have main : ∀ J : Nat → List (Option mV) → List mV → mS → Nat → Nat → Prop, ab_cl l z none Q J → J 0 (m_L0 z.1.2.2.1 avs) [] σ 0 0 := fun J hJ =>
    hG false j z [] _ os hq xs none ν σ0 _ [] σ Q J (fun w => by cases w) (fun w => by cases w) hJ (fun p hp => by cases hp) h (ab_L0_ok ha) trivial hp (fun o ho => by
      obtain ⟨e, he, rfl⟩ := ac_unz1_ok hg o ho
      exact hQ e he)
  intro y hy
  have e2 : y = z.1 := Option.some.inj (hy.symm.trans (m_alF_at hz))
  subst e2
  obtain ⟨k1, k2, k3⟩ := m_alF_ok z (List.mem_of_getElem? hz)
  obtain ⟨⟨y1, y2, y3, y4, y5, hh⟩, rows, ini⟩ := z
  cases hh with
  | nil => exact m_con_goF hl (CC := m_ConI l) (fun j y avs σ Q hy h => h y hy) k1 k3 hn k2 (fun J hS => main J hS)
  | cons w ws =>
    obtain ⟨h1, h2, h3⟩ := hhr (fun w => by cases w)
    obtain ⟨c, nm, ds⟩ := y1
    dsimp only at h1 h2 h3
    subst h1
    subst h2
    exact m_con_goH hl (CC := m_ConI l) (fun j y avs σ Q hy h => h y hy) h3 m_cast_ok k1 hn (fun J hS => main J (fun pc L st σ k n hst => hS [] 0 pc L st σ k n hst))
theorem ac_ret_ok (hl : l.stackTraces = false) (hSP : ac_SPok l kp SP) (hG : ac_GOK l kp G) {j : Nat} {args : List ab_V} {C : ab_C} {H : ac_H} {outs : List ac_Q} (hr : ac_ret SP G j args C H = some outs)
    {xs : ab_X} {ν : ab_N} {σ0 : mS} {avs : List mV} {σ : mS} {Q : mX → mS → Prop} (h : ab_cx xs C ν) (ha : ab_Vs C.1.length ν args avs) (hp : ac_hp kp σ0 C.1.length ν H σ) (hQ : ∀ e ∈ outs, ∀ ν' x σ', ab_up xs C ν e.1 ν' → ab_xo e.1.1.length ν' e.2.1 x → ac_hp kp σ0 e.1.1.length ν' e.2.2 σ' → Q x σ') : m_ConI l j avs σ Q := by
  unfold ac_ret at hr
  cases hs : SP j args C H with
  | some o =>
    rw [hs] at hr
    cases hr
    exact hSP j args C H outs hs xs ν σ0 avs σ h ha hp Q hQ
  | none =>
    rw [hs] at hr
    dsimp only at hr
    cases hz : m_alF[j]? with
    | none => rw [hz] at hr; cases hr
    | some z =>
      rw [hz] at hr
      dsimp only at hr
      cases hb : Nat.ble (ab_args args).length z.1.2.2.1 with
      | false => rw [hb] at hr; cases hr
      | true =>
        rw [hb] at hr
        exact ac_callee hl hG hz hb hr (m_alF_hh z (List.mem_of_getElem? hz)) h ha hp hQ
theorem ac_body_ok (hl : l.stackTraces = false) (hSP : ac_SPok l kp SP) (hG : ac_GOK l kp G) {ms : Bool} {j : Nat} {z : mAl} {act : List ac_Lp} {S : ac_S} {outs : List ac_Z} (hb : ac_body kp SP G ms j z act S = some outs) {xs xs0 : ab_X} {ν : ab_N} {σ0 : mS} {Lc : List (Option mV)} {sc : List mV} {σ : mS} {Q : mX → mS → Prop} {J : Nat → List (Option mV) → List mV → mS → Nat → Nat → Prop}
    (hx0 : ms = true → xs0 = xs) (hxl : ab_xl ms xs S.1 ν) (hJ : ab_cl l z xs0 Q J) (hact : ∀ p ∈ act, ac_acs kp σ0 J S.1.1.length ν p) (h : ab_cx xs S.1 ν) (hL : ab_Ls S.1.1.length ν S.2.2.1 Lc) (hst : ab_Vs S.1.1.length ν S.2.2.2.1 sc) (hp : ac_hp kp σ0 S.1.1.length ν S.2.2.2.2.1 σ) (hout : ∀ o ∈ outs, ac_zo kp σ0 xs S.1 ν J Q o) :
    J S.2.1 Lc sc σ S.2.2.2.2.2.1 S.2.2.2.2.2.2 := by
  unfold ac_body at hb
  cases hs : ac_stp kp ms z.1 z.2.1 S.2.1 S.1 S.2.2.1 S.2.2.2.1 S.2.2.2.2.1 S.2.2.2.2.2.1 S.2.2.2.2.2.2 with
  | none => rw [hs] at hb; cases hb
  | some o =>
  rw [hs] at hb
  refine hJ _ _ _ _ _ _ (ac_stp_ok hx0 hxl h hL hst hp hs ?_)
  rcases o with nx | e | c
  · intro q hq
    obtain ⟨r, r1, r2⟩ := ab_all_ok hb q hq
    exact fun ν' Lc' sc' σ' u g1 g2 g3 => hG ms j z act q r r1 xs xs0 ν' σ0 Lc' sc' σ' Q J hx0 (hxl.up u) hJ (fun p hp => (hact p hp).up u.2.1 u.2.2) u.1 g1 g2 g3 (fun o ho => (hout o (r2 o ho)).up u)
  · cases hb
    exact hout _ List.mem_cons_self
  · dsimp only at hb
    intro avs sc' ha hs' y' hy'
    rw [hy'] at hb
    dsimp only at hb
    cases hr : ac_ret SP G c.1 c.2.1 S.1 S.2.2.2.2.1 with
    | none => rw [hr] at hb; cases hb
    | some os =>
    rw [hr] at hb
    refine ac_ret_ok hl hSP hG hr h ha hp (fun e he ν' x σ' u hx hσ => ?_)
    obtain ⟨r, r1, r2⟩ := ab_all_ok hb e he
    have hout' : ∀ o ∈ r, ac_zo kp σ0 xs e.1 ν' J Q o := fun o ho => (hout o (r2 o ho)).up u
    unfold ac_back at r1
    obtain ⟨eC, eo, eH⟩ := e
    rcases eo with v | x0
    · dsimp only at r1
      cases v with
      | none =>
        cases x with
        | inr _ => exact hx.elim
        | inl w =>
          cases w with
          | some _ => exact hx.elim
          | none => exact hG ms j z act _ r r1 xs xs0 ν' σ0 Lc sc' σ' Q J hx0 (hxl.up u) hJ (fun p hp => (hact p hp).up u.2.1 u.2.2) u.1 (hL.ex u.2.1 u.2.2) (hs'.ex u.2.1 u.2.2) hσ hout'
      | some v =>
        cases x with
        | inr _ => exact hx.elim
        | inl w =>
          cases w with
          | none => exact hx.elim
          | some w => exact hG ms j z act _ r r1 xs xs0 ν' σ0 Lc (w :: sc') σ' Q J hx0 (hxl.up u) hJ (fun p hp => (hact p hp).up u.2.1 u.2.2) u.1 (hL.ex u.2.1 u.2.2) ⟨hx, hs'.ex u.2.1 u.2.2⟩ hσ hout'
    · cases x with
      | inl w => cases w <;> exact hx.elim
      | inr x =>
        have e1 : x0 = x := hx
        subst e1
        show ab_TT z Q J S.2.1 Lc σ' (S.2.2.2.2.2.1 + y'.2.2.2.2.1.cells) (S.2.2.2.2.2.2 + y'.2.2.2.2.1.slots) x0
        unfold ab_TT
        dsimp only at r1
        cases hh : z.1.2.2.2.2.2 with
        | nil =>
          rw [hh] at r1
          dsimp only at r1 ⊢
          cases hrm : ab_rm z.1.2.2.2.2.1 (S.2.2.2.2.2.1 + y'.2.2.2.2.1.cells) (S.2.2.2.2.2.2 + y'.2.2.2.2.1.slots) with
          | false => rw [hrm] at r1; cases r1
          | true =>
            rw [hrm] at r1
            cases r1
            have g := ab_rm_ok hrm
            exact ⟨g.1, g.2, hout' _ List.mem_cons_self ν' (.inr x0) σ' (ab_up.rf u.1) rfl hσ⟩
        | cons w ws =>
          rw [hh] at r1
          dsimp only at r1 ⊢
          unfold m_TH
          cases h1 : m_hnd (w :: ws) S.2.1 x0 with
          | none => rw [h1] at r1; cases r1
          | some hd =>
            rw [h1] at r1
            dsimp only at r1 ⊢
            cases h2 : m_at z.2.1 hd with
            | none => rw [h2] at r1; cases r1
            | some rw0 =>
              rw [h2] at r1
              dsimp only at r1 ⊢
              split at r1
              · rename_i i hi
                cases hlt : Nat.blt i S.2.2.1.length with
                | false => rw [hlt] at r1; cases r1
                | true =>
                  rw [hlt] at r1
                  rw [Nat.blt_eq] at hlt
                  rw [hi]
                  exact ⟨by rw [hL.1]; exact hlt, hG ms j z act _ r r1 xs xs0 ν' σ0 _ [] σ' Q J hx0 (hxl.up u) hJ (fun p hp => (hact p hp).up u.2.1 u.2.2) u.1 ((hL.ex u.2.1 u.2.2).clr.setN) trivial hσ hout'⟩
              · rename_i i hi
                cases hlt : Nat.blt (i : Nat) S.2.2.1.length with
                | false => rw [hlt] at r1; cases r1
                | true =>
                  rw [hlt] at r1
                  rw [Nat.blt_eq] at hlt
                  rw [hi]
                  exact ⟨by rw [hL.1]; exact hlt, hG ms j z act _ r r1 xs xs0 ν' σ0 _ [] σ' Q J hx0 (hxl.up u) hJ (fun p hp => (hact p hp).up u.2.1 u.2.2) u.1 ((hL.ex u.2.1 u.2.2).clr.setN) trivial hσ hout'⟩
              · cases r1
theorem ac_core_ok (hl : l.stackTraces = false) (hSP : ac_SPok l kp SP) {LP : Nat → Nat → Option ac_An} (IH : ac_GOK l kp G) : ac_GOK l kp (ac_core kp SP LP G) := by
  intro ms j z act S outs hg xs xs0 ν σ0 Lc sc σ Q J hx0 hxl hJ hact h hL hst hp hout
  unfold ac_core at hg
  cases hlp : ac_lpx LP j S with
  | none =>
    rw [hlp] at hg
    exact ac_body_ok hl hSP IH hg hx0 hxl hJ hact h hL hst hp hout
  | some an =>
  rw [hlp] at hg
  dsimp only at hg
  cases hf : act.find? (fun l => Nat.beq l.1 S.2.1) with
  | some lp =>
    rw [hf] at hg
    dsimp only at hg
    cases hre : ac_re lp S with
    | false => rw [hre] at hg; cases hg
    | true =>
      have m1 := List.mem_of_find?_eq_some hf
      have m2' := List.find?_some hf
      have m2 : lp.1 = S.2.1 := Nat.eq_of_beq_eq_true m2'
      obtain ⟨⟨a1, a2, a3⟩, ⟨a4, ν0, Lc0, σ1, a5, a6⟩, a7⟩ := hact lp m1
      unfold ac_re at hre
      simp only [Bool.and_eq_true] at hre
      obtain ⟨r1, r2, r3, r4, r5, r6, r7⟩ := hre
      have e0 := List.isEmpty_iff.mp r1
      rw [e0] at hst
      have e1 := ab_Vs_0 hst
      subst e1
      have hk := ac_ckR_ok h hL hp r2
      have hI : ac_LI kp σ0 lp.2.1 lp.2.2.1 ν lp.2.2.2.1 lp.2.2.2.2.1 Lc σ := ⟨ab_ckL_ok a5 hL r3, ac_ckH_ok a6 a4 hp r4, hk⟩
      have g := a7 Lc σ hI (by
        cases hm : ac_ms lp.2.1 S.1 S.2.2.1 S.2.2.2.2.1 with
        | none => rw [hm] at r7; cases r7
        | some b =>
          rw [hm] at r7
          obtain ⟨x, y, x1, y1, e9, y2⟩ := ac_ms_ok h hL hp hm
          rw [e9]
          exact ac_dec_ok (a := (lp.2.2.2.2.2.2.2.1, lp.2.2.2.2.2.2.2.2)) h ⟨a2, rfl⟩ ⟨a3, rfl⟩ x1 y1 y2 r7)
      rw [← m2, Nat.eq_of_beq_eq_true r5, Nat.eq_of_beq_eq_true r6]
      exact g
  | none =>
    rw [hf] at hg
    dsimp only at hg
    cases ho : ac_eOk an S with
    | false => rw [ho] at hg; cases hg
    | true =>
    rw [ho] at hg
    dsimp only [cond_true] at hg
    cases hS : ac_eS kp.1 an S with
    | none => rw [hS] at hg; cases hg
    | some S' =>
    rw [hS] at hg
    dsimp only at hg
    cases hm : ac_ms an S'.1 S'.2.2.1 S'.2.2.2.2.1 with
    | none => rw [hm] at hg; cases hg
    | some e =>
    rw [hm] at hg
    dsimp only at hg
    obtain ⟨e1, hI0⟩ := ac_entry h hL hst hp ho
    subst e1
    have main : ∀ (m : Nat) (Lc : List (Option mV)) (σ : mS), ac_LI kp σ0 an S.1.1.length ν (ab_mask (ac_offL an) 0 S.2.2.1) (ac_Hf an S.2.2.2.2.1) Lc σ → ac_mz an Lc σ = m → J S.2.1 Lc [] σ S.2.2.2.2.2.1 S.2.2.2.2.2.2 := by
      intro m
      induction m using Nat.strongRecOn with
      | _ m ih =>
      intro Lc σ hI hme
      obtain ⟨ν', u, gL, gH, q1, q2, q3⟩ := ac_invS h hI hS
      obtain ⟨x, y, x1, y1, e9, -⟩ := ac_ms_ok u.1 gL gH hm
      have hb := ac_body_ok hl hSP IH (S := S') (sc := []) hg hx0 (hxl.up u) hJ (fun p hp => ?_) u.1 gL (by rw [q2]; trivial) gH (fun o ho => (hout o ho).up u)
      · rw [q1, q3] at hb
        exact hb
      · rcases List.mem_cons.mp hp with rfl | hp
        · refine ⟨⟨u.2.2, x1.1, y1.1⟩, ⟨rfl, ν, Lc, σ, hI.1, hI.2.1⟩, fun Lc' σ' hI' hcnt => ?_⟩
          have hI2 : ac_LI kp σ0 an S.1.1.length ν (ab_mask (ac_offL an) 0 S.2.2.1) (ac_Hf an S.2.2.2.2.1) Lc' σ' := ac_LI.bk hI' u.2.1
          have hcnt' : ac_mz an Lc' σ' < ac_mu an (ν' e.1.1 + e.1.2) (ν' e.2.1 + e.2.2) := hcnt
          rw [← x1.2, ← y1.2, ← e9, hme] at hcnt'
          exact ih _ hcnt' Lc' σ' hI2 rfl
        · exact (hact p hp).up u.2.1 u.2.2
    exact main _ Lc σ hI0 rfl
theorem ac_go_ok (hl : l.stackTraces = false) (hSP : ac_SPok l kp SP) {LP : Nat → Nat → Option ac_An} {PL : Nat → Nat → List (Nat × Option Int)} {cut : Nat → Nat → Bool} : ∀ f : Nat, ac_GOK l kp (ac_go kp SP LP PL cut f)
  | 0 => fun ms j z act S outs h => by cases h
  | f + 1 => by
    have IH := ac_core_ok hl hSP (LP := LP) (ac_go_ok hl hSP (LP := LP) (PL := PL) (cut := cut) f)
    intro ms j z act S outs hg xs xs0 ν σ0 Lc sc σ Q J hx0 hxl hJ hact h hL hst hp hout
    have hg : (bif cut j S.2.1 then some [.inr S] else ab_all (ac_core kp SP LP (ac_go kp SP LP PL cut f) ms j z act) (ac_spm (PL j S.2.1) [S])) = some outs := hg
    cases hc : cut j S.2.1 with
    | true =>
      rw [hc] at hg
      cases hg
      exact hout _ List.mem_cons_self ν Lc sc σ (ab_up.rf h) hL hst hp
    | false =>
    rw [hc] at hg
    obtain ⟨S', s1, s2, s3, s4⟩ := ac_spm_ok (is := PL j S.2.1) (r := [S]) (S := S) ⟨S, List.mem_cons_self, h, rfl, rfl⟩ hL
    obtain ⟨r, r1, r2⟩ := ab_all_ok hg S' s1
    obtain ⟨C', S'⟩ := S'
    have s4 : S' = S.2 := s4
    subst s4
    have s3 : C'.1.length = S.1.1.length := s3
    have u : ab_up xs S.1 ν C' ν := ab_cx_up ⟨s2, s3⟩
    exact IH ms j z act _ r r1 xs xs0 ν σ0 Lc sc σ Q J hx0 (hxl.up u) hJ (fun p hp => (hact p hp).up u.2.1 u.2.2) s2 (hL.ex u.2.1 u.2.2) (hst.ex u.2.1 u.2.2) (hp.ex u.2.1 u.2.2) (fun o ho => (hout o (r2 o ho)).up u)
end ACG
