/-! the second analysis over a judgement of calls that has a rule, with a guard ahead of each step (out of 54, 55, 56) -/
abbrev ar_D : Type := Nat → mAl → ac_S → Bool
/-- a call: by a contract that is known, or through its body -/
def ar_ret (SP : ac_SP) (G : ac_GT) (j : Nat) (args : List ab_V) (C : ab_C) (H : ac_H) : Option (List ac_Q) := match SP j args C H with
  | some outs => some outs
  | none => match m_alF[j]? with
    | some z => bif Nat.ble (ab_args args).length z.1.2.2.1 then ac_unz (G false j z [] (C, 0, ab_L0 z.1.2.2.1 args, [], H, 0, 0)) else none
    | none => none
def ar_body (gd : ar_D) (kp : ac_Kp) (SP : ac_SP) (G : ac_GT) (ms : Bool) (j : Nat) (z : mAl) (act : List ac_Lp) (S : ac_S) : Option (List ac_Z) := bif !(gd j z S) then none else match ac_stp kp ms z.1 z.2.1 S.2.1 S.1 S.2.2.1 S.2.2.2.1 S.2.2.2.2.1 S.2.2.2.2.2.1 S.2.2.2.2.2.2 with
  | none => none
  | some (.inl nx) => ab_all (G ms j z act) nx
  | some (.inr (.inl e)) => some [.inl e]
  | some (.inr (.inr c)) => match m_mt[c.1]? with
    | none => none
    | some y' => match ar_ret SP G c.1 c.2.1 S.1 S.2.2.2.2.1 with
      | none => none
      | some outs => ab_all (ac_back G ms j z act S y' c.2.2) outs
def ar_core (gd : ar_D) (kp : ac_Kp) (SP : ac_SP) (LP : Nat → Nat → Option ac_An) (G : ac_GT) (ms : Bool) (j : Nat) (z : mAl) (act : List ac_Lp) (S : ac_S) : Option (List ac_Z) := match ac_lpx LP j S with
  | none => ar_body gd kp SP G ms j z act S
  | some an => match act.find? (fun l => Nat.beq l.1 S.2.1) with
    | some l => bif ac_re l S then some [] else none
    | none => bif ac_eOk an S then (match ac_eS kp.1 an S with
      | some S' => (match ac_ms an S'.1 S'.2.2.1 S'.2.2.2.2.1 with
        | some e => ar_body gd kp SP G ms j z (ac_lp an S e :: act) S'
        | none => none)
      | none => none) else none
def ar_go (gd : ar_D) (kp : ac_Kp) (SP : ac_SP) (LP : Nat → Nat → Option ac_An) (PL : Nat → Nat → List (Nat × Option Int)) (cut : Nat → Nat → Bool) : Nat → ac_GT
  | 0 => fun _ _ _ _ _ => none
  | f + 1 => fun ms j z act S => bif cut j S.2.1 then some [.inr S] else ab_all (ar_core gd kp SP LP (ar_go gd kp SP LP PL cut f) ms j z act) (ac_spm (PL j S.2.1) [S])
def ar_GOK (CC : Nat → List mV → mS → (mX → mS → Prop) → Prop) (Gd : ev_G) (kp : ac_Kp) (G : ac_GT) : Prop := ∀ (ms : Bool) (j : Nat) (z : mAl) (act : List ac_Lp) (S : ac_S) (outs : List ac_Z), G ms j z act S = some outs → ∀ (xs xs0 : ab_X) (ν : ab_N) (σ0 : mS) (Lc : List (Option mV)) (sc : List mV) (σ : mS) (Q : mX → mS → Prop) (J : Nat → List (Option mV) → List mV → mS → Nat → Nat → Prop),
  (ms = true → xs0 = xs) → ab_xl ms xs S.1 ν → ev_cl Gd CC j z xs0 Q J → (∀ p ∈ act, ac_acs kp σ0 J S.1.1.length ν p) → ab_cx xs S.1 ν → ab_Ls S.1.1.length ν S.2.2.1 Lc → ab_Vs S.1.1.length ν S.2.2.2.1 sc → ac_hp kp σ0 S.1.1.length ν S.2.2.2.2.1 σ → (∀ o ∈ outs, ac_zo kp σ0 xs S.1 ν J Q o) → J S.2.1 Lc sc σ S.2.2.2.2.2.1 S.2.2.2.2.2.2
def ar_SPok (CC : Nat → List mV → mS → (mX → mS → Prop) → Prop) (kp : ac_Kp) (SP : ac_SP) : Prop := ∀ (j : Nat) (args : List ab_V) (C : ab_C) (H : ac_H) (outs : List ac_Q), SP j args C H = some outs → ∀ (xs : ab_X) (ν : ab_N) (σ0 : mS) (avs : List mV) (σ : mS), ab_cx xs C ν → ab_Vs C.1.length ν args avs → ac_hp kp σ0 C.1.length ν H σ → ∀ Q : mX → mS → Prop, (∀ e ∈ outs, ∀ ν' x σ', ab_up xs C ν e.1 ν' → ab_xo e.1.1.length ν' e.2.1 x → ac_hp kp σ0 e.1.1.length ν' e.2.2 σ' → Q x σ') → CC j avs σ Q
def ar_gok (Gd : ev_G) (kp : ac_Kp) (gd : ar_D) : Prop := ∀ (j : Nat) (z : mAl) (S : ac_S), gd j z S = true → ∀ (xs : ab_X) (ν : ab_N) (σ0 : mS) (Lc : List (Option mV)) (sc : List mV) (σ : mS), ab_cx xs S.1 ν → ab_Ls S.1.1.length ν S.2.2.1 Lc → ab_Vs S.1.1.length ν S.2.2.2.1 sc → ac_hp kp σ0 S.1.1.length ν S.2.2.2.2.1 σ → Gd j z (S.2.1, Lc, sc, σ, S.2.2.2.2.2.1, S.2.2.2.2.2.2)
section ACG
variable {CC : Nat → List mV → mS → (mX → mS → Prop) → Prop} {Gd : ev_G} {gd : ar_D} {kp : ac_Kp} {SP : ac_SP} {G : ac_GT}
theorem ar_callee (hl : ev_rule Gd CC) (hG : ar_GOK CC Gd kp G) {j : Nat} {args : List ab_V} {C : ab_C} {H : ac_H} {z : mAl} {outs : List ac_Q} (hz : m_alF[j]? = some z) (hlen : Nat.ble (ab_args args).length z.1.2.2.1 = true) (hg : ac_unz (G false j z [] (C, 0, ab_L0 z.1.2.2.1 args, [], H, 0, 0)) = some outs)
    {xs : ab_X} {ν : ab_N} {σ0 : mS} {avs : List mV} {σ : mS} {Q : mX → mS → Prop} (h : ab_cx xs C ν) (ha : ab_Vs C.1.length ν args avs) (hp : ac_hp kp σ0 C.1.length ν H σ) (hQ : ∀ e ∈ outs, ∀ ν' x σ', ab_up xs C ν e.1 ν' → ab_xo e.1.1.length ν' e.2.1 x → ac_hp kp σ0 e.1.1.length ν' e.2.2 σ' → Q x σ') : CC j avs σ Q := by
  cases hq : G false j z [] (C, 0, ab_L0 z.1.2.2.1 args, [], H, 0, 0) with
  | none => rw [hq] at hg; cases hg
  | some os =>
  rw [hq] at hg
  have hg : ac_unz1 os = some outs := hg
  have hn : (m_args avs).length ≤ z.1.2.2.1 := by
    rw [(ab_args_ok ha).1]
    exact Nat.le_of_ble_eq_true hlen
  have main : ∀ J : Nat → List (Option mV) → List mV → mS → Nat → Nat → Prop, ev_cl Gd CC j z none Q J → J 0 (m_L0 z.1.2.2.1 avs) [] σ 0 0 := fun J hJ =>
    hG false j z [] _ os hq xs none ν σ0 _ [] σ Q J (fun w => by cases w) (fun w => by cases w) hJ (fun p hp => by cases hp) h (ab_L0_ok ha) trivial hp (fun o ho => by
      obtain ⟨e, he, rfl⟩ := ac_unz1_ok hg o ho
      exact hQ e he)
  exact hl j z avs σ Q hz hn main
theorem ar_ret_ok (hl : ev_rule Gd CC) (hSP : ar_SPok CC kp SP) (hG : ar_GOK CC Gd kp G) {j : Nat} {args : List ab_V} {C : ab_C} {H : ac_H} {outs : List ac_Q} (hr : ar_ret SP G j args C H = some outs)
    {xs : ab_X} {ν : ab_N} {σ0 : mS} {avs : List mV} {σ : mS} {Q : mX → mS → Prop} (h : ab_cx xs C ν) (ha : ab_Vs C.1.length ν args avs) (hp : ac_hp kp σ0 C.1.length ν H σ) (hQ : ∀ e ∈ outs, ∀ ν' x σ', ab_up xs C ν e.1 ν' → ab_xo e.1.1.length ν' e.2.1 x → ac_hp kp σ0 e.1.1.length ν' e.2.2 σ' → Q x σ') : CC j avs σ Q := by
  unfold ar_ret at hr
  cases hs : SP j args C H with
  | some o =>
    rw [hs] at hr
    cases hr
    exact hSP j args C H outs hs xs ν σ0 avs σ h ha hp Q hQ
  | none =>
    rw [hs] at hr
    dsimp only at hr
    cases hz : m_alF[j]? with
    | none => rw [hz] at hr; cases hr
    | some z =>
      rw [hz] at hr
      dsimp only at hr
      cases hb : Nat.ble (ab_args args).length z.1.2.2.1 with
      | false => rw [hb] at hr; cases hr
      | true =>
        rw [hb] at hr
        exact ar_callee hl hG hz hb hr h ha hp hQ
theorem ar_body_ok (hl : ev_rule Gd CC) (hgd : ar_gok Gd kp gd) (hSP : ar_SPok CC kp SP) (hG : ar_GOK CC Gd kp G) {ms : Bool} {j : Nat} {z : mAl} {act : List ac_Lp} {S : ac_S} {outs : List ac_Z} (hb : ar_body gd kp SP G ms j z act S = some outs) {xs xs0 : ab_X} {ν : ab_N} {σ0 : mS} {Lc : List (Option mV)} {sc : List mV} {σ : mS} {Q : mX → mS → Prop} {J : Nat → List (Option mV) → List mV → mS → Nat → Nat → Prop}
    (hx0 : ms = true → xs0 = xs) (hxl : ab_xl ms xs S.1 ν) (hJ : ev_cl Gd CC j z xs0 Q J) (hact : ∀ p ∈ act, ac_acs kp σ0 J S.1.1.length ν p) (h : ab_cx xs S.1 ν) (hL : ab_Ls S.1.1.length ν S.2.2.1 Lc) (hst : ab_Vs S.1.1.length ν S.2.2.2.1 sc) (hp : ac_hp kp σ0 S.1.1.length ν S.2.2.2.2.1 σ) (hout : ∀ o ∈ outs, ac_zo kp σ0 xs S.1 ν J Q o) :
    J S.2.1 Lc sc σ S.2.2.2.2.2.1 S.2.2.2.2.2.2 := by
  unfold ar_body at hb
  cases hg0 : gd j z S with
  | false => rw [hg0] at hb; cases hb
  | true =>
  rw [hg0] at hb
  cases hs : ac_stp kp ms z.1 z.2.1 S.2.1 S.1 S.2.2.1 S.2.2.2.1 S.2.2.2.2.1 S.2.2.2.2.2.1 S.2.2.2.2.2.2 with
  | none => rw [hs] at hb; cases hb
  | some o =>
  rw [hs] at hb
  refine hJ _ _ _ _ _ _ (hgd j z S hg0 xs ν σ0 Lc sc σ h hL hst hp) (ac_stp_ok hx0 hxl h hL hst hp hs ?_)
  rcases o with nx | e | c
  · intro q hq
    obtain ⟨r, r1, r2⟩ := ab_all_ok hb q hq
    exact fun ν' Lc' sc' σ' u g1 g2 g3 => hG ms j z act q r r1 xs xs0 ν' σ0 Lc' sc' σ' Q J hx0 (hxl.up u) hJ (fun p hp => (hact p hp).up u.2.1 u.2.2) u.1 g1 g2 g3 (fun o ho => (hout o (r2 o ho)).up u)
  · cases hb
    exact hout _ List.mem_cons_self
  · dsimp only at hb
    intro avs sc' ha hs' y' hy'
    rw [hy'] at hb
    dsimp only at hb
    cases hr : ar_ret SP G c.1 c.2.1 S.1 S.2.2.2.2.1 with
    | none => rw [hr] at hb; cases hb
    | some os =>
    rw [hr] at hb
    refine ar_ret_ok hl hSP hG hr h ha hp (fun e he ν' x σ' u hxs hσ => ?_)
    obtain ⟨r, r1, r2⟩ := ab_all_ok hb e he
    have hout' : ∀ o ∈ r, ac_zo kp σ0 xs e.1 ν' J Q o := fun o ho => (hout o (r2 o ho)).up u
    unfold ac_back at r1
    obtain ⟨eC, eo, eH⟩ := e
    rcases eo with v | x0
    · dsimp only at r1
      cases v with
      | none =>
        cases x with
        | inr _ => exact hxs.elim
        | inl w =>
          cases w with
          | some _ => exact hxs.elim
          | none => exact hG ms j z act _ r r1 xs xs0 ν' σ0 Lc sc' σ' Q J hx0 (hxl.up u) hJ (fun p hp => (hact p hp).up u.2.1 u.2.2) u.1 (hL.ex u.2.1 u.2.2) (hs'.ex u.2.1 u.2.2) hσ hout'
      | some v =>
        cases x with
        | inr _ => exact hxs.elim
        | inl w =>
          cases w with
          | none => exact hxs.elim
          | some w => exact hG ms j z act _ r r1 xs xs0 ν' σ0 Lc (w :: sc') σ' Q J hx0 (hxl.up u) hJ (fun p hp => (hact p hp).up u.2.1 u.2.2) u.1 (hL.ex u.2.1 u.2.2) ⟨hxs, hs'.ex u.2.1 u.2.2⟩ hσ hout'
    · cases x with
      | inl w => cases w <;> exact hxs.elim
      | inr x =>
        have e1 : x0 = x := hxs
        subst e1
        show ab_TT z Q J S.2.1 Lc σ' (S.2.2.2.2.2.1 + y'.2.2.2.2.1.cells) (S.2.2.2.2.2.2 + y'.2.2.2.2.1.slots) x0
        unfold ab_TT
        dsimp only at r1
        cases hh : z.1.2.2.2.2.2 with
        | nil =>
          rw [hh] at r1
          dsimp only at r1 ⊢
          cases hrm : ab_rm z.1.2.2.2.2.1 (S.2.2.2.2.2.1 + y'.2.2.2.2.1.cells) (S.2.2.2.2.2.2 + y'.2.2.2.2.1.slots) with
          | false => rw [hrm] at r1; cases r1
          | true =>
            rw [hrm] at r1
            cases r1
            have g := ab_rm_ok hrm
            exact ⟨g.1, g.2, hout' _ List.mem_cons_self ν' (.inr x0) σ' (ab_up.rf u.1) rfl hσ⟩
        | cons w ws =>
          rw [hh] at r1
          dsimp only at r1 ⊢
          unfold m_TH
          cases h1 : m_hnd (w :: ws) S.2.1 x0 with
          | none => rw [h1] at r1; cases r1
          | some hd =>
            rw [h1] at r1
            dsimp only at r1 ⊢
            cases h2 : m_at z.2.1 hd with
            | none => rw [h2] at r1; cases r1
            | some rw0 =>
              rw [h2] at r1
              dsimp only at r1 ⊢
              split at r1
              · rename_i i hi
                cases hlt : Nat.blt i S.2.2.1.length with
                | false => rw [hlt] at r1; cases r1
                | true =>
                  rw [hlt] at r1
                  rw [Nat.blt_eq] at hlt
                  rw [hi]
                  exact ⟨by rw [hL.1]; exact hlt, hG ms j z act _ r r1 xs xs0 ν' σ0 _ [] σ' Q J hx0 (hxl.up u) hJ (fun p hp => (hact p hp).up u.2.1 u.2.2) u.1 ((hL.ex u.2.1 u.2.2).clr.setN) trivial hσ hout'⟩
              · rename_i i hi
                cases hlt : Nat.blt (i : Nat) S.2.2.1.length with
                | false => rw [hlt] at r1; cases r1
                | true =>
                  rw [hlt] at r1
                  rw [Nat.blt_eq] at hlt
                  rw [hi]
                  exact ⟨by rw [hL.1]; exact hlt, hG ms j z act _ r r1 xs xs0 ν' σ0 _ [] σ' Q J hx0 (hxl.up u) hJ (fun p hp => (hact p hp).up u.2.1 u.2.2) u.1 ((hL.ex u.2.1 u.2.2).clr.setN) trivial hσ hout'⟩
              · cases r1
theorem ar_core_ok (hl : ev_rule Gd CC) (hgd : ar_gok Gd kp gd) (hSP : ar_SPok CC kp SP) {LP : Nat → Nat → Option ac_An} (IH : ar_GOK CC Gd kp G) : ar_GOK CC Gd kp (ar_core gd kp SP LP G) := by
  intro ms j z act S outs hg xs xs0 ν σ0 Lc sc σ Q J hx0 hxl hJ hact h hL hst hp hout
  unfold ar_core at hg
  cases hlp : ac_lpx LP j S with
  | none =>
    rw [hlp] at hg
    exact ar_body_ok hl hgd hSP IH hg hx0 hxl hJ hact h hL hst hp hout
  | some an =>
  rw [hlp] at hg
  dsimp only at hg
  cases hf : act.find? (fun l => Nat.beq l.1 S.2.1) with
  | some lp =>
    rw [hf] at hg
    dsimp only at hg
    cases hre : ac_re lp S with
    | false => rw [hre] at hg; cases hg
    | true =>
      have m1 := List.mem_of_find?_eq_some hf
      have m2' := List.find?_some hf
      have m2 : lp.1 = S.2.1 := Nat.eq_of_beq_eq_true m2'
      obtain ⟨⟨a1, a2, a3⟩, ⟨a4, ν0, Lc0, σ1, a5, a6⟩, a7⟩ := hact lp m1
      unfold ac_re at hre
      simp only [Bool.and_eq_true] at hre
      obtain ⟨r1, r2, r3, r4, r5, r6, r7⟩ := hre
      have e0 := List.isEmpty_iff.mp r1
      rw [e0] at hst
      have e1 := ab_Vs_0 hst
      subst e1
      have hk := ac_ckR_ok h hL hp r2
      have hI : ac_LI kp σ0 lp.2.1 lp.2.2.1 ν lp.2.2.2.1 lp.2.2.2.2.1 Lc σ := ⟨ab_ckL_ok a5 hL r3, ac_ckH_ok a6 a4 hp r4, hk⟩
      have g := a7 Lc σ hI (by
        cases hm : ac_ms lp.2.1 S.1 S.2.2.1 S.2.2.2.2.1 with
        | none => rw [hm] at r7; cases r7
        | some b =>
          rw [hm] at r7
          obtain ⟨x, y, x1, y1, e9, y2⟩ := ac_ms_ok h hL hp hm
          rw [e9]
          exact ac_dec_ok (a := (lp.2.2.2.2.2.2.2.1, lp.2.2.2.2.2.2.2.2)) h ⟨a2, rfl⟩ ⟨a3, rfl⟩ x1 y1 y2 r7)
      rw [← m2, Nat.eq_of_beq_eq_true r5, Nat.eq_of_beq_eq_true r6]
      exact g
  | none =>
    rw [hf] at hg
    dsimp only at hg
    cases ho : ac_eOk an S with
    | false => rw [ho] at hg; cases hg
    | true =>
    rw [ho] at hg
    dsimp only [cond_true] at hg
    cases hS : ac_eS kp.1 an S with
    | none => rw [hS] at hg; cases hg
    | some S' =>
    rw [hS] at hg
    dsimp only at hg
    cases hm : ac_ms an S'.1 S'.2.2.1 S'.2.2.2.2.1 with
    | none => rw [hm] at hg; cases hg
    | some e =>
    rw [hm] at hg
    dsimp only at hg
    obtain ⟨e1, hI0⟩ := ac_entry h hL hst hp ho
    subst e1
    have main : ∀ (m : Nat) (Lc : List (Option mV)) (σ : mS), ac_LI kp σ0 an S.1.1.length ν (ab_mask (ac_offL an) 0 S.2.2.1) (ac_Hf an S.2.2.2.2.1) Lc σ → ac_mz an Lc σ = m → J S.2.1 Lc [] σ S.2.2.2.2.2.1 S.2.2.2.2.2.2 := by
      intro m
      induction m using Nat.strongRecOn with
      | _ m ih =>
      intro Lc σ hI hme
      obtain ⟨ν', u, gL, gH, q1, q2, q3⟩ := ac_invS h hI hS
      obtain ⟨x, y, x1, y1, e9, -⟩ := ac_ms_ok u.1 gL gH hm
      have hb := ar_body_ok hl hgd hSP IH (S := S') (sc := []) hg hx0 (hxl.up u) hJ (fun p hp => ?_) u.1 gL (by rw [q2]; trivial) gH (fun o ho => (hout o ho).up u)
      · rw [q1, q3] at hb
        exact hb
      · rcases List.mem_cons.mp hp with rfl | hp
        · refine ⟨⟨u.2.2, x1.1, y1.1⟩, ⟨rfl, ν, Lc, σ, hI.1, hI.2.1⟩, fun Lc' σ' hI' hcnt => ?_⟩
          have hI2 : ac_LI kp σ0 an S.1.1.length ν (ab_mask (ac_offL an) 0 S.2.2.1) (ac_Hf an S.2.2.2.2.1) Lc' σ' := ac_LI.bk hI' u.2.1
          have hcnt' : ac_mz an Lc' σ' < ac_mu an (ν' e.1.1 + e.1.2) (ν' e.2.1 + e.2.2) := hcnt
          rw [← x1.2, ← y1.2, ← e9, hme] at hcnt'
          exact ih _ hcnt' Lc' σ' hI2 rfl
        · exact (hact p hp).up u.2.1 u.2.2
    exact main _ Lc σ hI0 rfl
theorem ar_go_ok (hl : ev_rule Gd CC) (hgd : ar_gok Gd kp gd) (hSP : ar_SPok CC kp SP) {LP : Nat → Nat → Option ac_An} {PL : Nat → Nat → List (Nat × Option Int)} {cut : Nat → Nat → Bool} : ∀ f : Nat, ar_GOK CC Gd kp (ar_go gd kp SP LP PL cut f)
  | 0 => fun ms j z act S outs h => by cases h
  | f + 1 => by
    have IH := ar_core_ok hl hgd hSP (LP := LP) (ar_go_ok hl hgd hSP (LP := LP) (PL := PL) (cut := cut) f)
    intro ms j z act S outs hg xs xs0 ν σ0 Lc sc σ Q J hx0 hxl hJ hact h hL hst hp hout
    have hg : (bif cut j S.2.1 then some [.inr S] else ab_all (ar_core gd kp SP LP (ar_go gd kp SP LP PL cut f) ms j z act) (ac_spm (PL j S.2.1) [S])) = some outs := hg
    cases hc : cut j S.2.1 with
    | true =>
      rw [hc] at hg
      cases hg
      exact hout _ List.mem_cons_self ν Lc sc σ (ab_up.rf h) hL hst hp
    | false =>
    rw [hc] at hg
    obtain ⟨S', s1, s2, s3, s4⟩ := ac_spm_ok (is := PL j S.2.1) (r := [S]) (S := S) ⟨S, List.mem_cons_self, h, rfl, rfl⟩ hL
    obtain ⟨r, r1, r2⟩ := ab_all_ok hg S' s1
    obtain ⟨C', S'⟩ := S'
    have s4 : S' = S.2 := s4
    subst s4
    have s3 : C'.1.length = S.1.1.length := s3
    have u : ab_up xs S.1 ν C' ν := ab_cx_up ⟨s2, s3⟩
    exact IH ms j z act _ r r1 xs xs0 ν σ0 Lc sc σ Q J hx0 (hxl.up u) hJ (fun p hp => (hact p hp).up u.2.1 u.2.2) s2 (hL.ex u.2.1 u.2.2) (hst.ex u.2.1 u.2.2) (hp.ex u.2.1 u.2.2) (fun o ho => (hout o (r2 o ho)).up u)
end ACG
/-- the contract holds -/
def ar_cok (CC : Nat → List mV → mS → (mX → mS → Prop) → Prop) (K : ac_Kd) (ct : ac_Ct) : Prop := ∀ (avs : List mV) (σ : mS), ac_TrL ct.2.1 avs → ac_KK K σ → ac_pre σ ct.2.2.2.2.2.2 → ∀ Q : mX → mS → Prop, (∀ x σ', ac_KK K σ' → ac_fr ct.2.2.1 σ σ' → σ'.1 1 = σ.1 1 → ac_res ct avs x σ' → Q x σ') → CC ct.1 avs σ Q
section ARH
variable {xs : ab_X} {C : ab_C} {ν ν' : ab_N} {kp : ac_Kp} {σ0 σ σ' : mS} {H : ac_H} {n : Nat} {CC : Nat → List mV → mS → (mX → mS → Prop) → Prop}
theorem ar_SPt_ok {cts : List ac_Ct} (hcts : ∀ ct ∈ cts, ar_cok CC kp.1 ct) : ar_SPok CC kp (ac_SPt kp cts) := by
  intro j args C H outs hs xs ν σ0 avs σ h ha hp Q hQ
  unfold ac_SPt at hs
  cases hf : cts.find? (fun ct => Nat.beq ct.1 j && (ac_inL C args ct.2.1 && ac_prB C H.2.1 ct.2.2.2.2.2.2)) with
  | none => rw [hf] at hs; cases hs
  | some ct =>
  rw [hf] at hs
  dsimp only at hs
  have m1 := List.mem_of_find?_eq_some hf
  have m2 := List.find?_some hf
  rw [Bool.and_eq_true, Bool.and_eq_true] at m2
  have e1 := Nat.eq_of_beq_eq_true m2.1
  subst e1
  have hpre : ac_pre σ ct.2.2.2.2.2.2 := by
    have hb := m2.2.2
    unfold ac_prB at hb
    unfold ac_pre
    cases hq : ct.2.2.2.2.2.2 with
    | none => trivial
    | some p =>
      rw [hq] at hb
      obtain ⟨o, o1, o2⟩ := List.any_eq_true.mp hb
      unfold ac_prO at o2
      rw [Bool.and_eq_true, Bool.and_eq_true, Bool.and_eq_true, Bool.and_eq_true, ab_le_ok, ab_le_ok] at o2
      obtain ⟨a1, a2, a3, a4, a5⟩ := o2
      obtain ⟨⟨b1, b2⟩, b3, b4⟩ := hp.2.2.2.1 o o1
      have a2 := ab_eE_ok a2
      have iv2 := ab_iv_ok h.1 (e := o.2.2.1) (x := ν o.2.2.1.1 + o.2.2.1.2) ⟨b3, rfl⟩
      have hn : 0 ≤ ν o.2.2.1.1 + o.2.2.1.2 := by omega
      have gv := b4 p.2.1 (ν o.2.2.1.1 + o.2.2.1.2).toNat (by rw [a2]; show (p.2.1 : Int) = ν 0 + (p.2.1 : Int); rw [h.1.1]; omega) (by omega)
      rw [Nat.eq_of_beq_eq_true a1] at gv
      exact ⟨(ν o.2.2.1.1 + o.2.2.1.2).toNat, by omega, by omega, ab_in_ok h gv a5⟩
  unfold ac_app at hs
  cases hb : (ac_inL C args ct.2.1 && ac_subW ct.2.2.1 kp.2) with
  | false => rw [hb] at hs; cases hs
  | true =>
  rw [hb] at hs
  rw [Bool.and_eq_true] at hb
  have hs := Option.some.inj hs
  refine hcts ct m1 avs σ (ac_inL_ok h ha m2.2.1) hp.1 hpre Q (fun x σ' hk hfr hc hres => ?_)
  cases x with
  | inr b =>
    have hres : b ∈ ct.2.2.2.2.1 := hres
    refine hQ (C, .inr b, (H.1, ac_oF C ct.2.2.1 H.2.1, [])) (by rw [← hs]; exact List.mem_append_right _ (List.mem_map.mpr ⟨b, hres, rfl⟩)) ν (.inr b) σ' (ab_up.rf h) rfl ⟨hk, ac_fr_tr hp.2.1 hfr hb.2, ac_cn_fr hp.2.2.1 hc, ac_oF_ok h hp.2.2.2.1 hfr hc, fun g hg => by cases hg⟩
  | inl r =>
    obtain ⟨⟨t, t1, t2⟩, hps⟩ := hres
    have hmem : ac_nrm ct args C H t ∈ outs := by
      rw [← hs, t1]
      exact List.mem_append_left _ List.mem_cons_self
    have hq := hQ _ hmem
    obtain ⟨ν1, u1, g1⟩ := ac_gN_ok (H := H) h ha hp.2.2.2.1 hp.2.2.2.2 hfr hps
    cases t with
    | none =>
      cases r with
      | some _ => exact t2.elim
      | none => exact ac_nr_ok (v := none) h ha hp hk hfr hc hb.2 hps u1 trivial g1 hq
    | some T =>
      cases r with
      | none => exact t2.elim
      | some w =>
        obtain ⟨ν2, u2, g2⟩ := ab_of_ok u1.1 (show ab_Tr T w from t2)
        exact ac_nr_ok (v := some (ab_of (ac_gN C H.2.1 args ct H.2.2).1 T).2) h ha hp hk hfr hc hb.2 hps (u1.tr u2) g2 (fun g hg => (g1 g hg).ex u2.2.1 u2.2.2) hq
end ARH
theorem ar_SP0_ok (CC : Nat → List mV → mS → (mX → mS → Prop) → Prop) (kp : ac_Kp) : ar_SPok CC kp ac_SP0 := fun _ _ _ _ _ h => by cases h
def ar_ch1 (gd : ar_D) (K : ac_Kd) (SP : ac_Kp → ac_SP) (LP : Nat → Nat → Option ac_An) (PL : Nat → Nat → List (Nat × Option Int)) (nc : Nat → Nat → Bool) (ct : ac_Ct) (O : List ac_O) : Bool := match ar_ret ac_SP0 (ar_go gd (K, ct.2.2.1) (SP (K, ct.2.2.1)) LP PL nc 4000) ct.1 (ac_ini ct.2.1 ac_C1).2 (ac_ini ct.2.1 ac_C1).1 (none, O, []) with
  | some outs => outs.all (ac_ckE (K, ct.2.2.1) ct (ac_ini ct.2.1 ac_C1).2)
  | none => false
def ar_chk (gd : ar_D) (K : ac_Kd) (SP : ac_Kp → ac_SP) (LP : Nat → Nat → Option ac_An) (PL : Nat → Nat → List (Nat × Option Int)) (nc : Nat → Nat → Bool) (ct : ac_Ct) : Bool := match ct.2.2.2.2.2.2 with
  | none => ar_ch1 gd K SP LP PL nc ct []
  | some p => (List.range (p.2.2.2.1 + 1)).all (fun k => Nat.blt k p.2.2.1 || ar_ch1 gd K SP LP PL nc ct [(p.1, (0, (p.2.1 : Int)), (0, (k : Int)), .inl (0, p.2.2.2.2))])
section ARI
variable {xs : ab_X} {CC : Nat → List mV → mS → (mX → mS → Prop) → Prop} {Gd : ev_G} {gd : ar_D}
theorem ar_ch1_ok (hl : ev_rule Gd CC) (hgd : ∀ kp, ar_gok Gd kp gd) {K : ac_Kd} {SP : ac_Kp → ac_SP} (hSP : ∀ W, ar_SPok CC (K, W) (SP (K, W))) {LP : Nat → Nat → Option ac_An} {PL : Nat → Nat → List (Nat × Option Int)} {nc : Nat → Nat → Bool} {ct : ac_Ct} {O : List ac_O} (hc : ar_ch1 gd K SP LP PL nc ct O = true) {avs : List mV} {σ : mS} (hT : ac_TrL ct.2.1 avs) (hK : ac_KK K σ) (hO : ∀ (n : Nat) (ν : ab_N), 0 < n → ν 0 = 0 → ∀ o ∈ O, ac_ov n ν σ o) {Q : mX → mS → Prop} (hQ : ∀ x σ', ac_KK K σ' → ac_fr ct.2.2.1 σ σ' → σ'.1 1 = σ.1 1 → ac_res ct avs x σ' → Q x σ') : CC ct.1 avs σ Q := by
  unfold ar_ch1 at hc
  cases hr : ar_ret ac_SP0 (ar_go gd (K, ct.2.2.1) (SP (K, ct.2.2.1)) LP PL nc 4000) ct.1 (ac_ini ct.2.1 ac_C1).2 (ac_ini ct.2.1 ac_C1).1 (none, O, []) with
  | none => rw [hr] at hc; cases hc
  | some outs =>
  rw [hr] at hc
  dsimp only at hc
  obtain ⟨ν1, u1, g1⟩ := ac_ini_ok ac_cx1 hT
  have hp : ac_hp (K, ct.2.2.1) σ (ac_ini ct.2.1 ac_C1).1.1.length ν1 (none, O, []) σ := ⟨hK, ac_fr.rf, rfl, hO _ _ u1.1.2.1 u1.1.1.1, fun g hg => by cases hg⟩
  refine ar_ret_ok hl (ar_SP0_ok CC _) (ar_go_ok hl (hgd _) (hSP ct.2.2.1) 4000) hr u1.1 g1 hp (fun e he ν' x σ' u hxs hσ => ?_)
  have hq := List.all_eq_true.mp hc e he
  unfold ac_ckE at hq
  rw [Bool.and_eq_true] at hq
  obtain ⟨q1, q2⟩ := hq
  have hcn : σ'.1 1 = σ.1 1 := by
    have := hσ.2.2.1
    cases hH : e.2.2.1 with
    | none => rw [hH] at this; exact this
    | some _ => rw [hH] at q1; cases q1
  refine hQ x σ' hσ.1 hσ.2.1 hcn ?_
  obtain ⟨eC, eo, eH⟩ := e
  dsimp only at q2 hxs hσ u
  rcases eo with v | b
  · dsimp only at q2
    rw [Bool.and_eq_true] at q2
    obtain ⟨q3, q4⟩ := q2
    cases x with
    | inr _ => cases v <;> exact hxs.elim
    | inl r =>
      refine ⟨?_, fun p hp' => ac_ckP_ok u.1 (g1.ex u.2.1 u.2.2) hxs hσ (List.all_eq_true.mp q4 p hp')⟩
      split at q3
      · rename_i ht
        refine ⟨none, ht, ?_⟩
        cases r with
        | none => trivial
        | some _ => exact hxs.elim
      · rename_i T w ht
        refine ⟨some T, ht, ?_⟩
        cases r with
        | none => exact hxs.elim
        | some r => exact ab_in_ok u.1 hxs q3
      · cases q3
  · cases x with
    | inl r => cases r <;> exact hxs.elim
    | inr x =>
      have e1 : b = x := hxs
      subst e1
      obtain ⟨y, y1, y2⟩ := List.any_eq_true.mp q2
      have e2 := Nat.eq_of_beq_eq_true y2
      subst e2
      exact y1
theorem ar_chk_ok (hl : ev_rule Gd CC) (hgd : ∀ kp, ar_gok Gd kp gd) {K : ac_Kd} {SP : ac_Kp → ac_SP} (hSP : ∀ W, ar_SPok CC (K, W) (SP (K, W))) {LP : Nat → Nat → Option ac_An} {PL : Nat → Nat → List (Nat × Option Int)} {nc : Nat → Nat → Bool} {ct : ac_Ct} (hc : ar_chk gd K SP LP PL nc ct = true) : ar_cok CC K ct := by
  intro avs σ hT hK hpre Q hQ
  unfold ar_chk at hc
  cases hp : ct.2.2.2.2.2.2 with
  | none =>
    rw [hp] at hc
    exact ar_ch1_ok hl hgd hSP hc hT hK (fun n ν hn h0 o ho => by cases ho) hQ
  | some p =>
    rw [hp] at hc hpre
    obtain ⟨k, k1, k2, k3⟩ := hpre
    have hk := List.all_eq_true.mp hc k (List.mem_range.mpr (by omega))
    have hb : Nat.blt k p.2.2.1 = false := by
      cases hb : Nat.blt k p.2.2.1 with
      | false => rfl
      | true => rw [Nat.blt_eq] at hb; omega
    rw [hb, Bool.false_or] at hk
    refine ar_ch1_ok hl hgd hSP hk hT hK (fun n ν hn h0 o ho => ?_) hQ
    have e := List.mem_singleton.mp ho
    subst e
    refine ⟨⟨hn, hn⟩, hn, fun i k' hi hk' => ?_⟩
    have e1 : i = p.2.1 := by
      have hi : (i : Int) = ν 0 + (p.2.1 : Int) := hi
      omega
    have e2 : k' = k := by
      have hk' : (k' : Int) = ν 0 + (k : Int) := hk'
      omega
    subst e1; subst e2
    obtain ⟨y, y1, y2, y3⟩ := ac_TI_ok k3
    show ab_Vr n ν (.inl (0, p.2.2.2.2)) (m_get σ p.1 p.2.1 k')
    rw [y1]
    exact ⟨hn, by show y.toInt = ν 0 + p.2.2.2.2; omega⟩
end ARI
