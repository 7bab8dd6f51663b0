/-! the first analysis over a judgement of calls that has a rule, with a guard ahead of each step (out of 31, 32) -/
abbrev bb_D : Type := Nat → mAl → ab_S → Bool
def bb_body (gd : bb_D) (SP : ab_SP) (G : ab_GT) (ms : Bool) (j : Nat) (z : mAl) (act : List ab_Lp) (S : ab_S) : Option (List ab_Z) := bif !(gd j z S) then none else match ab_stp ms z.1 z.2.1 S.2.1 S.1 S.2.2.1 S.2.2.2.1 S.2.2.2.2.1 S.2.2.2.2.2.1 S.2.2.2.2.2.2 with
  | none => none
  | some (.inl nx) => ab_all (G ms j z act) nx
  | some (.inr (.inl e)) => some [.inl e]
  | some (.inr (.inr c)) => match m_mt[c.1]? with
    | none => none
    | some y' => match ab_ret SP G c.1 c.2.1 S.1 S.2.2.2.2.1 with
      | none => none
      | some outs => ab_all (ab_back G ms j z act S y' c.2.2) outs
def bb_core (gd : bb_D) (SP : ab_SP) (LP : Nat → Nat → Option ab_An) (G : ab_GT) (ms : Bool) (j : Nat) (z : mAl) (act : List ab_Lp) (S : ab_S) : Option (List ab_Z) := match LP j S.2.1 with
  | none => bb_body gd SP G ms j z act S
  | some an => match act.find? (fun l => Nat.beq l.1 S.2.1) with
    | some l => bif ab_re l S then some [] else none
    | none => bif ab_eOk an S then (match ab_ecn an (ab_eS an S).2.2.1 with
      | some bc => bb_body gd SP G ms j z (ab_lp an S bc :: act) (ab_eS an S)
      | none => none) else none
def bb_go (gd : bb_D) (SP : ab_SP) (LP : Nat → Nat → Option ab_An) (PL : Nat → Nat → List (Nat × Option Int)) (AB : Nat → Nat → Option ab_AP) (cut : Nat → Nat → Bool) : Nat → ab_GT
  | 0 => fun _ _ _ _ _ => none
  | f + 1 => fun ms j z act S => bif cut j S.2.1 then some [.inr S] else ab_all (fun S => bb_core gd SP LP (bb_go gd SP LP PL AB cut f) ms j z act (ab_pre AB j S)) (ab_spm (PL j S.2.1) [S])
def bb_GOK (CC : Nat → List mV → mS → (mX → mS → Prop) → Prop) (Gd : ev_G) (G : ab_GT) : Prop := ∀ (ms : Bool) (j : Nat) (z : mAl) (act : List ab_Lp) (S : ab_S) (outs : List ab_Z), G ms j z act S = some outs → ∀ (xs xs0 : ab_X) (ν : ab_N) (Lc : List (Option mV)) (sc : List mV) (σ : mS) (Q : mX → mS → Prop) (J : Nat → List (Option mV) → List mV → mS → Nat → Nat → Prop),
  (ms = true → xs0 = xs) → ab_xl ms xs S.1 ν → ev_cl Gd CC j z xs0 Q J → (∀ p ∈ act, ab_acs J S.1.1.length ν p) → ab_cx xs S.1 ν → ab_Ls S.1.1.length ν S.2.2.1 Lc → ab_Vs S.1.1.length ν S.2.2.2.1 sc → ab_hp S.1.1.length ν S.2.2.2.2.1 σ → (∀ o ∈ outs, ab_zo xs S.1 ν J Q o) → J S.2.1 Lc sc σ S.2.2.2.2.2.1 S.2.2.2.2.2.2
def bb_SPok (CC : Nat → List mV → mS → (mX → mS → Prop) → Prop) (SP : ab_SP) : Prop := ∀ (j : Nat) (args : List ab_V) (C : ab_C) (H : ab_H) (outs : List ab_Q), SP j args C H = some outs → ∀ (xs : ab_X) (ν : ab_N) (avs : List mV) (σ : mS), ab_cx xs C ν → ab_Vs C.1.length ν args avs → ab_hp C.1.length ν H σ → ∀ Q : mX → mS → Prop, (∀ e ∈ outs, ∀ ν' x σ', ab_up xs C ν e.1 ν' → ab_xo e.1.1.length ν' e.2.1 x → ab_hp e.1.1.length ν' e.2.2 σ' → Q x σ') → CC j avs σ Q
def bb_gok (Gd : ev_G) (gd : bb_D) : Prop := ∀ (j : Nat) (z : mAl) (S : ab_S), gd j z S = true → ∀ (xs : ab_X) (ν : ab_N) (Lc : List (Option mV)) (sc : List mV) (σ : mS), ab_cx xs S.1 ν → ab_Ls S.1.1.length ν S.2.2.1 Lc → ab_Vs S.1.1.length ν S.2.2.2.1 sc → ab_hp S.1.1.length ν S.2.2.2.2.1 σ → Gd j z (S.2.1, Lc, sc, σ, S.2.2.2.2.2.1, S.2.2.2.2.2.2)
section BBG
variable {CC : Nat → List mV → mS → (mX → mS → Prop) → Prop} {Gd : ev_G} {gd : bb_D} {SP : ab_SP} {G : ab_GT}
theorem bb_callee (hl : ev_rule Gd CC) (hG : bb_GOK CC Gd G) {j : Nat} {args : List ab_V} {C : ab_C} {H : ab_H} {z : mAl} {outs : List ab_Q} (hz : m_alF[j]? = some z) (hlen : Nat.ble (ab_args args).length z.1.2.2.1 = true) (hg : ab_unz (G false j z [] (C, 0, ab_L0 z.1.2.2.1 args, [], H, 0, 0)) = some outs)
    {xs : ab_X} {ν : ab_N} {avs : List mV} {σ : mS} {Q : mX → mS → Prop} (h : ab_cx xs C ν) (ha : ab_Vs C.1.length ν args avs) (hp : ab_hp C.1.length ν H σ) (hQ : ∀ e ∈ outs, ∀ ν' x σ', ab_up xs C ν e.1 ν' → ab_xo e.1.1.length ν' e.2.1 x → ab_hp e.1.1.length ν' e.2.2 σ' → Q x σ') : CC j avs σ Q := by
  cases hq : G false j z [] (C, 0, ab_L0 z.1.2.2.1 args, [], H, 0, 0) with
  | none => rw [hq] at hg; cases hg
  | some os =>
  rw [hq] at hg
  have hg : ab_unz1 os = some outs := hg
  have hn : (m_args avs).length ≤ z.1.2.2.1 := by
    rw [(ab_args_ok ha).1]
    exact Nat.le_of_ble_eq_true hlen
  have main : ∀ J : Nat → List (Option mV) → List mV → mS → Nat → Nat → Prop, ev_cl Gd CC j z none Q J → J 0 (m_L0 z.1.2.2.1 avs) [] σ 0 0 := fun J hJ =>
    hG false j z [] _ os hq xs none ν _ [] σ Q J (fun w => by cases w) (fun w => by cases w) hJ (fun p hp => by cases hp) h (ab_L0_ok ha) trivial hp (fun o ho => by
      obtain ⟨e, he, rfl⟩ := ab_unz1_ok hg o ho
      exact hQ e he)
  exact hl j z avs σ Q hz hn main
theorem bb_ret_ok (hl : ev_rule Gd CC) (hSP : bb_SPok CC SP) (hG : bb_GOK CC Gd G) {j : Nat} {args : List ab_V} {C : ab_C} {H : ab_H} {outs : List ab_Q} (hr : ab_ret SP G j args C H = some outs)
    {xs : ab_X} {ν : ab_N} {avs : List mV} {σ : mS} {Q : mX → mS → Prop} (h : ab_cx xs C ν) (ha : ab_Vs C.1.length ν args avs) (hp : ab_hp C.1.length ν H σ) (hQ : ∀ e ∈ outs, ∀ ν' x σ', ab_up xs C ν e.1 ν' → ab_xo e.1.1.length ν' e.2.1 x → ab_hp e.1.1.length ν' e.2.2 σ' → Q x σ') : CC j avs σ Q := by
  unfold ab_ret at hr
  cases hs : SP j args C H with
  | some o =>
    rw [hs] at hr
    cases hr
    exact hSP j args C H outs hs xs ν avs σ h ha hp Q hQ
  | none =>
    rw [hs] at hr
    dsimp only at hr
    cases hz : m_alF[j]? with
    | none => rw [hz] at hr; cases hr
    | some z =>
      rw [hz] at hr
      dsimp only at hr
      cases hb : Nat.ble (ab_args args).length z.1.2.2.1 with
      | false => rw [hb] at hr; cases hr
      | true =>
        rw [hb] at hr
        exact bb_callee hl hG hz hb hr h ha hp hQ
theorem bb_body_ok (hl : ev_rule Gd CC) (hgd : bb_gok Gd gd) (hSP : bb_SPok CC SP) (hG : bb_GOK CC Gd G) {ms : Bool} {j : Nat} {z : mAl} {act : List ab_Lp} {S : ab_S} {outs : List ab_Z} (hb : bb_body gd SP G ms j z act S = some outs) {xs xs0 : ab_X} {ν : ab_N} {Lc : List (Option mV)} {sc : List mV} {σ : mS} {Q : mX → mS → Prop} {J : Nat → List (Option mV) → List mV → mS → Nat → Nat → Prop}
    (hx0 : ms = true → xs0 = xs) (hxl : ab_xl ms xs S.1 ν) (hJ : ev_cl Gd CC j z xs0 Q J) (hact : ∀ p ∈ act, ab_acs J S.1.1.length ν p) (h : ab_cx xs S.1 ν) (hL : ab_Ls S.1.1.length ν S.2.2.1 Lc) (hst : ab_Vs S.1.1.length ν S.2.2.2.1 sc) (hp : ab_hp S.1.1.length ν S.2.2.2.2.1 σ) (hout : ∀ o ∈ outs, ab_zo xs S.1 ν J Q o) :
    J S.2.1 Lc sc σ S.2.2.2.2.2.1 S.2.2.2.2.2.2 := by
  unfold bb_body at hb
  cases hg0 : gd j z S with
  | false => rw [hg0] at hb; cases hb
  | true =>
  rw [hg0] at hb
  cases hs : ab_stp ms z.1 z.2.1 S.2.1 S.1 S.2.2.1 S.2.2.2.1 S.2.2.2.2.1 S.2.2.2.2.2.1 S.2.2.2.2.2.2 with
  | none => rw [hs] at hb; cases hb
  | some o =>
  rw [hs] at hb
  refine hJ _ _ _ _ _ _ (hgd j z S hg0 xs ν Lc sc σ h hL hst hp) (ab_stp_ok hx0 hxl h hL hst hp hs ?_)
  rcases o with nx | e | c
  · intro q hq
    obtain ⟨r, r1, r2⟩ := ab_all_ok hb q hq
    exact fun ν' Lc' sc' σ' u g1 g2 g3 => hG ms j z act q r r1 xs xs0 ν' Lc' sc' σ' Q J hx0 (hxl.up u) hJ (fun p hp => (hact p hp).up u.2.1 u.2.2) u.1 g1 g2 g3 (fun o ho => (hout o (r2 o ho)).up u)
  · cases hb
    exact hout _ List.mem_cons_self
  · dsimp only at hb
    intro avs sc' ha hs' y' hy'
    rw [hy'] at hb
    dsimp only at hb
    cases hr : ab_ret SP G c.1 c.2.1 S.1 S.2.2.2.2.1 with
    | none => rw [hr] at hb; cases hb
    | some os =>
    rw [hr] at hb
    refine bb_ret_ok hl hSP hG hr h ha hp (fun e he ν' x σ' u hxs hσ => ?_)
    obtain ⟨r, r1, r2⟩ := ab_all_ok hb e he
    have hout' : ∀ o ∈ r, ab_zo xs e.1 ν' J Q o := fun o ho => (hout o (r2 o ho)).up u
    unfold ab_back at r1
    obtain ⟨eC, eo, eH⟩ := e
    rcases eo with v | x0
    · dsimp only at r1
      cases v with
      | none =>
        cases x with
        | inr _ => exact hxs.elim
        | inl w =>
          cases w with
          | some _ => exact hxs.elim
          | none => exact hG ms j z act _ r r1 xs xs0 ν' Lc sc' σ' Q J hx0 (hxl.up u) hJ (fun p hp => (hact p hp).up u.2.1 u.2.2) u.1 (hL.ex u.2.1 u.2.2) (hs'.ex u.2.1 u.2.2) hσ hout'
      | some v =>
        cases x with
        | inr _ => exact hxs.elim
        | inl w =>
          cases w with
          | none => exact hxs.elim
          | some w => exact hG ms j z act _ r r1 xs xs0 ν' Lc (w :: sc') σ' Q J hx0 (hxl.up u) hJ (fun p hp => (hact p hp).up u.2.1 u.2.2) u.1 (hL.ex u.2.1 u.2.2) ⟨hxs, hs'.ex u.2.1 u.2.2⟩ hσ hout'
    · cases x with
      | inl w => cases w <;> exact hxs.elim
      | inr x =>
        have e1 : x0 = x := hxs
        subst e1
        show ab_TT z Q J S.2.1 Lc σ' (S.2.2.2.2.2.1 + y'.2.2.2.2.1.cells) (S.2.2.2.2.2.2 + y'.2.2.2.2.1.slots) x0
        unfold ab_TT
        dsimp only at r1
        cases hh : z.1.2.2.2.2.2 with
        | nil =>
          rw [hh] at r1
          dsimp only at r1 ⊢
          cases hrm : ab_rm z.1.2.2.2.2.1 (S.2.2.2.2.2.1 + y'.2.2.2.2.1.cells) (S.2.2.2.2.2.2 + y'.2.2.2.2.1.slots) with
          | false => rw [hrm] at r1; cases r1
          | true =>
            rw [hrm] at r1
            cases r1
            have g := ab_rm_ok hrm
            exact ⟨g.1, g.2, hout' _ List.mem_cons_self ν' (.inr x0) σ' (ab_up.rf u.1) rfl hσ⟩
        | cons w ws =>
          rw [hh] at r1
          dsimp only at r1 ⊢
          unfold m_TH
          cases h1 : m_hnd (w :: ws) S.2.1 x0 with
          | none => rw [h1] at r1; cases r1
          | some hd =>
            rw [h1] at r1
            dsimp only at r1 ⊢
            cases h2 : m_at z.2.1 hd with
            | none => rw [h2] at r1; cases r1
            | some rw0 =>
              rw [h2] at r1
              dsimp only at r1 ⊢
              split at r1
              · rename_i i hi
                cases hlt : Nat.blt i S.2.2.1.length with
                | false => rw [hlt] at r1; cases r1
                | true =>
                  rw [hlt] at r1
                  rw [Nat.blt_eq] at hlt
                  rw [hi]
                  exact ⟨by rw [hL.1]; exact hlt, hG ms j z act _ r r1 xs xs0 ν' _ [] σ' Q J hx0 (hxl.up u) hJ (fun p hp => (hact p hp).up u.2.1 u.2.2) u.1 ((hL.ex u.2.1 u.2.2).clr.setN) trivial hσ hout'⟩
              · rename_i i hi
                cases hlt : Nat.blt (i : Nat) S.2.2.1.length with
                | false => rw [hlt] at r1; cases r1
                | true =>
                  rw [hlt] at r1
                  rw [Nat.blt_eq] at hlt
                  rw [hi]
                  exact ⟨by rw [hL.1]; exact hlt, hG ms j z act _ r r1 xs xs0 ν' _ [] σ' Q J hx0 (hxl.up u) hJ (fun p hp => (hact p hp).up u.2.1 u.2.2) u.1 ((hL.ex u.2.1 u.2.2).clr.setN) trivial hσ hout'⟩
              · cases r1
/-- the counter's bounds -/
theorem bb_core_ok (hl : ev_rule Gd CC) (hgd : bb_gok Gd gd) (hSP : bb_SPok CC SP) {LP : Nat → Nat → Option ab_An} (IH : bb_GOK CC Gd G) : bb_GOK CC Gd (bb_core gd SP LP G) := by
  intro ms j z act S outs hg xs xs0 ν Lc sc σ Q J hx0 hxl hJ hact h hL hst hp hout
  unfold bb_core at hg
  cases hlp : LP j S.2.1 with
  | none =>
    rw [hlp] at hg
    exact bb_body_ok hl hgd hSP IH hg hx0 hxl hJ hact h hL hst hp hout
  | some an =>
  rw [hlp] at hg
  dsimp only at hg
  cases hf : act.find? (fun l => Nat.beq l.1 S.2.1) with
  | some lp =>
    rw [hf] at hg
    dsimp only at hg
    cases hre : ab_re lp S with
    | false => rw [hre] at hg; cases hg
    | true =>
      have m1 := List.mem_of_find?_eq_some hf
      have m2' := List.find?_some hf
      have m2 : lp.1 = S.2.1 := Nat.eq_of_beq_eq_true m2'
      obtain ⟨a1, a2, ⟨ν0, Lc0, σ0, a3, a4⟩, a5⟩ := hact lp m1
      unfold ab_re at hre
      simp only [Bool.and_eq_true] at hre
      obtain ⟨r1, r2, r3, r4, r5, r6, r7⟩ := hre
      have e0 := List.isEmpty_iff.mp r1
      rw [e0] at hst
      have e1 := ab_Vs_0 hst
      subst e1
      have hI : ab_LI lp.2.1 lp.2.2.1 ν lp.2.2.2.1 lp.2.2.2.2.1 Lc σ := ⟨ab_ckL_ok a3 hL r3, ab_ckH_ok a4 hp r4, ab_ckR_ok h hL hp r2⟩
      have g := a5 Lc σ hI (fun y hy => by
        cases he : ab_ld0 lp.2.1 S.2.2.1 with
        | none => rw [he] at r7; cases r7
        | some e =>
          rw [he] at r7
          dsimp only at r7
          have hv : ab_I S.1.1.length ν e y := by
            unfold ab_ld0 at he
            unfold ab_cv at hy
            cases hq : lp.2.1.2.2.1 with
            | nil => rw [hq] at he; cases he
            | cons p t =>
              rw [hq] at he hy
              dsimp only at he hy
              split at he
              · rename_i e' he'
                cases he
                obtain ⟨x, x1, x2⟩ := hL.ld he'
                obtain ⟨w, rfl, x3⟩ := ab_Vi x2
                rw [x1] at hy
                cases hy
                exact x3
              · cases he
          have hbc : ab_I S.1.1.length ν (lp.2.2.2.2.2.2.2, 0) (ν lp.2.2.2.2.2.2.2) := ⟨a2, by show _ = ν lp.2.2.2.2.2.2.2 + 0; omega⟩
          refine ⟨fun hup => ?_, fun hdn => ?_⟩
          · rw [hup] at r7
            exact ab_leq_ok1 h hbc hv r7
          · rw [hdn] at r7
            exact ab_leq_ok1 h hv hbc r7)
      rw [← m2, Nat.eq_of_beq_eq_true r5, Nat.eq_of_beq_eq_true r6]
      exact g
  | none =>
    rw [hf] at hg
    dsimp only at hg
    cases ho : ab_eOk an S with
    | false => rw [ho] at hg; cases hg
    | true =>
    rw [ho] at hg
    dsimp only [cond_true] at hg
    cases hbc : ab_ecn an (ab_eS an S).2.2.1 with
    | none => rw [hbc] at hg; cases hg
    | some bc =>
    rw [hbc] at hg
    dsimp only at hg
    obtain ⟨e1, hI0⟩ := ab_entry h hL hst hp ho
    subst e1
    have main : ∀ (m : Nat) (Lc : List (Option mV)) (σ : mS), ab_LI an S.1.1.length ν (ab_mask (ab_offL an) 0 S.2.2.1) (ab_Hf an S.2.2.2.2.1) Lc σ → (∀ y p t, ab_cv an Lc = some y → an.2.2.1 = p :: t → (an.2.1 = true → (p.2.2.2.2.1 - y).toNat ≤ m) ∧ (an.2.1 = false → (y - p.2.2.2.1).toNat ≤ m)) → J S.2.1 Lc [] σ S.2.2.2.2.2.1 S.2.2.2.2.2.2 := by
      intro m
      induction m using Nat.strongRecOn with
      | _ m ih =>
      intro Lc σ hI hm
      obtain ⟨ν', u, gL, gH, gc, gb⟩ := ab_invS h hI hbc
      refine bb_body_ok hl hgd hSP IH (S := ab_eS an S) hg hx0 (hxl.up u) hJ (fun p hp => ?_) u.1 gL trivial gH (fun o ho => (hout o ho).up u)
      rcases List.mem_cons.mp hp with rfl | hp
      · refine ⟨u.2.2, gb, ⟨ν, Lc, σ, hI.1, hI.2.1⟩, fun Lc' σ' hI' hcnt => ?_⟩
        have hI2 : ab_LI an S.1.1.length ν (ab_mask (ab_offL an) 0 S.2.2.1) (ab_Hf an S.2.2.2.2.1) Lc' σ' := ab_LI.bk hI' u.2.1
        obtain ⟨p0, t0, q1, q2, q3⟩ := ab_cv_ok hI gc
        have hxs : ∃ y', ab_cv an Lc' = some y' := by
          obtain ⟨x, x1, x2⟩ := hI2.2.2.1 p0 (by rw [q1]; exact List.mem_cons_self)
          obtain ⟨x', x1', x2'⟩ := hI.2.2.1 p0 (by rw [q1]; exact List.mem_cons_self)
          unfold ab_cv at gc ⊢
          rw [q1] at gc ⊢
          dsimp only at gc ⊢
          rw [x1'] at gc
          rw [x1]
          dsimp only at gc ⊢
          rcases x with w | w | w
          · exact ⟨_, rfl⟩
          · exact ⟨_, rfl⟩
          · rcases x' with w' | w' | w'
            · have z1s := x2'.1
              cases w with
              | none => have z2s := x2.1; omega
              | some _ => have z2s := x2.1; omega
            · have z1s := x2'.1
              cases w with
              | none => have z2s := x2.1; omega
              | some _ => have z2s := x2.1; omega
            · cases gc
        obtain ⟨y', hy'⟩ := hxs
        obtain ⟨p1, t1, s1, s2, s3⟩ := ab_cv_ok hI2 hy'
        rw [q1] at s1
        cases s1
        have hprog := hcnt y' hy'
        have hmm := hm (ν' bc) p0 t0 gc q1
        cases hup : an.2.1 with
        | true =>
          have g1 : ν' bc < y' := hprog.1 hup
          have g2 := hmm.1 hup
          exact ih (p0.2.2.2.2.1 - y').toNat (by omega) Lc' σ' hI2 (fun y p t hy hpt => by
            rw [hy'] at hy
            cases hy
            rw [q1] at hpt
            cases hpt
            exact ⟨fun _ => Nat.le_refl _, (fun z => by rw [hup] at z; cases z)⟩)
        | false =>
          have g1 : y' < ν' bc := hprog.2 hup
          have g2 := hmm.2 hup
          exact ih (y' - p0.2.2.2.1).toNat (by omega) Lc' σ' hI2 (fun y p t hy hpt => by
            rw [hy'] at hy
            cases hy
            rw [q1] at hpt
            cases hpt
            exact ⟨(fun z => by rw [hup] at z; cases z), fun _ => Nat.le_refl _⟩)
      · exact (hact p hp).up u.2.1 u.2.2
    cases hcv : ab_cv an Lc with
    | none => exact main 0 Lc σ hI0 (fun y p t hy _ => by rw [hcv] at hy; cases hy)
    | some y0 =>
      obtain ⟨p0, t0, q1, q2, q3⟩ := ab_cv_ok hI0 hcv
      refine main ((p0.2.2.2.2.1 - y0).toNat + (y0 - p0.2.2.2.1).toNat) Lc σ hI0 (fun y p t hy hpt => ?_)
      rw [hcv] at hy
      cases hy
      rw [q1] at hpt
      cases hpt
      exact ⟨fun _ => by omega, fun _ => by omega⟩
theorem bb_go_ok (hl : ev_rule Gd CC) (hgd : bb_gok Gd gd) (hSP : bb_SPok CC SP) {LP : Nat → Nat → Option ab_An} {PL : Nat → Nat → List (Nat × Option Int)} {AB : Nat → Nat → Option ab_AP} {cut : Nat → Nat → Bool} : ∀ f : Nat, bb_GOK CC Gd (bb_go gd SP LP PL AB cut f)
  | 0 => fun ms j z act S outs h => by cases h
  | f + 1 => by
    have IH := bb_core_ok hl hgd hSP (LP := LP) (bb_go_ok hl hgd hSP (LP := LP) (PL := PL) (AB := AB) (cut := cut) f)
    intro ms j z act S outs hg xs xs0 ν Lc sc σ Q J hx0 hxl hJ hact h hL hst hp hout
    have hg : (bif cut j S.2.1 then some [.inr S] else ab_all (fun S => bb_core gd SP LP (bb_go gd SP LP PL AB cut f) ms j z act (ab_pre AB j S)) (ab_spm (PL j S.2.1) [S])) = some outs := hg
    cases hc : cut j S.2.1 with
    | true =>
      rw [hc] at hg
      cases hg
      exact hout _ List.mem_cons_self ν Lc sc σ (ab_up.rf h) hL hst hp
    | false =>
    rw [hc] at hg
    obtain ⟨S', s1, s2, s3, s4⟩ := ab_spm_ok (is := PL j S.2.1) (r := [S]) (S := S) ⟨S, List.mem_cons_self, h, rfl, rfl⟩ hL
    obtain ⟨r, r1, r2⟩ := ab_all_ok hg S' s1
    obtain ⟨C', S'⟩ := S'
    have s4 : S' = S.2 := s4
    subst s4
    have s3 : C'.1.length = S.1.1.length := s3
    have u : ab_up xs S.1 ν C' ν := ab_cx_up ⟨s2, s3⟩
    have r1 : bb_core gd SP LP (bb_go gd SP LP PL AB cut f) ms j z act (ab_pre AB j (C', S.2)) = some r := r1
    have fin : ∀ S0 : ab_S, S0.1 = C' → S0.2.1 = S.2.1 → S0.2.2.1 = S.2.2.1 → S0.2.2.2.1 = S.2.2.2.1 → S0.2.2.2.2.2 = S.2.2.2.2.2 → ab_hp S0.1.1.length ν S0.2.2.2.2.1 σ → bb_core gd SP LP (bb_go gd SP LP PL AB cut f) ms j z act S0 = some r → J S.2.1 Lc sc σ S.2.2.2.2.2.1 S.2.2.2.2.2.2 := by
      intro S0 q1 q2 q3 q4 q5 q6 q7
      obtain ⟨D0, p0, L0, t0, H0, k0⟩ := S0
      dsimp only at q1 q2 q3 q4 q5 q6
      subst q1; subst q2; subst q3; subst q4; subst q5
      exact IH ms j z act _ r q7 xs xs0 ν Lc sc σ Q J hx0 (hxl.up u) hJ (fun p hp => (hact p hp).up u.2.1 u.2.2) s2 (hL.ex u.2.1 u.2.2) (hst.ex u.2.1 u.2.2) q6 (fun o ho => (hout o (r2 o ho)).up u)
    have hp' := hp.ex u.2.1 u.2.2
    cases hab : AB j S.2.1 with
    | none =>
      have e : ab_pre AB j (C', S.2) = (C', S.2) := by
        unfold ab_pre
        show (match AB j S.2.1 with | some p => _ | none => _) = _
        rw [hab]
      rw [e] at r1
      exact fin (C', S.2) rfl rfl rfl rfl rfl hp' r1
    | some p =>
      have e : ab_pre AB j (C', S.2) = (C', S.2.1, S.2.2.1, S.2.2.2.1, ab_preH C' S.2.2.1 S.2.2.2.2.1 p, S.2.2.2.2.2) := by
        unfold ab_pre
        show (match AB j S.2.1 with | some p => _ | none => _) = _
        rw [hab]
      rw [e] at r1
      exact fin (C', S.2.1, S.2.2.1, S.2.2.2.1, ab_preH C' S.2.2.1 S.2.2.2.2.1 p, S.2.2.2.2.2) rfl rfl rfl rfl rfl (ab_preH_ok s2 hp') r1
end BBG
theorem bb_SP0_ok (CC : Nat → List mV → mS → (mX → mS → Prop) → Prop) : bb_SPok CC ab_SP0 := fun _ _ _ _ _ h => by cases h
