/-! the second analysis goes through a method: branches, calls, handlers, loops -/
/-- an end of a method, or a place where it was cut -/
abbrev ac_Z : Type := ac_Q ⊕ ac_S
def ac_unz1 : List ac_Z → Option (List ac_Q)
  | [] => some []
  | .inl e :: t => (match ac_unz1 t with
    | some r => some (e :: r)
    | none => none)
  | .inr _ :: _ => none
def ac_unz (o : Option (List ac_Z)) : Option (List ac_Q) := match o with
  | some l => ac_unz1 l
  | none => none
theorem ac_unz1_ok : ∀ {l : List ac_Z} {r : List ac_Q}, ac_unz1 l = some r → ∀ x ∈ l, ∃ e ∈ r, x = .inl e
  | [], _, _, _, h => by cases h
  | .inl e :: t, r, h, x, hx => by
    unfold ac_unz1 at h
    cases ht : ac_unz1 t with
    | none => rw [ht] at h; cases h
    | some r' =>
      rw [ht] at h
      cases h
      rcases List.mem_cons.mp hx with rfl | hx
      · exact ⟨e, List.mem_cons_self, rfl⟩
      · obtain ⟨e', h1, h2⟩ := ac_unz1_ok ht x hx
        exact ⟨e', List.mem_cons_of_mem _ h1, h2⟩
  | .inr _ :: _, _, h, _, _ => by cases h
abbrev ac_GT : Type := Bool → Nat → mAl → List ac_Lp → ac_S → Option (List ac_Z)
abbrev ac_SP : Type := Nat → List ab_V → ab_C → ac_H → Option (List ac_Q)
/-- a call: by a contract that is known, or through its body -/
def ac_ret (SP : ac_SP) (G : ac_GT) (j : Nat) (args : List ab_V) (C : ab_C) (H : ac_H) : Option (List ac_Q) := match SP j args C H with
  | some outs => some outs
  | none => match m_alF[j]? with
    | some z => bif Nat.ble (ab_args args).length z.1.2.2.1 then ac_unz (G false j z [] (C, 0, ab_L0 z.1.2.2.1 args, [], H, 0, 0)) else none
    | none => none
/-- behind a call -/
def ac_back (G : ac_GT) (ms : Bool) (j : Nat) (z : mAl) (act : List ac_Lp) (S : ac_S) (y' : mMt) (st' : List ab_V) (o : ac_Q) : Option (List ac_Z) := match o.2.1 with
  | .inl v => G ms j z act (o.1, S.2.1 + 3, S.2.2.1, v.toList ++ st', o.2.2, S.2.2.2.2.2.1 + y'.2.2.2.2.1.cells, S.2.2.2.2.2.2 + y'.2.2.2.2.1.slots)
  | .inr x => match z.1.2.2.2.2.2 with
    | [] => bif ab_rm z.1.2.2.2.2.1 (S.2.2.2.2.2.1 + y'.2.2.2.2.1.cells) (S.2.2.2.2.2.2 + y'.2.2.2.2.1.slots) then some [.inl (o.1, .inr x, o.2.2)] else none
    | hh => match m_hnd hh S.2.1 x with
      | none => none
      | some h => match m_at z.2.1 h with
        | none => none
        | some r => match r.1 with
          | .astore i => bif Nat.blt i S.2.2.1.length then G ms j z act (o.1, h + 2, (ab_clr S.2.2.1 i).set i none, [], o.2.2, S.2.2.2.2.2.1 + y'.2.2.2.2.1.cells, S.2.2.2.2.2.2 + y'.2.2.2.2.1.slots) else none
          | .astore_n i => bif Nat.blt (i : Nat) S.2.2.1.length then G ms j z act (o.1, h + 1, (ab_clr S.2.2.1 i).set i none, [], o.2.2, S.2.2.2.2.2.1 + y'.2.2.2.2.1.cells, S.2.2.2.2.2.2 + y'.2.2.2.2.1.slots) else none
          | _ => none
def ac_body (kp : ac_Kp) (SP : ac_SP) (G : ac_GT) (ms : Bool) (j : Nat) (z : mAl) (act : List ac_Lp) (S : ac_S) : Option (List ac_Z) := match ac_stp kp ms z.1 z.2.1 S.2.1 S.1 S.2.2.1 S.2.2.2.1 S.2.2.2.2.1 S.2.2.2.2.2.1 S.2.2.2.2.2.2 with
  | none => none
  | some (.inl nx) => ab_all (G ms j z act) nx
  | some (.inr (.inl e)) => some [.inl e]
  | some (.inr (.inr c)) => match m_mt[c.1]? with
    | none => none
    | some y' => match ac_ret SP G c.1 c.2.1 S.1 S.2.2.2.2.1 with
      | none => none
      | some outs => ab_all (ac_back G ms j z act S y' c.2.2) outs
/-- cases by a small number -/
def ac_spk (S : ac_S) (e : ab_E) (hi : Int) : Nat → Int → List ac_S
  | 0, _ => []
  | m + 1, x => bif ab_le x hi then (ab_asm S.1 .eq e (0, x), S.2) :: ac_spk S e hi m (x + 1) else []
def ac_sp3 (S : ac_S) (e : ab_E) (c : Int) : List ac_S :=
  (bif ab_le c (ab_iv S.1.1 e).1 then [] else [(ab_asm S.1 .lt e (0, c), S.2)]) ++ ((bif ab_le (ab_iv S.1.1 e).1 c && ab_le c (ab_iv S.1.1 e).2 then [(ab_asm S.1 .eq e (0, c), S.2)] else []) ++ (bif ab_le (ab_iv S.1.1 e).2 c then [] else [(ab_asm S.1 .gt e (0, c), S.2)]))
def ac_sp1 (p : Nat × Option Int) (S : ac_S) : List ac_S := match ab_ld S.2.2.1 p.1 with
  | none => [S]
  | some v => match ab_nume v with
    | none => [S]
    | some e => match p.2 with
      | some c => ac_sp3 S e c
      | none => bif ab_le ((ab_iv S.1.1 e).1 + 1) (ab_iv S.1.1 e).2 && ab_le (ab_iv S.1.1 e).2 ((ab_iv S.1.1 e).1 + 16) then ac_spk S e (ab_iv S.1.1 e).2 17 (ab_iv S.1.1 e).1 else [S]
def ac_spm : List (Nat × Option Int) → List ac_S → List ac_S
  | [], r => r
  | i :: t, r => ac_spm t (r.flatMap (ac_sp1 i))
def ac_core (kp : ac_Kp) (SP : ac_SP) (LP : Nat → Nat → Option ac_An) (G : ac_GT) (ms : Bool) (j : Nat) (z : mAl) (act : List ac_Lp) (S : ac_S) : Option (List ac_Z) := match ac_lpx LP j S with
  | none => ac_body kp SP G ms j z act S
  | some an => match act.find? (fun l => Nat.beq l.1 S.2.1) with
    | some l => bif ac_re l S then some [] else none
    | none => bif ac_eOk an S then (match ac_eS kp.1 an S with
      | some S' => (match ac_ms an S'.1 S'.2.2.1 S'.2.2.2.2.1 with
        | some e => ac_body kp SP G ms j z (ac_lp an S e :: act) S'
        | none => none)
      | none => none) else none
def ac_go (kp : ac_Kp) (SP : ac_SP) (LP : Nat → Nat → Option ac_An) (PL : Nat → Nat → List (Nat × Option Int)) (cut : Nat → Nat → Bool) : Nat → ac_GT
  | 0 => fun _ _ _ _ _ => none
  | f + 1 => fun ms j z act S => bif cut j S.2.1 then some [.inr S] else ab_all (ac_core kp SP LP (ac_go kp SP LP PL cut f) ms j z act) (ac_spm (PL j S.2.1) [S])
section ACF
variable {xs : ab_X} {C C' : ab_C} {ν ν' : ab_N} {kp : ac_Kp} {σ0 : mS} {H : ac_H} {σ : mS} {L : List (Option ab_V)} {Lc : List (Option mV)} {n N : Nat} {J : Nat → List (Option mV) → List mV → mS → Nat → Nat → Prop} {Q : mX → mS → Prop}
/-- what an outcome owes -/
def ac_zo (kp : ac_Kp) (σ0 : mS) (xs : ab_X) (C : ab_C) (ν : ab_N) (J : Nat → List (Option mV) → List mV → mS → Nat → Nat → Prop) (Q : mX → mS → Prop) (o : ac_Z) : Prop := match o with
  | .inl e => ∀ ν' x σ', ab_up xs C ν e.1 ν' → ab_xo e.1.1.length ν' e.2.1 x → ac_hp kp σ0 e.1.1.length ν' e.2.2 σ' → Q x σ'
  | .inr q => ac_kq kp σ0 xs C ν J q
theorem ac_zo.up {o : ac_Z} (h : ac_zo kp σ0 xs C ν J Q o) (u : ab_up xs C ν C' ν') : ac_zo kp σ0 xs C' ν' J Q o := by
  cases o with
  | inl e => exact fun ν2 x σ' u2 h2 h3 => h ν2 x σ' (u.tr u2) h2 h3
  | inr q => exact fun ν2 Lc' sc' σ' u2 h2 h3 h4 => h ν2 Lc' sc' σ' (u.tr u2) h2 h3 h4
/-- a loop under way: what comes back to its head, with a counter that went on, is done -/
def ac_acs (kp : ac_Kp) (σ0 : mS) (J : Nat → List (Option mV) → List mV → mS → Nat → Nat → Prop) (N : Nat) (ν : ab_N) (l : ac_Lp) : Prop := (l.2.2.1 ≤ N ∧ l.2.2.2.2.2.2.2.1.1 < N ∧ l.2.2.2.2.2.2.2.2.1 < N) ∧ (l.2.2.2.2.1.2.2 = [] ∧ ∃ ν0 Lc0 σ1, ab_Ls l.2.2.1 ν0 l.2.2.2.1 Lc0 ∧ ac_hp kp σ0 l.2.2.1 ν0 l.2.2.2.2.1 σ1) ∧
  ∀ Lc σ, ac_LI kp σ0 l.2.1 l.2.2.1 ν l.2.2.2.1 l.2.2.2.2.1 Lc σ → ac_mz l.2.1 Lc σ < ac_mu l.2.1 (ν l.2.2.2.2.2.2.2.1.1 + l.2.2.2.2.2.2.2.1.2) (ν l.2.2.2.2.2.2.2.2.1 + l.2.2.2.2.2.2.2.2.2) → J l.1 Lc [] σ l.2.2.2.2.2.1 l.2.2.2.2.2.2.1
theorem ac_LI.bk {an : ac_An} {B : List (Option ab_V)} {Hb : ac_H} (h : ac_LI kp σ0 an n ν' B Hb Lc σ) (g : ab_ex n ν ν') : ac_LI kp σ0 an n ν B Hb Lc σ := ⟨h.1.ex g.sy (Nat.le_refl _), h.2.1.ex g.sy (Nat.le_refl _), h.2.2⟩
theorem ac_acs.up {l : ac_Lp} (h : ac_acs kp σ0 J N ν l) {N' : Nat} (g : ab_ex N ν ν') (hN : N ≤ N') : ac_acs kp σ0 J N' ν' l := by
  obtain ⟨⟨h1, h2, h3⟩, h4, h5⟩ := h
  refine ⟨⟨Nat.le_trans h1 hN, Nat.lt_of_lt_of_le h2 hN, Nat.lt_of_lt_of_le h3 hN⟩, h4, fun Lc σ hI hc => h5 Lc σ (hI.bk (fun j hj => g j (Nat.lt_of_lt_of_le hj h1))) ?_⟩
  rw [← g _ h2, ← g _ h3]
  exact hc
def ac_GOK (l : Launch) (kp : ac_Kp) (G : ac_GT) : Prop := ∀ (ms : Bool) (j : Nat) (z : mAl) (act : List ac_Lp) (S : ac_S) (outs : List ac_Z), G ms j z act S = some outs → ∀ (xs xs0 : ab_X) (ν : ab_N) (σ0 : mS) (Lc : List (Option mV)) (sc : List mV) (σ : mS) (Q : mX → mS → Prop) (J : Nat → List (Option mV) → List mV → mS → Nat → Nat → Prop),
  (ms = true → xs0 = xs) → ab_xl ms xs S.1 ν → ab_cl l z xs0 Q J → (∀ p ∈ act, ac_acs kp σ0 J S.1.1.length ν p) → ab_cx xs S.1 ν → ab_Ls S.1.1.length ν S.2.2.1 Lc → ab_Vs S.1.1.length ν S.2.2.2.1 sc → ac_hp kp σ0 S.1.1.length ν S.2.2.2.2.1 σ → (∀ o ∈ outs, ac_zo kp σ0 xs S.1 ν J Q o) → J S.2.1 Lc sc σ S.2.2.2.2.2.1 S.2.2.2.2.2.2
def ac_SPok (l : Launch) (kp : ac_Kp) (SP : ac_SP) : Prop := ∀ (j : Nat) (args : List ab_V) (C : ab_C) (H : ac_H) (outs : List ac_Q), SP j args C H = some outs → ∀ (xs : ab_X) (ν : ab_N) (σ0 : mS) (avs : List mV) (σ : mS), ab_cx xs C ν → ab_Vs C.1.length ν args avs → ac_hp kp σ0 C.1.length ν H σ → ∀ Q : mX → mS → Prop, (∀ e ∈ outs, ∀ ν' x σ', ab_up xs C ν e.1 ν' → ab_xo e.1.1.length ν' e.2.1 x → ac_hp kp σ0 e.1.1.length ν' e.2.2 σ' → Q x σ') → m_ConI l j avs σ Q
theorem ac_spk_ok {S : ac_S} {e : ab_E} {hi x : Int} (h : ab_cx xs S.1 ν) (he : ab_I S.1.1.length ν e x) : ∀ (m : Nat) (y : Int), y ≤ x → x ≤ hi → x < y + (m : Int) → ∃ S' ∈ ac_spk S e hi m y, ab_cx xs S'.1 ν ∧ S'.1.1.length = S.1.1.length ∧ S'.2 = S.2
  | 0, y, h1, _, h3 => by omega
  | m + 1, y, h1, h2, h3 => by
    have hb : ab_le y hi = true := by rw [ab_le_ok]; omega
    unfold ac_spk
    rw [hb]
    by_cases e1 : x = y
    · have g := ab_asm_ok (c := .eq) (f := (0, y)) (y := y) h he (ab_con h) e1
      exact ⟨_, List.mem_cons_self, g.1, g.2, rfl⟩
    · obtain ⟨S', g1, g2⟩ := ac_spk_ok h he m (y + 1) (by omega) h2 (by omega)
      exact ⟨S', List.mem_cons_of_mem _ g1, g2⟩
theorem ac_sp3_ok {S : ac_S} {e : ab_E} {x c : Int} (h : ab_cx xs S.1 ν) (he : ab_I S.1.1.length ν e x) : ∃ S' ∈ ac_sp3 S e c, ab_cx xs S'.1 ν ∧ S'.1.1.length = S.1.1.length ∧ S'.2 = S.2 := by
  have b := ab_iv_ok h.1 he
  unfold ac_sp3
  rcases Int.lt_trichotomy x c with g | g | g
  · have hb : ab_le c (ab_iv S.1.1 e).1 = false := by
      cases hb : ab_le c (ab_iv S.1.1 e).1 with
      | false => rfl
      | true => rw [ab_le_ok] at hb; omega
    rw [hb]
    have k := ab_asm_ok (c := .lt) (f := (0, c)) (y := c) h he (ab_con h) g
    exact ⟨_, List.mem_append_left _ List.mem_cons_self, k.1, k.2, rfl⟩
  · have hb : (ab_le (ab_iv S.1.1 e).1 c && ab_le c (ab_iv S.1.1 e).2) = true := by
      rw [Bool.and_eq_true, ab_le_ok, ab_le_ok]; omega
    rw [hb]
    have k := ab_asm_ok (c := .eq) (f := (0, c)) (y := c) h he (ab_con h) g
    exact ⟨_, List.mem_append_right _ (List.mem_append_left _ List.mem_cons_self), k.1, k.2, rfl⟩
  · have hb : ab_le (ab_iv S.1.1 e).2 c = false := by
      cases hb : ab_le (ab_iv S.1.1 e).2 c with
      | false => rfl
      | true => rw [ab_le_ok] at hb; omega
    rw [hb]
    have k := ab_asm_ok (c := .gt) (f := (0, c)) (y := c) h he (ab_con h) g
    exact ⟨_, List.mem_append_right _ (List.mem_append_right _ List.mem_cons_self), k.1, k.2, rfl⟩
theorem ac_sp1_ok {S : ac_S} {i : Nat × Option Int} (h : ab_cx xs S.1 ν) (hL : ab_Ls S.1.1.length ν S.2.2.1 Lc) : ∃ S' ∈ ac_sp1 i S, ab_cx xs S'.1 ν ∧ S'.1.1.length = S.1.1.length ∧ S'.2 = S.2 := by
  unfold ac_sp1
  cases hv : ab_ld S.2.2.1 i.1 with
  | none => exact ⟨S, List.mem_cons_self, h, rfl, rfl⟩
  | some v =>
    dsimp only
    cases he : ab_nume v with
    | none => exact ⟨S, List.mem_cons_self, h, rfl, rfl⟩
    | some e =>
      dsimp only
      obtain ⟨x, x1, x2⟩ := hL.ld hv
      have g := ab_nume_ok x2 he
      cases i.2 with
      | some c => exact ac_sp3_ok h g
      | none =>
        dsimp only
        cases hb : (ab_le ((ab_iv S.1.1 e).1 + 1) (ab_iv S.1.1 e).2 && ab_le (ab_iv S.1.1 e).2 ((ab_iv S.1.1 e).1 + 16)) with
        | false => exact ⟨S, List.mem_cons_self, h, rfl, rfl⟩
        | true =>
          rw [Bool.and_eq_true, ab_le_ok, ab_le_ok] at hb
          have b := ab_iv_ok h.1 g
          exact ac_spk_ok h g 17 (ab_iv S.1.1 e).1 (by omega) (by omega) (by omega)
theorem ac_spm_ok : ∀ {is : List (Nat × Option Int)} {r : List ac_S} {S : ac_S}, (∃ S' ∈ r, ab_cx xs S'.1 ν ∧ S'.1.1.length = S.1.1.length ∧ S'.2 = S.2) → ab_Ls S.1.1.length ν S.2.2.1 Lc → ∃ S' ∈ ac_spm is r, ab_cx xs S'.1 ν ∧ S'.1.1.length = S.1.1.length ∧ S'.2 = S.2
  | [], _, _, h, _ => h
  | i :: t, r, S, ⟨S1, g1, g2, g3, g4⟩, hL => by
    obtain ⟨S2, k1, k2, k3, k4⟩ := ac_sp1_ok (S := S1) (i := i) g2 (by rw [g3, g4]; exact hL)
    exact ac_spm_ok (is := t) (r := r.flatMap (ac_sp1 i)) (S := S) ⟨S2, List.mem_flatMap.mpr ⟨S1, g1, k1⟩, k2, k3.trans g3, k4.trans g4⟩ hL
end ACF
