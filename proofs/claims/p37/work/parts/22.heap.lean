/-! branches; kinds of cells; the heap of the analysis -/
def ab_rdec (C : ab_C) (z w : Nat × ab_E × ab_E) : Option Bool := match ab_deq C z.2.2 (0, 0), ab_deq C w.2.2 (0, 0) with
  | some true, some true => some true
  | some true, some false => some false
  | some false, some true => some false
  | some false, some false => bif Nat.beq z.1 w.1 then ab_deq C z.2.1 w.2.1 else some false
  | _, _ => none
/-- what is known of a branch, what each side teaches, the stack behind it -/
def ab_br (r : mRow) (C : ab_C) (st : List ab_V) : Option (Option Bool × ab_C × ab_C × List ab_V) := match r.1 with
  | .ifCond c _ => match st with
    | .inl e :: st => some (ab_dec C c e (0, 0), ab_asm C c e (0, 0), ab_asm C (ab_inv c) e (0, 0), st)
    | .inr (.inr (.inr q)) :: st => some (ab_dec C c q.1 q.2, ab_asm C c q.1 q.2, ab_asm C (ab_inv c) q.1 q.2, st)
    | _ => none
  | .if_icmp c _ => match st with
    | .inl f :: .inl e :: st => some (ab_dec C c e f, ab_asm C c e f, ab_asm C (ab_inv c) e f, st)
    | _ => none
  | .if_acmp c _ => match st with
    | .inr (.inr (.inl w)) :: .inr (.inr (.inl z)) :: st => match c with
      | .eq => some (ab_rdec C z w, C, C, st)
      | .ne => some (ab_dno (ab_rdec C z w), C, C, st)
    | _ => none
  | .ifnull _ => match st with
    | .inr (.inr (.inl z)) :: st => some (ab_deq C z.2.2 (0, 0), ab_asm C .eq z.2.2 (0, 0), ab_asm C .ne z.2.2 (0, 0), st)
    | _ => none
  | .ifnonnull _ => match st with
    | .inr (.inr (.inl z)) :: st => some (ab_dno (ab_deq C z.2.2 (0, 0)), ab_asm C .ne z.2.2 (0, 0), ab_asm C .eq z.2.2 (0, 0), st)
    | _ => none
  | _ => none
section AB4
variable {xs : ab_X} {C : ab_C} {ν : ab_N} {e f : ab_E} {x y : Int}
theorem ab_R_null {n : Nat} {z : Nat × ab_E × ab_E} {r : mR} (h : ab_R n ν z r) : (ν z.2.2.1 + z.2.2.2 = 0) ↔ r = none := by
  cases r with
  | none => exact ⟨fun _ => rfl, fun _ => h.2.2⟩
  | some q =>
    have h1 : ν z.2.2.1 + z.2.2.2 = 1 := h.2.2.1
    exact ⟨fun h2 => by omega, fun h2 => by cases h2⟩
theorem ab_R_z {n : Nat} {z : Nat × ab_E × ab_E} {r : mR} (h : ab_R n ν z r) : ab_I n ν z.2.2 (ν z.2.2.1 + z.2.2.2) := ⟨h.2.1, rfl⟩
theorem ab_rdec_ok {b : Bool} {z w : Nat × ab_E × ab_E} {r r' : mR} (h : ab_cx xs C ν) (hz : ab_R C.1.length ν z r) (hw : ab_R C.1.length ν w r') (hd : ab_rdec C z w = some b) : r = r' ↔ b = true := by
  have z1 : ∀ b, ab_deq C z.2.2 (0, 0) = some b → (r = none ↔ b = true) := fun b hb => (ab_R_null hz).symm.trans (ab_deq_ok h (ab_R_z hz) (ab_con h) hb)
  have w1 : ∀ b, ab_deq C w.2.2 (0, 0) = some b → (r' = none ↔ b = true) := fun b hb => (ab_R_null hw).symm.trans (ab_deq_ok h (ab_R_z hw) (ab_con h) hb)
  unfold ab_rdec at hd
  cases hz0 : ab_deq C z.2.2 (0, 0) with
  | none => rw [hz0] at hd; cases hd
  | some bz =>
  cases hw0 : ab_deq C w.2.2 (0, 0) with
  | none => rw [hz0, hw0] at hd; cases bz <;> cases hd
  | some bw =>
  rw [hz0, hw0] at hd
  have z2 := z1 _ hz0
  have w2 := w1 _ hw0
  cases bz with
  | true =>
    have e1 := z2.mpr rfl
    subst e1
    cases bw with
    | true =>
      cases hd
      exact ⟨fun _ => rfl, fun _ => (w2.mpr rfl).symm⟩
    | false =>
      cases hd
      exact ⟨fun q => w2.mp q.symm, fun q => by cases q⟩
  | false =>
    cases bw with
    | true =>
      cases hd
      have e1 := w2.mpr rfl
      subst e1
      exact ⟨fun q => z2.mp q, fun q => by cases q⟩
    | false =>
      cases r with
      | none => cases z2.mp rfl
      | some p =>
      cases r' with
      | none => cases w2.mp rfl
      | some p' =>
      have hp := hz.2.2.2
      have hp' := hw.2.2.2
      dsimp only at hd
      cases hc : Nat.beq z.1 w.1 with
      | false =>
        rw [hc] at hd
        cases hd
        refine ⟨fun q => ?_, fun q => by cases q⟩
        cases q
        have : z.1 = w.1 := hp.1.symm.trans hp'.1
        rw [this, Nat.beq_refl] at hc
        cases hc
      | true =>
        rw [hc] at hd
        have hcc := Nat.eq_of_beq_eq_true hc
        have g := ab_deq_ok h (e := z.2.1) (f := w.2.1) (x := (p.2 : Int)) (y := (p'.2 : Int)) ⟨hz.1, hp.2⟩ ⟨hw.1, hp'.2⟩ hd
        refine Iff.trans ⟨fun q => ?_, fun q => ?_⟩ g
        · cases q; rfl
        · have e1 : p.2 = p'.2 := by omega
          have e2 : p.1 = p'.1 := by rw [hp.1, hp'.1, hcc]
          exact congrArg some (Prod.ext e2 e1)
theorem ab_br_ok {r : mRow} {st : List ab_V} {sc : List mV} {q : Option Bool × ab_C × ab_C × List ab_V} (h : ab_cx xs C ν) (hs : ab_Vs C.1.length ν st sc) (hm : ab_br r C st = some q) :
    ∃ (P : Prop) (s' : List mV), m_cond r sc = some (P, s') ∧ ab_Vs C.1.length ν q.2.2.2 s' ∧ (∀ b, q.1 = some b → (P ↔ b = true)) ∧ (P → ab_cx xs q.2.1 ν ∧ q.2.1.1.length = C.1.length) ∧ (¬ P → ab_cx xs q.2.2.1 ν ∧ q.2.2.1.1.length = C.1.length) := by
  obtain ⟨ig, ln, ra, rb, rz, rp⟩ := r
  unfold ab_br at hm
  dsimp only at hm
  have h0 : Int32.toInt 0 = 0 := rfl
  split at hm
  · rename_i c o
    split at hm
    · rename_i e st'
      obtain ⟨y, s', rfl, g1, g2⟩ := ab_Vs_i hs
      cases hm
      have k1 := ab_ic c y 0
      rw [h0] at k1
      exact ⟨_, s', rfl, g2, fun b hb => k1.trans (ab_dec_ok h g1 (ab_con h) hb), fun hP => ab_asm_ok h g1 (ab_con h) (k1.mp hP), fun hP => ab_asm_ok h g1 (ab_con h) (ab_inv_ok (fun z => hP (k1.mpr z)))⟩
    · rename_i q st'
      obtain ⟨x, s', rfl, g1, g2⟩ := ab_Vs_c hs
      obtain ⟨a, b, rfl, g3, g4⟩ := ab_Vc g1
      cases hm
      have k1 := ab_lc c a b
      exact ⟨_, s', rfl, g2, fun b hb => k1.trans (ab_dec_ok h g3 g4 hb), fun hP => ab_asm_ok h g3 g4 (k1.mp hP), fun hP => ab_asm_ok h g3 g4 (ab_inv_ok (fun z => hP (k1.mpr z)))⟩
    · cases hm
  · rename_i c o
    split at hm
    · rename_i f e st'
      obtain ⟨y, s1, rfl, g1, g2⟩ := ab_Vs_i hs
      obtain ⟨x, s', rfl, g3, g4⟩ := ab_Vs_i g2
      cases hm
      have k1 := ab_ic c x y
      exact ⟨_, s', rfl, g4, fun b hb => k1.trans (ab_dec_ok h g3 g1 hb), fun hP => ab_asm_ok h g3 g1 (k1.mp hP), fun hP => ab_asm_ok h g3 g1 (ab_inv_ok (fun z => hP (k1.mpr z)))⟩
    · cases hm
  · rename_i c o
    split at hm
    · rename_i w z st'
      obtain ⟨y, s1, rfl, g1, g2⟩ := ab_Vs_a hs
      obtain ⟨x, s', rfl, g3, g4⟩ := ab_Vs_a g2
      split at hm
      · cases hm
        exact ⟨_, s', rfl, g4, fun b hb => ab_rdec_ok h g3 g1 hb, fun _ => ⟨h, rfl⟩, fun _ => ⟨h, rfl⟩⟩
      · cases hm
        exact ⟨_, s', rfl, g4, fun b hb => ab_dno_ok (P := x = y) (fun b hb => ab_rdec_ok h g3 g1 hb) hb, fun _ => ⟨h, rfl⟩, fun _ => ⟨h, rfl⟩⟩
    · cases hm
  · split at hm
    · rename_i z st'
      obtain ⟨x, s', rfl, g1, g2⟩ := ab_Vs_a hs
      cases hm
      have k1 := ab_R_null g1
      exact ⟨_, s', rfl, g2, fun b hb => k1.symm.trans (ab_deq_ok h (ab_R_z g1) (ab_con h) hb), fun hP => ab_asm_ok (c := .eq) h (ab_R_z g1) (ab_con h) (k1.mpr hP), fun hP => ab_asm_ok (c := .ne) h (ab_R_z g1) (ab_con h) (fun z => hP (k1.mp z))⟩
    · cases hm
  · split at hm
    · rename_i z st'
      obtain ⟨x, s', rfl, g1, g2⟩ := ab_Vs_a hs
      cases hm
      have k1 := ab_R_null g1
      exact ⟨_, s', rfl, g2, fun b hb => ab_dno_ok (P := x = none) (fun b hb => k1.symm.trans (ab_deq_ok h (ab_R_z g1) (ab_con h) hb)) hb, fun hP => ab_asm_ok (c := .ne) h (ab_R_z g1) (ab_con h) (fun z => hP (k1.mp z)), fun hP => ab_asm_ok (c := .eq) h (ab_R_z g1) (ab_con h) (k1.mpr (Decidable.of_not_not hP))⟩
    · cases hm
  · cases hm
end AB4
/-- a kind of cells: 0 ints, 1 longs, 2 references; class, bounds of the value or number, 0 if null may be there, 1 if another may -/
abbrev ab_T : Type := Nat × Nat × Int × Int × Nat × Nat
def ab_Tr (T : ab_T) (x : mV) : Prop := match x with
  | .inl y => T.1 = 0 ∧ T.2.2.1 ≤ y.toInt ∧ y.toInt ≤ T.2.2.2.1
  | .inr (.inl y) => T.1 = 1 ∧ T.2.2.1 ≤ y.toInt ∧ y.toInt ≤ T.2.2.2.1
  | .inr (.inr none) => T.1 = 2 ∧ T.2.2.2.2.1 = 0
  | .inr (.inr (some q)) => T.1 = 2 ∧ T.2.2.2.2.2 = 1 ∧ q.1 = T.2.1 ∧ T.2.2.1 ≤ (q.2 : Int) ∧ (q.2 : Int) ≤ T.2.2.2.1
def ab_zl (T : ab_T) : Int := bif Nat.beq T.2.2.2.2.1 0 then 0 else 1
def ab_ofr (C : ab_C) (T : ab_T) : ab_C × ab_V :=
  bif Nat.beq T.2.2.2.2.2 1 && ab_le T.2.2.1 T.2.2.2.1 then
    ((ab_fr (ab_fr C T.2.2.1 T.2.2.2.1).1 (ab_zl T) 1).1, .inr (.inr (.inl (T.2.1, (ab_fr C T.2.2.1 T.2.2.2.1).2, (ab_fr (ab_fr C T.2.2.1 T.2.2.2.1).1 (ab_zl T) 1).2)))) else
  (C, .inr (.inr (.inl (T.2.1, (0, 0), (0, 0)))))
def ab_of (C : ab_C) (T : ab_T) : ab_C × ab_V :=
  bif Nat.beq T.1 0 then ((ab_fr C T.2.2.1 T.2.2.2.1).1, .inl (ab_fr C T.2.2.1 T.2.2.2.1).2) else
  bif Nat.beq T.1 1 then ((ab_fr C T.2.2.1 T.2.2.2.1).1, .inr (.inl (ab_fr C T.2.2.1 T.2.2.2.1).2)) else ab_ofr C T
/-- at most hi, by what is known -/
def ab_hio (C : ab_C) (e : ab_E) (hi : Int) : Bool := ab_le (ab_iv C.1 e).2 hi || C.2.1.any (fun t => Nat.beq t.1 e.1 && ab_le ((ab_iv C.1 (t.2.1, t.2.2)).2 + e.2) hi)
theorem ab_hio_ok {xs : ab_X} {C : ab_C} {ν : ab_N} {e : ab_E} {x hi : Int} (h : ab_cx xs C ν) (he : ab_I C.1.length ν e x) (hh : ab_hio C e hi = true) : x ≤ hi := by
  unfold ab_hio at hh
  rcases (Bool.or_eq_true _ _).mp hh with h1 | h1
  · rw [ab_le_ok] at h1
    have := ab_iv_ok h.1 he
    omega
  · obtain ⟨t, t1, t2⟩ := List.any_eq_true.mp h1
    rw [Bool.and_eq_true, ab_le_ok] at t2
    obtain ⟨a1, a2, a3⟩ := h.2.2.1 t t1
    have b := ab_iv_ok h.1 (e := (t.2.1, t.2.2)) (x := ν t.2.1 + t.2.2) ⟨a2, rfl⟩
    have e1 := Nat.eq_of_beq_eq_true t2.1
    have := he.2
    rw [e1] at a3
    omega
def ab_in (C : ab_C) (v : ab_V) (T : ab_T) : Bool := match v with
  | .inl e => Nat.beq T.1 0 && (ab_le T.2.2.1 (ab_iv C.1 e).1 && ab_hio C e T.2.2.2.1)
  | .inr (.inl e) => Nat.beq T.1 1 && (ab_le T.2.2.1 (ab_iv C.1 e).1 && ab_hio C e T.2.2.2.1)
  | .inr (.inr (.inl z)) => Nat.beq T.1 2 && ((Nat.beq T.2.2.2.2.1 0 || ab_le 1 (ab_iv C.1 z.2.2).1) && (ab_le (ab_iv C.1 z.2.2).2 0 || (Nat.beq T.2.2.2.2.2 1 && (Nat.beq z.1 T.2.1 && (ab_le T.2.2.1 (ab_iv C.1 z.2.1).1 && ab_le (ab_iv C.1 z.2.1).2 T.2.2.2.1)))))
  | .inr (.inr (.inr _)) => false
/-- a kind that takes one more value -/
def ab_jn (C : ab_C) (v : ab_V) (T : ab_T) : Option ab_T := match v with
  | .inl e => bif Nat.beq T.1 0 then some (0, T.2.1, ab_mn T.2.2.1 (ab_iv C.1 e).1, ab_mx T.2.2.2.1 (ab_iv C.1 e).2, T.2.2.2.2) else none
  | .inr (.inl e) => bif Nat.beq T.1 1 then some (1, T.2.1, ab_mn T.2.2.1 (ab_iv C.1 e).1, ab_mx T.2.2.2.1 (ab_iv C.1 e).2, T.2.2.2.2) else none
  | .inr (.inr (.inl z)) => bif Nat.beq T.1 2 then
      (bif ab_le (ab_iv C.1 z.2.2).2 0 then some (2, T.2.1, T.2.2.1, T.2.2.2.1, 0, T.2.2.2.2.2) else
       bif Nat.beq T.2.2.2.2.2 1 then
         (bif Nat.beq z.1 T.2.1 then some (2, T.2.1, ab_mn T.2.2.1 (ab_iv C.1 z.2.1).1, ab_mx T.2.2.2.1 (ab_iv C.1 z.2.1).2, (bif ab_le 1 (ab_iv C.1 z.2.2).1 then T.2.2.2.2.1 else 0), 1) else none)
       else some (2, z.1, (ab_iv C.1 z.2.1).1, (ab_iv C.1 z.2.1).2, (bif ab_le 1 (ab_iv C.1 z.2.2).1 then T.2.2.2.2.1 else 0), 1)) else none
  | .inr (.inr (.inr _)) => none
section AB5
variable {xs : ab_X} {C : ab_C} {ν : ab_N} {T T' : ab_T} {x : mV} {v : ab_V}
theorem ab_of_ok (h : ab_cx xs C ν) (hx : ab_Tr T x) : ∃ ν', ab_up xs C ν (ab_of C T).1 ν' ∧ ab_Vr (ab_of C T).1.1.length ν' (ab_of C T).2 x := by
  unfold ab_of
  rcases x with y | y | r
  · obtain ⟨h1, h2, h3⟩ := hx
    rw [h1]
    exact ab_fr_ok h h2 h3
  · obtain ⟨h1, h2, h3⟩ := hx
    rw [h1]
    exact ab_fr_ok h h2 h3
  · cases r with
    | none =>
      obtain ⟨h1, h2⟩ := hx
      rw [h1]
      show ∃ ν', ab_up xs C ν (ab_ofr C T).1 ν' ∧ ab_Vr (ab_ofr C T).1.1.length ν' (ab_ofr C T).2 _
      unfold ab_ofr
      cases hb : (Nat.beq T.2.2.2.2.2 1 && ab_le T.2.2.1 T.2.2.2.1) with
      | false => exact ⟨ν, ab_up.rf h, h.2.1, h.2.1, by show ν 0 + 0 = 0; rw [h.1.1]; rfl⟩
      | true =>
        rw [Bool.and_eq_true, ab_le_ok] at hb
        obtain ⟨ν1, u1, g1⟩ := ab_fr_ok h (x := T.2.2.1) (Int.le_refl _) hb.2
        have hz : ab_zl T = 0 := by unfold ab_zl; rw [h2]; rfl
        obtain ⟨ν2, u2, g2⟩ := ab_fr_ok u1.1 (x := 0) (lo := ab_zl T) (hi := 1) (by rw [hz]; exact Int.le_refl _) (by decide)
        exact ⟨ν2, u1.tr u2, (u2.I g1).1, g2.1, g2.2.symm⟩
    | some q =>
      obtain ⟨h1, h2, h3, h4, h5⟩ := hx
      rw [h1]
      show ∃ ν', ab_up xs C ν (ab_ofr C T).1 ν' ∧ ab_Vr (ab_ofr C T).1.1.length ν' (ab_ofr C T).2 _
      unfold ab_ofr
      have hb : (Nat.beq T.2.2.2.2.2 1 && ab_le T.2.2.1 T.2.2.2.1) = true := by
        rw [Bool.and_eq_true, ab_le_ok, h2]
        exact ⟨rfl, by omega⟩
      rw [hb]
      obtain ⟨ν1, u1, g1⟩ := ab_fr_ok h (x := (q.2 : Int)) h4 h5
      have hz : ab_zl T ≤ 1 := by
        unfold ab_zl
        cases Nat.beq T.2.2.2.2.1 0 <;> decide
      obtain ⟨ν2, u2, g2⟩ := ab_fr_ok u1.1 (x := 1) (lo := ab_zl T) (hi := 1) hz (by decide)
      exact ⟨ν2, u1.tr u2, (u2.I g1).1, g2.1, g2.2.symm, h3, (u2.I g1).2⟩
theorem ab_in_ok (h : ab_cx xs C ν) (hv : ab_Vr C.1.length ν v x) (hi : ab_in C v T = true) : ab_Tr T x := by
  rcases v with e | e | z | q
  · obtain ⟨y, rfl, g⟩ := ab_Vi hv
    unfold ab_in at hi
    simp only [Bool.and_eq_true, ab_le_ok] at hi
    have := ab_iv_ok h.1 g
    exact ⟨Nat.eq_of_beq_eq_true hi.1, by omega, ab_hio_ok h g hi.2.2⟩
  · obtain ⟨y, rfl, g⟩ := ab_Vl hv
    unfold ab_in at hi
    simp only [Bool.and_eq_true, ab_le_ok] at hi
    have := ab_iv_ok h.1 g
    exact ⟨Nat.eq_of_beq_eq_true hi.1, by omega, ab_hio_ok h g hi.2.2⟩
  · obtain ⟨y, rfl, g⟩ := ab_Va hv
    unfold ab_in at hi
    simp only [Bool.and_eq_true, Bool.or_eq_true, ab_le_ok] at hi
    obtain ⟨i1, i2, i3⟩ := hi
    have hz := ab_iv_ok h.1 (ab_R_z g)
    cases y with
    | none =>
      have g3 : ν z.2.2.1 + z.2.2.2 = 0 := g.2.2
      refine ⟨Nat.eq_of_beq_eq_true i1, ?_⟩
      rcases i2 with i2 | i2
      · exact Nat.eq_of_beq_eq_true i2
      · omega
    | some p =>
      obtain ⟨g1, g2, g3, g4, g5⟩ := g
      rcases i3 with i3 | ⟨i3, i4, i5, i6⟩
      · omega
      · have := ab_iv_ok h.1 (e := z.2.1) (x := (p.2 : Int)) ⟨g1, g5⟩
        exact ⟨Nat.eq_of_beq_eq_true i1, Nat.eq_of_beq_eq_true i3, g4.trans (Nat.eq_of_beq_eq_true i4), by omega, by omega⟩
  · cases hi
theorem ab_jn_ok (h : ab_cx xs C ν) (hj : ab_jn C v T = some T') : (∀ x, ab_Tr T x → ab_Tr T' x) ∧ ∀ x, ab_Vr C.1.length ν v x → ab_Tr T' x := by
  rcases v with e | e | z | q
  · unfold ab_jn at hj
    dsimp only at hj
    cases hb : Nat.beq T.1 0 with
    | false => rw [hb] at hj; cases hj
    | true =>
      rw [hb] at hj
      cases hj
      have h1 := Nat.eq_of_beq_eq_true hb
      have m1 := ab_mn_ok T.2.2.1 (ab_iv C.1 e).1
      have m2 := ab_mx_ok T.2.2.2.1 (ab_iv C.1 e).2
      refine ⟨fun x hx => ?_, fun x hx => ?_⟩
      · rcases x with y | y | r
        · obtain ⟨a1, a2, a3⟩ := hx
          exact ⟨rfl, by show ab_mn _ _ ≤ _; omega, by show _ ≤ ab_mx _ _; omega⟩
        · have := hx.1; omega
        · cases r with
          | none => have := hx.1; omega
          | some p => have := hx.1; omega
      · obtain ⟨y, rfl, g⟩ := ab_Vi hx
        have := ab_iv_ok h.1 g
        exact ⟨rfl, by show ab_mn _ _ ≤ _; omega, by show _ ≤ ab_mx _ _; omega⟩
  · unfold ab_jn at hj
    dsimp only at hj
    cases hb : Nat.beq T.1 1 with
    | false => rw [hb] at hj; cases hj
    | true =>
      rw [hb] at hj
      cases hj
      have h1 := Nat.eq_of_beq_eq_true hb
      have m1 := ab_mn_ok T.2.2.1 (ab_iv C.1 e).1
      have m2 := ab_mx_ok T.2.2.2.1 (ab_iv C.1 e).2
      refine ⟨fun x hx => ?_, fun x hx => ?_⟩
      · rcases x with y | y | r
        · have := hx.1; omega
        · obtain ⟨a1, a2, a3⟩ := hx
          exact ⟨rfl, by show ab_mn _ _ ≤ _; omega, by show _ ≤ ab_mx _ _; omega⟩
        · cases r with
          | none => have := hx.1; omega
          | some p => have := hx.1; omega
      · obtain ⟨y, rfl, g⟩ := ab_Vl hx
        have := ab_iv_ok h.1 g
        exact ⟨rfl, by show ab_mn _ _ ≤ _; omega, by show _ ≤ ab_mx _ _; omega⟩
  · unfold ab_jn at hj
    dsimp only at hj
    cases hb : Nat.beq T.1 2 with
    | false => rw [hb] at hj; cases hj
    | true =>
    rw [hb] at hj
    dsimp only [cond_true] at hj
    have h1 := Nat.eq_of_beq_eq_true hb
    cases hc : ab_le (ab_iv C.1 z.2.2).2 0 with
    | true =>
      rw [hc] at hj
      cases hj
      rw [ab_le_ok] at hc
      refine ⟨fun x hx => ?_, fun x hx => ?_⟩
      · rcases x with y | y | r
        · have := hx.1; omega
        · have := hx.1; omega
        · cases r with
          | none => exact ⟨rfl, rfl⟩
          | some p => exact ⟨rfl, hx.2⟩
      · obtain ⟨r, rfl, g⟩ := ab_Va hx
        have hz := ab_iv_ok h.1 (ab_R_z g)
        cases r with
        | none => exact ⟨rfl, rfl⟩
        | some p =>
          have : ν z.2.2.1 + z.2.2.2 = 1 := g.2.2.1
          omega
    | false =>
    rw [hc] at hj
    dsimp only [cond_false] at hj
    have hnull : ∀ {r : mR}, ab_R C.1.length ν z r → r = none → (bif ab_le 1 (ab_iv C.1 z.2.2).1 then T.2.2.2.2.1 else 0) = 0 := by
      intro r g e1
      subst e1
      have g3 : ν z.2.2.1 + z.2.2.2 = 0 := g.2.2
      have hz := ab_iv_ok h.1 (ab_R_z g)
      cases hd : ab_le 1 (ab_iv C.1 z.2.2).1 with
      | true => rw [ab_le_ok] at hd; omega
      | false => rfl
    have hnull2 : T.2.2.2.2.1 = 0 → (bif ab_le 1 (ab_iv C.1 z.2.2).1 then T.2.2.2.2.1 else 0) = 0 := by
      intro e1
      rw [e1]
      cases ab_le 1 (ab_iv C.1 z.2.2).1 <;> rfl
    cases hd : Nat.beq T.2.2.2.2.2 1 with
    | true =>
      rw [hd] at hj
      dsimp only [cond_true] at hj
      cases he : Nat.beq z.1 T.2.1 with
      | false => rw [he] at hj; cases hj
      | true =>
        rw [he] at hj
        cases hj
        have he := Nat.eq_of_beq_eq_true he
        have m1 := ab_mn_ok T.2.2.1 (ab_iv C.1 z.2.1).1
        have m2 := ab_mx_ok T.2.2.2.1 (ab_iv C.1 z.2.1).2
        refine ⟨fun x hx => ?_, fun x hx => ?_⟩
        · rcases x with y | y | r
          · have := hx.1; omega
          · have := hx.1; omega
          · cases r with
            | none => exact ⟨rfl, hnull2 hx.2⟩
            | some p =>
              obtain ⟨a1, a2, a3, a4, a5⟩ := hx
              exact ⟨rfl, rfl, a3, by show ab_mn _ _ ≤ _; omega, by show _ ≤ ab_mx _ _; omega⟩
        · obtain ⟨r, rfl, g⟩ := ab_Va hx
          cases r with
          | none => exact ⟨rfl, hnull g rfl⟩
          | some p =>
            obtain ⟨g1, g2, g3, g4, g5⟩ := g
            have := ab_iv_ok h.1 (e := z.2.1) (x := (p.2 : Int)) ⟨g1, g5⟩
            exact ⟨rfl, rfl, g4.trans he, by show ab_mn _ _ ≤ _; omega, by show _ ≤ ab_mx _ _; omega⟩
    | false =>
      rw [hd] at hj
      cases hj
      refine ⟨fun x hx => ?_, fun x hx => ?_⟩
      · rcases x with y | y | r
        · have := hx.1; omega
        · have := hx.1; omega
        · cases r with
          | none => exact ⟨rfl, hnull2 hx.2⟩
          | some p =>
            obtain ⟨a1, a2, a3, a4, a5⟩ := hx
            rw [a2] at hd
            cases hd
      · obtain ⟨r, rfl, g⟩ := ab_Va hx
        cases r with
        | none => exact ⟨rfl, hnull g rfl⟩
        | some p =>
          obtain ⟨g1, g2, g3, g4, g5⟩ := g
          have := ab_iv_ok h.1 (e := z.2.1) (x := (p.2 : Int)) ⟨g1, g5⟩
          exact ⟨rfl, rfl, g4, this.1, this.2⟩
  · cases hj
end AB5
