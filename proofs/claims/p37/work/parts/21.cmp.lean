/-! values of the analysis beside the model's; comparisons, and what they teach -/
def ab_R (n : Nat) (ν : ab_N) (z : Nat × ab_E × ab_E) (r : mR) : Prop := z.2.1.1 < n ∧ z.2.2.1 < n ∧ match r with
  | none => ν z.2.2.1 + z.2.2.2 = 0
  | some q => ν z.2.2.1 + z.2.2.2 = 1 ∧ q.1 = z.1 ∧ (q.2 : Int) = ν z.2.1.1 + z.2.1.2
def ab_Vr (n : Nat) (ν : ab_N) (v : ab_V) (x : mV) : Prop := match v, x with
  | .inl e, .inl y => ab_I n ν e y.toInt
  | .inr (.inl e), .inr (.inl y) => ab_I n ν e y.toInt
  | .inr (.inr (.inl z)), .inr (.inr r) => ab_R n ν z r
  | .inr (.inr (.inr q)), .inl y => ∃ a b : Int64, y = lg_cmp a b ∧ ab_I n ν q.1 a.toInt ∧ ab_I n ν q.2 b.toInt
  | _, _ => False
def ab_Vs (n : Nat) (ν : ab_N) : List ab_V → List mV → Prop
  | [], [] => True
  | v :: vs, x :: xs => ab_Vr n ν v x ∧ ab_Vs n ν vs xs
  | _, _ => False
section AB2
variable {n n' : Nat} {ν ν' : ab_N}
theorem ab_R.ex {z : Nat × ab_E × ab_E} {r : mR} (h : ab_R n ν z r) (g : ab_ex n ν ν') (hn : n ≤ n') : ab_R n' ν' z r := by
  obtain ⟨h1, h2, h3⟩ := h
  refine ⟨Nat.lt_of_lt_of_le h1 hn, Nat.lt_of_lt_of_le h2 hn, ?_⟩
  cases r with
  | none => rw [g _ h2]; exact h3
  | some q => rw [g _ h2, g _ h1]; exact h3
theorem ab_Vr.ex : ∀ {v : ab_V} {x : mV}, ab_Vr n ν v x → ab_ex n ν ν' → n ≤ n' → ab_Vr n' ν' v x
  | .inl _, .inl _, h, g, hn => ab_I.ex h g hn
  | .inr (.inl _), .inr (.inl _), h, g, hn => ab_I.ex h g hn
  | .inr (.inr (.inl _)), .inr (.inr _), h, g, hn => ab_R.ex h g hn
  | .inr (.inr (.inr _)), .inl _, ⟨a, b, h1, h2, h3⟩, g, hn => ⟨a, b, h1, h2.ex g hn, h3.ex g hn⟩
  | .inl _, .inr _, h, _, _ => h.elim
  | .inr (.inl _), .inl _, h, _, _ => h.elim
  | .inr (.inl _), .inr (.inr _), h, _, _ => h.elim
  | .inr (.inr (.inl _)), .inl _, h, _, _ => h.elim
  | .inr (.inr (.inl _)), .inr (.inl _), h, _, _ => h.elim
  | .inr (.inr (.inr _)), .inr _, h, _, _ => h.elim
theorem ab_Vs.ex : ∀ {vs : List ab_V} {xs : List mV}, ab_Vs n ν vs xs → ab_ex n ν ν' → n ≤ n' → ab_Vs n' ν' vs xs
  | [], [], _, _, _ => trivial
  | _ :: _, _ :: _, ⟨h1, h2⟩, g, hn => ⟨h1.ex g hn, ab_Vs.ex h2 g hn⟩
  | [], _ :: _, h, _, _ => h.elim
  | _ :: _, [], h, _, _ => h.elim
theorem ab_Vi {e : ab_E} {x : mV} (h : ab_Vr n ν (.inl e) x) : ∃ y, x = .inl y ∧ ab_I n ν e y.toInt := by
  rcases x with y | y | y
  · exact ⟨y, rfl, h⟩
  · exact h.elim
  · exact h.elim
theorem ab_Vl {e : ab_E} {x : mV} (h : ab_Vr n ν (.inr (.inl e)) x) : ∃ y, x = .inr (.inl y) ∧ ab_I n ν e y.toInt := by
  rcases x with y | y | y
  · exact h.elim
  · exact ⟨y, rfl, h⟩
  · exact h.elim
theorem ab_Va {z : Nat × ab_E × ab_E} {x : mV} (h : ab_Vr n ν (.inr (.inr (.inl z))) x) : ∃ y, x = .inr (.inr y) ∧ ab_R n ν z y := by
  rcases x with y | y | y
  · exact h.elim
  · exact h.elim
  · exact ⟨y, rfl, h⟩
theorem ab_Vc {q : ab_E × ab_E} {x : mV} (h : ab_Vr n ν (.inr (.inr (.inr q))) x) : ∃ a b : Int64, x = .inl (lg_cmp a b) ∧ ab_I n ν q.1 a.toInt ∧ ab_I n ν q.2 b.toInt := by
  rcases x with y | y | y
  · obtain ⟨a, b, h1, h2, h3⟩ := h
    exact ⟨a, b, by rw [h1], h2, h3⟩
  · exact h.elim
  · exact h.elim
theorem ab_Vs_c {v : ab_V} {vs : List ab_V} {sc : List mV} (h : ab_Vs n ν (v :: vs) sc) : ∃ x s', sc = x :: s' ∧ ab_Vr n ν v x ∧ ab_Vs n ν vs s' := by
  cases sc with
  | nil => exact h.elim
  | cons x s' => exact ⟨x, s', rfl, h.1, h.2⟩
theorem ab_Vs_i {e : ab_E} {vs : List ab_V} {sc : List mV} (h : ab_Vs n ν (.inl e :: vs) sc) : ∃ y s', sc = .inl y :: s' ∧ ab_I n ν e y.toInt ∧ ab_Vs n ν vs s' := by
  obtain ⟨x, s', rfl, h1, h2⟩ := ab_Vs_c h
  obtain ⟨y, rfl, h3⟩ := ab_Vi h1
  exact ⟨y, s', rfl, h3, h2⟩
theorem ab_Vs_l {e : ab_E} {vs : List ab_V} {sc : List mV} (h : ab_Vs n ν (.inr (.inl e) :: vs) sc) : ∃ y s', sc = .inr (.inl y) :: s' ∧ ab_I n ν e y.toInt ∧ ab_Vs n ν vs s' := by
  obtain ⟨x, s', rfl, h1, h2⟩ := ab_Vs_c h
  obtain ⟨y, rfl, h3⟩ := ab_Vl h1
  exact ⟨y, s', rfl, h3, h2⟩
theorem ab_Vs_a {z : Nat × ab_E × ab_E} {vs : List ab_V} {sc : List mV} (h : ab_Vs n ν (.inr (.inr (.inl z)) :: vs) sc) : ∃ y s', sc = .inr (.inr y) :: s' ∧ ab_R n ν z y ∧ ab_Vs n ν vs s' := by
  obtain ⟨x, s', rfl, h1, h2⟩ := ab_Vs_c h
  obtain ⟨y, rfl, h3⟩ := ab_Va h1
  exact ⟨y, s', rfl, h3, h2⟩
theorem ab_Vs_len : ∀ {vs : List ab_V} {sc : List mV}, ab_Vs n ν vs sc → sc.length = vs.length
  | [], [], _ => rfl
  | _ :: _, _ :: _, ⟨_, h2⟩ => congrArg (· + 1) (ab_Vs_len h2)
  | [], _ :: _, h => h.elim
  | _ :: _, [], h => h.elim
end AB2
def ab_leq (C : ab_C) (e f : ab_E) : Bool :=
  bif Nat.beq e.1 f.1 then ab_le e.2 f.2 else
  (ab_le (ab_iv C.1 e).2 (ab_iv C.1 f).1 || C.2.1.any (fun t => Nat.beq t.1 e.1 && (Nat.beq t.2.1 f.1 && ab_le (t.2.2 + e.2) f.2)))
def ab_sth (B : ab_Bx) (j : Nat) (v : Int) : ab_Bx := match B[j]? with
  | some q => bif ab_le q.2 v then B else B.set j (q.1, v)
  | none => B
def ab_stl (B : ab_Bx) (j : Nat) (v : Int) : ab_Bx := match B[j]? with
  | some q => bif ab_le v q.1 then B else B.set j (v, q.2)
  | none => B
def ab_asB (C : ab_C) (e f : ab_E) : ab_Bx := bif Nat.beq e.1 0 then C.1 else ab_sth C.1 e.1 ((ab_iv C.1 f).2 - e.2)
def ab_asle (C : ab_C) (e f : ab_E) : ab_C :=
  (bif Nat.beq f.1 0 then ab_asB C e f else ab_stl (ab_asB C e f) f.1 ((ab_iv C.1 e).1 - f.2), bif Nat.beq e.1 0 || (Nat.beq f.1 0 || Nat.beq e.1 f.1) then C.2.1 else (e.1, f.1, f.2 - e.2) :: C.2.1, C.2.2)
def ab_asne (C : ab_C) (e f : ab_E) : ab_C :=
  bif Nat.beq e.1 0 || !(Nat.beq f.1 0) then C else
  bif ab_le f.2 (ab_iv C.1 e).1 && ab_le (ab_iv C.1 e).1 f.2 then (ab_stl C.1 e.1 (f.2 + 1 - e.2), C.2) else
  bif ab_le f.2 (ab_iv C.1 e).2 && ab_le (ab_iv C.1 e).2 f.2 then (ab_sth C.1 e.1 (f.2 - 1 - e.2), C.2) else C
def ab_rel (c : ClassFile.Cond) (x y : Int) : Prop := match c with
  | .eq => x = y
  | .ne => ¬ x = y
  | .lt => x < y
  | .ge => y ≤ x
  | .gt => y < x
  | .le => x ≤ y
def ab_inv (c : ClassFile.Cond) : ClassFile.Cond := match c with
  | .eq => .ne
  | .ne => .eq
  | .lt => .ge
  | .ge => .lt
  | .gt => .le
  | .le => .gt
theorem ab_inv_ok {c : ClassFile.Cond} {x y : Int} (h : ¬ ab_rel c x y) : ab_rel (ab_inv c) x y := by
  cases c
  · exact h
  · exact (Decidable.of_not_not (p := x = y) h)
  · exact Int.not_lt.mp h
  · exact Int.not_le.mp h
  · exact Int.not_lt.mp h
  · exact Int.not_le.mp h
def ab_dle (C : ab_C) (e f : ab_E) : Option Bool := bif ab_leq C e f then some true else bif ab_leq C (f.1, f.2 + 1) e then some false else none
def ab_dno (o : Option Bool) : Option Bool := match o with
  | some b => some (!b)
  | none => none
def ab_deq (C : ab_C) (e f : ab_E) : Option Bool := bif ab_leq C e f && ab_leq C f e then some true else bif ab_leq C (f.1, f.2 + 1) e || ab_leq C (e.1, e.2 + 1) f then some false else none
def ab_dec (C : ab_C) (c : ClassFile.Cond) (e f : ab_E) : Option Bool := match c with
  | .eq => ab_deq C e f
  | .ne => ab_dno (ab_deq C e f)
  | .lt => ab_dno (ab_dle C f e)
  | .ge => ab_dle C f e
  | .gt => ab_dno (ab_dle C e f)
  | .le => ab_dle C e f
def ab_asm (C : ab_C) (c : ClassFile.Cond) (e f : ab_E) : ab_C := match c with
  | .eq => ab_asle (ab_asle C e f) f e
  | .ne => ab_asne C e f
  | .lt => ab_asle C (e.1, e.2 + 1) f
  | .ge => ab_asle C f e
  | .gt => ab_asle C (f.1, f.2 + 1) e
  | .le => ab_asle C e f
section AB3
variable {xs : ab_X} {C : ab_C} {ν : ab_N} {e f : ab_E} {x y v : Int} {B : ab_Bx} {j : Nat}
theorem ab_leq_ok (h : ab_cx xs C ν) (he : ab_I C.1.length ν e x) (hf : ab_I C.1.length ν f y) (hl : ab_leq C e f = true) : x ≤ y := by
  unfold ab_leq at hl
  cases hb : Nat.beq e.1 f.1 with
  | true =>
    rw [hb] at hl
    have h1 := ab_le_ok.mp hl
    have e8 := Nat.eq_of_beq_eq_true hb
    rw [he.2, hf.2, e8]; omega
  | false =>
    rw [hb] at hl
    rcases (Bool.or_eq_true _ _).mp hl with h1 | h1
    · have := ab_le_ok.mp h1
      have e1 := ab_iv_ok h.1 he
      have f1 := ab_iv_ok h.1 hf
      omega
    · obtain ⟨t, ht, h2⟩ := List.any_eq_true.mp h1
      simp only [Bool.and_eq_true, ab_le_ok] at h2
      obtain ⟨h3, h4, h5⟩ := h2
      have h3 := Nat.eq_of_beq_eq_true h3
      have h4 := Nat.eq_of_beq_eq_true h4
      have h6 := (h.2.2.1 t ht).2.2
      rw [h3, h4] at h6
      rw [he.2, hf.2]; omega
theorem ab_leq_ok1 (h : ab_cx xs C ν) (he : ab_I C.1.length ν e x) (hf : ab_I C.1.length ν f y) (hl : ab_leq C (e.1, e.2 + 1) f = true) : x < y := by
  have := ab_leq_ok h (e := (e.1, e.2 + 1)) (x := x + 1) ⟨he.1, by show x + 1 = ν e.1 + (e.2 + 1); rw [he.2]; omega⟩ hf hl
  omega
theorem ab_set_ok {q : Int × Int} (h : ab_bx B ν) (hv : q.1 ≤ ν j ∧ ν j ≤ q.2) : ab_bx (B.set j q) ν := by
  refine ⟨h.1, fun i q' hq => ?_⟩
  by_cases e : j = i
  · subst e
    rw [List.getElem?_set_self' ] at hq
    cases hB : B[j]? with
    | none => rw [hB] at hq; cases hq
    | some z => rw [hB] at hq; cases hq; exact hv
  · rw [List.getElem?_set_ne e] at hq
    exact h.2 i q' hq
theorem ab_sth_ok (h : ab_bx B ν) (hv : ν j ≤ v) : ab_bx (ab_sth B j v) ν ∧ (ab_sth B j v).length = B.length := by
  unfold ab_sth
  cases hq : B[j]? with
  | none => exact ⟨h, rfl⟩
  | some q =>
    dsimp only
    cases hb : ab_le q.2 v with
    | true => exact ⟨h, rfl⟩
    | false => exact ⟨ab_set_ok h ⟨(h.2 j q hq).1, hv⟩, List.length_set ..⟩
theorem ab_stl_ok (h : ab_bx B ν) (hv : v ≤ ν j) : ab_bx (ab_stl B j v) ν ∧ (ab_stl B j v).length = B.length := by
  unfold ab_stl
  cases hq : B[j]? with
  | none => exact ⟨h, rfl⟩
  | some q =>
    dsimp only
    cases hb : ab_le v q.1 with
    | true => exact ⟨h, rfl⟩
    | false => exact ⟨ab_set_ok h ⟨hv, (h.2 j q hq).2⟩, List.length_set ..⟩
theorem ab_cx_B {B' : ab_Bx} (h : ab_cx xs C ν) (g : ab_bx B' ν ∧ B'.length = C.1.length) : ab_cx xs (B', C.2) ν ∧ B'.length = C.1.length := by
  refine ⟨⟨g.1, by show 0 < B'.length; rw [g.2]; exact h.2.1, fun q hq => ?_, fun q hq => ?_⟩, g.2⟩
  · show q.1 < B'.length ∧ q.2.1 < B'.length ∧ _
    rw [g.2]; exact h.2.2.1 q hq
  · show q.1.1 < B'.length ∧ q.2.1 < B'.length ∧ _
    rw [g.2]; exact h.2.2.2 q hq
theorem ab_asle_ok (h : ab_cx xs C ν) (he : ab_I C.1.length ν e x) (hf : ab_I C.1.length ν f y) (hl : x ≤ y) : ab_cx xs (ab_asle C e f) ν ∧ (ab_asle C e f).1.length = C.1.length := by
  have e1 := ab_iv_ok h.1 he
  have f1 := ab_iv_ok h.1 hf
  have hx := he.2
  have hy := hf.2
  have g1 : ab_bx (ab_asB C e f) ν ∧ (ab_asB C e f).length = C.1.length := by
    unfold ab_asB
    cases hb : Nat.beq e.1 0 with
    | true => exact ⟨h.1, rfl⟩
    | false => exact ab_sth_ok h.1 (by omega)
  have g2 : ab_bx (bif Nat.beq f.1 0 then ab_asB C e f else ab_stl (ab_asB C e f) f.1 ((ab_iv C.1 e).1 - f.2)) ν ∧ (bif Nat.beq f.1 0 then ab_asB C e f else ab_stl (ab_asB C e f) f.1 ((ab_iv C.1 e).1 - f.2)).length = C.1.length := by
    cases hb : Nat.beq f.1 0 with
    | true => exact g1
    | false =>
      have := ab_stl_ok (v := (ab_iv C.1 e).1 - f.2) (j := f.1) g1.1 (by omega)
      exact ⟨this.1, this.2.trans g1.2⟩
  obtain ⟨g3, g4⟩ := ab_cx_B h g2
  refine ⟨⟨g3.1, g3.2.1, fun q hq => ?_, g3.2.2.2⟩, g4⟩
  unfold ab_asle at hq
  dsimp only at hq
  cases hb : (Nat.beq e.1 0 || (Nat.beq f.1 0 || Nat.beq e.1 f.1)) with
  | true => rw [hb] at hq; exact g3.2.2.1 q hq
  | false =>
    rw [hb] at hq
    rcases List.mem_cons.mp hq with rfl | hq
    · show e.1 < List.length _ ∧ f.1 < List.length _ ∧ ν e.1 ≤ ν f.1 + (f.2 - e.2)
      exact ⟨Nat.lt_of_lt_of_eq he.1 g2.2.symm, Nat.lt_of_lt_of_eq hf.1 g2.2.symm, by omega⟩
    · exact g3.2.2.1 q hq
theorem ab_asne_ok (h : ab_cx xs C ν) (he : ab_I C.1.length ν e x) (hf : ab_I C.1.length ν f y) (hl : ¬ x = y) : ab_cx xs (ab_asne C e f) ν ∧ (ab_asne C e f).1.length = C.1.length := by
  have e1 := ab_iv_ok h.1 he
  have hx := he.2
  have hy := hf.2
  unfold ab_asne
  cases hb : (Nat.beq e.1 0 || !(Nat.beq f.1 0)) with
  | true => exact ⟨h, rfl⟩
  | false =>
  rw [Bool.or_eq_false_iff, Bool.not_eq_false'] at hb
  have hf0 := Nat.eq_of_beq_eq_true hb.2
  rw [hf0, h.1.1] at hy
  cases hc : (ab_le f.2 (ab_iv C.1 e).1 && ab_le (ab_iv C.1 e).1 f.2) with
  | true =>
    rw [Bool.and_eq_true, ab_le_ok, ab_le_ok] at hc
    exact ab_cx_B h (ab_stl_ok h.1 (by omega))
  | false =>
  cases hd : (ab_le f.2 (ab_iv C.1 e).2 && ab_le (ab_iv C.1 e).2 f.2) with
  | true =>
    rw [Bool.and_eq_true, ab_le_ok, ab_le_ok] at hd
    exact ab_cx_B h (ab_sth_ok h.1 (by omega))
  | false => exact ⟨h, rfl⟩
theorem ab_dle_ok {b : Bool} (h : ab_cx xs C ν) (he : ab_I C.1.length ν e x) (hf : ab_I C.1.length ν f y) (hd : ab_dle C e f = some b) : (x ≤ y) ↔ b = true := by
  unfold ab_dle at hd
  cases h1 : ab_leq C e f with
  | true =>
    rw [h1] at hd
    cases hd
    exact ⟨fun _ => rfl, fun _ => ab_leq_ok h he hf h1⟩
  | false =>
    rw [h1] at hd
    cases h2 : ab_leq C (f.1, f.2 + 1) e with
    | true =>
      rw [h2] at hd
      cases hd
      have := ab_leq_ok1 h hf he h2
      exact ⟨fun z => by omega, fun z => by cases z⟩
    | false => rw [h2] at hd; cases hd
theorem ab_deq_ok {b : Bool} (h : ab_cx xs C ν) (he : ab_I C.1.length ν e x) (hf : ab_I C.1.length ν f y) (hd : ab_deq C e f = some b) : (x = y) ↔ b = true := by
  unfold ab_deq at hd
  cases h1 : (ab_leq C e f && ab_leq C f e) with
  | true =>
    rw [h1] at hd
    cases hd
    rw [Bool.and_eq_true] at h1
    have a1 := ab_leq_ok h he hf h1.1
    have a2 := ab_leq_ok h hf he h1.2
    exact ⟨fun _ => rfl, fun _ => by omega⟩
  | false =>
    rw [h1] at hd
    cases h2 : (ab_leq C (f.1, f.2 + 1) e || ab_leq C (e.1, e.2 + 1) f) with
    | true =>
      rw [h2] at hd
      cases hd
      rcases (Bool.or_eq_true _ _).mp h2 with h2 | h2
      · have := ab_leq_ok1 h hf he h2
        exact ⟨fun z => by omega, fun z => by cases z⟩
      · have := ab_leq_ok1 h he hf h2
        exact ⟨fun z => by omega, fun z => by cases z⟩
    | false => rw [h2] at hd; cases hd
theorem ab_dno_ok {o : Option Bool} {b : Bool} {P : Prop} (h : ∀ b, o = some b → (P ↔ b = true)) (hd : ab_dno o = some b) : (¬ P) ↔ b = true := by
  cases o with
  | none => cases hd
  | some b' =>
    cases hd
    have := h b' rfl
    cases b' with
    | true => exact ⟨fun z => absurd (this.mpr rfl) z, fun z => by cases z⟩
    | false => exact ⟨fun _ => rfl, fun _ z => by cases this.mp z⟩
theorem ab_dec_ok {b : Bool} {c : ClassFile.Cond} (h : ab_cx xs C ν) (he : ab_I C.1.length ν e x) (hf : ab_I C.1.length ν f y) (hd : ab_dec C c e f = some b) : ab_rel c x y ↔ b = true := by
  cases c
  · exact ab_deq_ok h he hf hd
  · exact ab_dno_ok (P := x = y) (fun b hb => ab_deq_ok h he hf hb) hd
  · have := ab_dno_ok (P := y ≤ x) (fun b hb => ab_dle_ok h hf he hb) hd
    exact Int.not_le.symm.trans this
  · exact ab_dle_ok h hf he hd
  · have := ab_dno_ok (P := x ≤ y) (fun b hb => ab_dle_ok h he hf hb) hd
    exact Int.not_le.symm.trans this
  · exact ab_dle_ok h he hf hd
theorem ab_I1 {n : Nat} (he : ab_I n ν e x) : ab_I n ν (e.1, e.2 + 1) (x + 1) := ⟨he.1, by show x + 1 = ν e.1 + (e.2 + 1); rw [he.2]; omega⟩
theorem ab_asm_ok {c : ClassFile.Cond} (h : ab_cx xs C ν) (he : ab_I C.1.length ν e x) (hf : ab_I C.1.length ν f y) (hr : ab_rel c x y) : ab_cx xs (ab_asm C c e f) ν ∧ (ab_asm C c e f).1.length = C.1.length := by
  cases c
  · have hr : x = y := hr
    have g := ab_asle_ok h he hf (by omega)
    have g2 := ab_asle_ok g.1 (e := f) (f := e) (x := y) (y := x) (by rw [g.2]; exact hf) (by rw [g.2]; exact he) (by omega)
    exact ⟨g2.1, g2.2.trans g.2⟩
  · exact ab_asne_ok h he hf hr
  · have hr : x < y := hr
    exact ab_asle_ok h (ab_I1 he) hf (by omega)
  · exact ab_asle_ok h hf he hr
  · have hr : y < x := hr
    exact ab_asle_ok h (ab_I1 hf) he (by omega)
  · exact ab_asle_ok h he hf hr
end AB3
theorem ab_ic (c : ClassFile.Cond) (x y : Int32) : m_ic c x y ↔ ab_rel c x.toInt y.toInt := by
  cases c
  · exact Int32.toInt_inj.symm
  · exact not_congr Int32.toInt_inj.symm
  · exact Int32.lt_iff_toInt_lt
  · exact Int32.le_iff_toInt_le
  · exact Int32.lt_iff_toInt_lt
  · exact Int32.le_iff_toInt_le
theorem ab_lc (c : ClassFile.Cond) (x y : Int64) : m_ic c (lg_cmp x y) 0 ↔ ab_rel c x.toInt y.toInt := by
  cases c
  · exact (lg_cmp_eq x y).trans Int64.toInt_inj.symm
  · exact not_congr ((lg_cmp_eq x y).trans Int64.toInt_inj.symm)
  · exact (lg_cmp_lt x y).trans Int64.lt_iff_toInt_lt
  · exact (lg_cmp_ge x y).trans Int64.le_iff_toInt_le
  · exact (lg_cmp_gt x y).trans Int64.lt_iff_toInt_lt
  · exact (lg_cmp_le x y).trans Int64.le_iff_toInt_le
