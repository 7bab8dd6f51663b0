/-! an analysis of the model: a whole number is one of a row of unknowns and an offset; the unknowns lie between bounds -/
abbrev ab_E : Type := Nat × Int
abbrev ab_N : Type := Nat → Int
abbrev ab_Bx : Type := List (Int × Int)
/-- bounds of the unknowns (the first one is 0); which one is at most which other and so much; cells of the law's script -/
abbrev ab_C : Type := ab_Bx × List (Nat × Nat × Int) × List (ab_E × ab_E)
/-- int, long, a reference (class, number, 1 if it isn't null), what lcmp leaves of two longs -/
abbrev ab_V : Type := ab_E ⊕ ab_E ⊕ (Nat × ab_E × ab_E) ⊕ (ab_E × ab_E)
abbrev ab_X : Type := Option (Nat × (Nat → Int32))
def ab_le (x y : Int) : Bool := match y - x with
  | .ofNat _ => true
  | .negSucc _ => false
theorem ab_le_ok {x y : Int} : ab_le x y = true ↔ x ≤ y := by
  unfold ab_le
  cases h : y - x with
  | ofNat n => exact ⟨fun _ => Int.sub_nonneg.mp (by rw [h]; exact Int.natCast_nonneg n), fun _ => rfl⟩
  | negSucc n => exact ⟨(fun h9 => by cases h9), (fun h2 => absurd (Int.sub_nonneg.mpr h2) (by rw [h]; exact Int.not_le.mpr (Int.negSucc_lt_zero n)))⟩
def ab_mn (x y : Int) : Int := bif ab_le x y then x else y
def ab_mx (x y : Int) : Int := bif ab_le x y then y else x
theorem ab_mn_ok (x y : Int) : ab_mn x y ≤ x ∧ ab_mn x y ≤ y ∧ (ab_mn x y = x ∨ ab_mn x y = y) := by
  unfold ab_mn
  cases h : ab_le x y with
  | true => have := ab_le_ok.mp h; exact ⟨Int.le_refl _, this, Or.inl rfl⟩
  | false =>
    have : ¬ x ≤ y := fun z => by rw [ab_le_ok.mpr z] at h; cases h
    exact ⟨by show y ≤ x; omega, Int.le_refl _, Or.inr rfl⟩
theorem ab_mx_ok (x y : Int) : x ≤ ab_mx x y ∧ y ≤ ab_mx x y ∧ (ab_mx x y = x ∨ ab_mx x y = y) := by
  unfold ab_mx
  cases h : ab_le x y with
  | true => have := ab_le_ok.mp h; exact ⟨this, Int.le_refl _, Or.inr rfl⟩
  | false =>
    have : ¬ x ≤ y := fun z => by rw [ab_le_ok.mpr z] at h; cases h
    exact ⟨Int.le_refl _, by show y ≤ x; omega, Or.inl rfl⟩
def ab_iv (B : ab_Bx) (e : ab_E) : Int × Int := match B[e.1]? with
  | some q => (q.1 + e.2, q.2 + e.2)
  | none => (e.2, e.2)
def ab_bx (B : ab_Bx) (ν : ab_N) : Prop := ν 0 = 0 ∧ ∀ j q, B[j]? = some q → q.1 ≤ ν j ∧ ν j ≤ q.2
def ab_I (n : Nat) (ν : ab_N) (e : ab_E) (x : Int) : Prop := e.1 < n ∧ x = ν e.1 + e.2
theorem ab_iv_ok {B : ab_Bx} {ν : ab_N} {e : ab_E} {x : Int} (h : ab_bx B ν) (he : ab_I B.length ν e x) : (ab_iv B e).1 ≤ x ∧ x ≤ (ab_iv B e).2 := by
  obtain ⟨h1, rfl⟩ := he
  have hq := List.getElem?_eq_getElem h1
  obtain ⟨g1, g2⟩ := h.2 _ _ hq
  unfold ab_iv
  rw [hq]
  exact ⟨Int.add_le_add_right g1 _, Int.add_le_add_right g2 _⟩
def ab_ex (n : Nat) (ν ν' : ab_N) : Prop := ∀ j, j < n → ν' j = ν j
theorem ab_I.ex {n n' : Nat} {ν ν' : ab_N} {e : ab_E} {x : Int} (he : ab_I n ν e x) (h : ab_ex n ν ν') (hn : n ≤ n') : ab_I n' ν' e x := ⟨Nat.lt_of_lt_of_le he.1 hn, by rw [h _ he.1]; exact he.2⟩
/-- what holds of the unknowns -/
def ab_cx (xs : ab_X) (C : ab_C) (ν : ab_N) : Prop := ab_bx C.1 ν ∧ 0 < C.1.length ∧ (∀ f ∈ C.2.1, f.1 < C.1.length ∧ f.2.1 < C.1.length ∧ ν f.1 ≤ ν f.2.1 + f.2.2) ∧ ∀ q ∈ C.2.2, q.1.1 < C.1.length ∧ q.2.1 < C.1.length ∧ ∃ z, xs = some z ∧ ∀ j : Nat, (j : Int) = ν q.1.1 + q.1.2 → (z.2 j).toInt = ν q.2.1 + q.2.2
def ab_up (xs : ab_X) (C : ab_C) (ν : ab_N) (C' : ab_C) (ν' : ab_N) : Prop := ab_cx xs C' ν' ∧ ab_ex C.1.length ν ν' ∧ C.1.length ≤ C'.1.length
section AB1
variable {xs : ab_X} {C C' C'' : ab_C} {ν ν' ν'' : ab_N} {e f : ab_E} {x y z w m M lo hi : Int}
theorem ab_up.rf (h : ab_cx xs C ν) : ab_up xs C ν C ν := ⟨h, fun _ _ => rfl, Nat.le_refl _⟩
theorem ab_up.tr (h : ab_up xs C ν C' ν') (g : ab_up xs C' ν' C'' ν'') : ab_up xs C ν C'' ν'' :=
  ⟨g.1, fun j hj => (g.2.1 j (Nat.lt_of_lt_of_le hj h.2.2)).trans (h.2.1 j hj), Nat.le_trans h.2.2 g.2.2⟩
theorem ab_up.I (h : ab_up xs C ν C' ν') (he : ab_I C.1.length ν e x) : ab_I C'.1.length ν' e x := he.ex h.2.1 h.2.2
theorem ab_cx.ex (h : ab_cx xs C ν) (g : ab_ex C.1.length ν ν') : ab_cx xs C ν' := by
  obtain ⟨⟨h1, h2⟩, h3, h4, h5⟩ := h
  refine ⟨⟨by rw [g 0 h3]; exact h1, fun j q hq => ?_⟩, h3, fun q hq => ?_, fun q hq => ?_⟩
  · rw [g j (List.getElem?_eq_some_iff.mp hq).1]; exact h2 j q hq
  · obtain ⟨a1, a2, a3⟩ := h4 q hq
    exact ⟨a1, a2, by rw [g _ a1, g _ a2]; exact a3⟩
  · obtain ⟨a1, a2, z, a3, a4⟩ := h5 q hq
    exact ⟨a1, a2, z, a3, fun j hj => by rw [g _ a2]; exact a4 j (by rw [g _ a1] at hj; exact hj)⟩
def ab_put (ν : ab_N) (n : Nat) (x : Int) : ab_N := fun j => if j = n then x else ν j
theorem ab_put_ex (ν : ab_N) (n : Nat) (x : Int) : ab_ex n ν (ab_put ν n x) := fun j hj => if_neg (Nat.ne_of_lt hj)
theorem ab_cx.add (h : ab_cx xs C ν) (h1 : lo ≤ x) (h2 : x ≤ hi) : ab_up xs C ν (C.1 ++ [(lo, hi)], C.2) (ab_put ν C.1.length x) := by
  obtain ⟨⟨g1, g2⟩, g3, g4, g5⟩ := h.ex (ab_put_ex ν C.1.length x)
  have hlen : (C.1 ++ [(lo, hi)]).length = C.1.length + 1 := by simp
  refine ⟨⟨⟨g1, fun j q hq => ?_⟩, by show 0 < (C.1 ++ [(lo, hi)]).length; omega, fun q hq => ?_, fun q hq => ?_⟩, ab_put_ex _ _ _, by show _ ≤ (C.1 ++ [(lo, hi)]).length; omega⟩
  · have hq' : (C.1 ++ [(lo, hi)])[j]? = some q := hq
    by_cases hj : j < C.1.length
    · rw [List.getElem?_append_left hj] at hq'
      exact g2 j q hq'
    · have hj2 := (List.getElem?_eq_some_iff.mp hq').1
      have e : j = C.1.length := by omega
      subst e
      rw [List.getElem?_append_right (Nat.le_refl _), Nat.sub_self] at hq'
      cases hq'
      have e2 : ab_put ν C.1.length x C.1.length = x := if_pos rfl
      rw [e2]
      exact ⟨h1, h2⟩
  · obtain ⟨a1, a2, a3⟩ := g4 q hq
    exact ⟨by show _ < (C.1 ++ [(lo, hi)]).length; omega, by show _ < (C.1 ++ [(lo, hi)]).length; omega, a3⟩
  · obtain ⟨a1, a2, a3⟩ := g5 q hq
    exact ⟨by show _ < (C.1 ++ [(lo, hi)]).length; omega, by show _ < (C.1 ++ [(lo, hi)]).length; omega, a3⟩
/-- a number between bounds: a new unknown, or what it must be -/
def ab_fr (C : ab_C) (lo hi : Int) : ab_C × ab_E := bif ab_le hi lo then (C, (0, lo)) else ((C.1 ++ [(lo, hi)], C.2), (C.1.length, 0))
def ab_ok (xs : ab_X) (C : ab_C) (ν : ab_N) (r : ab_C × ab_E) (x : Int) : Prop := ∃ ν', ab_up xs C ν r.1 ν' ∧ ab_I r.1.1.length ν' r.2 x
theorem ab_con (h : ab_cx xs C ν) : ab_I C.1.length ν (0, x) x := ⟨h.2.1, by show x = ν 0 + x; rw [h.1.1]; omega⟩
theorem ab_ok.rf (h : ab_cx xs C ν) (he : ab_I C.1.length ν e x) : ab_ok xs C ν (C, e) x := ⟨ν, ab_up.rf h, he⟩
theorem ab_fr_ok (h : ab_cx xs C ν) (h1 : lo ≤ x) (h2 : x ≤ hi) : ab_ok xs C ν (ab_fr C lo hi) x := by
  unfold ab_fr
  cases hb : ab_le hi lo with
  | true =>
    have := ab_le_ok.mp hb
    have e : x = lo := by omega
    subst e
    exact ab_ok.rf h (ab_con h)
  | false =>
    refine ⟨_, h.add h1 h2, ?_, ?_⟩
    · show C.1.length < (C.1 ++ [(lo, hi)]).length
      simp
    · show x = ab_put ν C.1.length x C.1.length + 0
      unfold ab_put
      rw [if_pos rfl, Int.add_zero]
def ab_fw (m M : Int) (C : ab_C) (lo hi : Int) : ab_C × ab_E := bif ab_le m lo && ab_le hi M then ab_fr C lo hi else ab_fr C m M
theorem ab_fw_ok (h : ab_cx xs C ν) (hz : m ≤ w → w ≤ M → z = w) (hm : m ≤ z ∧ z ≤ M) (h1 : lo ≤ w) (h2 : w ≤ hi) : ab_ok xs C ν (ab_fw m M C lo hi) z := by
  unfold ab_fw
  cases hb : (ab_le m lo && ab_le hi M) with
  | true =>
    rw [Bool.and_eq_true, ab_le_ok, ab_le_ok] at hb
    have e := hz (by omega) (by omega)
    subst e
    exact ab_fr_ok h h1 h2
  | false => exact ab_fr_ok h hm.1 hm.2
def ab_add (m M : Int) (C : ab_C) (e f : ab_E) : ab_C × ab_E :=
  bif ab_le m ((ab_iv C.1 e).1 + (ab_iv C.1 f).1) && ab_le ((ab_iv C.1 e).2 + (ab_iv C.1 f).2) M then
    (bif Nat.beq f.1 0 then (C, (e.1, e.2 + f.2)) else bif Nat.beq e.1 0 then (C, (f.1, e.2 + f.2)) else ab_fr C ((ab_iv C.1 e).1 + (ab_iv C.1 f).1) ((ab_iv C.1 e).2 + (ab_iv C.1 f).2))
  else ab_fr C m M
theorem ab_add_ok (h : ab_cx xs C ν) (he : ab_I C.1.length ν e x) (hf : ab_I C.1.length ν f y) (hz : m ≤ x + y → x + y ≤ M → z = x + y) (hm : m ≤ z ∧ z ≤ M) : ab_ok xs C ν (ab_add m M C e f) z := by
  obtain ⟨e1, e2⟩ := ab_iv_ok h.1 he
  obtain ⟨f1, f2⟩ := ab_iv_ok h.1 hf
  unfold ab_add
  cases hb : (ab_le m ((ab_iv C.1 e).1 + (ab_iv C.1 f).1) && ab_le ((ab_iv C.1 e).2 + (ab_iv C.1 f).2) M) with
  | false => exact ab_fr_ok h hm.1 hm.2
  | true =>
    rw [Bool.and_eq_true, ab_le_ok, ab_le_ok] at hb
    have e9 := hz (by omega) (by omega)
    subst e9
    cases hc : Nat.beq f.1 0 with
    | true =>
      have e8 := Nat.eq_of_beq_eq_true hc
      refine ab_ok.rf h ⟨he.1, ?_⟩
      show x + y = ν e.1 + (e.2 + f.2)
      rw [he.2, hf.2, e8, h.1.1]; omega
    | false =>
      cases hd : Nat.beq e.1 0 with
      | true =>
        have e8 := Nat.eq_of_beq_eq_true hd
        refine ab_ok.rf h ⟨hf.1, ?_⟩
        show x + y = ν f.1 + (e.2 + f.2)
        rw [he.2, hf.2, e8, h.1.1]; omega
      | false => exact ab_fr_ok h (by omega) (by omega)
def ab_sub (m M : Int) (C : ab_C) (e f : ab_E) : ab_C × ab_E :=
  bif Nat.beq e.1 f.1 then ab_fw m M C (e.2 - f.2) (e.2 - f.2) else
  bif ab_le m ((ab_iv C.1 e).1 - (ab_iv C.1 f).2) && ab_le ((ab_iv C.1 e).2 - (ab_iv C.1 f).1) M then
    (bif Nat.beq f.1 0 then (C, (e.1, e.2 - f.2)) else ab_fr C ((ab_iv C.1 e).1 - (ab_iv C.1 f).2) ((ab_iv C.1 e).2 - (ab_iv C.1 f).1))
  else ab_fr C m M
theorem ab_sub_ok (h : ab_cx xs C ν) (he : ab_I C.1.length ν e x) (hf : ab_I C.1.length ν f y) (hz : m ≤ x - y → x - y ≤ M → z = x - y) (hm : m ≤ z ∧ z ≤ M) : ab_ok xs C ν (ab_sub m M C e f) z := by
  obtain ⟨e1, e2⟩ := ab_iv_ok h.1 he
  obtain ⟨f1, f2⟩ := ab_iv_ok h.1 hf
  unfold ab_sub
  cases ha : Nat.beq e.1 f.1 with
  | true =>
    have e8 := Nat.eq_of_beq_eq_true ha
    have e7 : x - y = e.2 - f.2 := by rw [he.2, hf.2, e8]; omega
    exact ab_fw_ok h hz hm (by omega) (by omega)
  | false =>
  cases hb : (ab_le m ((ab_iv C.1 e).1 - (ab_iv C.1 f).2) && ab_le ((ab_iv C.1 e).2 - (ab_iv C.1 f).1) M) with
  | false => exact ab_fr_ok h hm.1 hm.2
  | true =>
    rw [Bool.and_eq_true, ab_le_ok, ab_le_ok] at hb
    have e9 := hz (by omega) (by omega)
    subst e9
    cases hc : Nat.beq f.1 0 with
    | true =>
      have e8 := Nat.eq_of_beq_eq_true hc
      refine ab_ok.rf h ⟨he.1, ?_⟩
      show x - y = ν e.1 + (e.2 - f.2)
      rw [he.2, hf.2, e8, h.1.1]; omega
    | false => exact ab_fr_ok h (by omega) (by omega)
theorem ab_mulb {a b c d : Int} (h1 : a ≤ x) (h2 : x ≤ b) (h3 : c ≤ y) (h4 : y ≤ d) : ab_mn (ab_mn (a * c) (a * d)) (ab_mn (b * c) (b * d)) ≤ x * y ∧ x * y ≤ ab_mx (ab_mx (a * c) (a * d)) (ab_mx (b * c) (b * d)) := by
  have A : ∀ t : Int, (ab_mn (t * c) (t * d) ≤ t * y) ∧ (t * y ≤ ab_mx (t * c) (t * d)) := by
    intro t
    have m1 := ab_mn_ok (t * c) (t * d)
    have m2 := ab_mx_ok (t * c) (t * d)
    rcases Int.le_total 0 t with ht | ht
    · have p1 := Int.mul_nonneg ht (show 0 ≤ y - c by omega)
      have p2 := Int.mul_nonneg ht (show 0 ≤ d - y by omega)
      rw [Int.mul_sub] at p1 p2
      omega
    · have p1 := Int.mul_nonneg (show 0 ≤ -t by omega) (show 0 ≤ y - c by omega)
      have p2 := Int.mul_nonneg (show 0 ≤ -t by omega) (show 0 ≤ d - y by omega)
      rw [Int.neg_mul, Int.mul_sub] at p1 p2
      omega
  have B : (a * y ≤ x * y ∧ x * y ≤ b * y) ∨ (b * y ≤ x * y ∧ x * y ≤ a * y) := by
    rcases Int.le_total 0 y with hy | hy
    · have p1 := Int.mul_nonneg (show 0 ≤ x - a by omega) hy
      have p2 := Int.mul_nonneg (show 0 ≤ b - x by omega) hy
      rw [Int.sub_mul] at p1 p2
      exact Or.inl (by omega)
    · have p1 := Int.mul_nonneg (show 0 ≤ x - a by omega) (show 0 ≤ -y by omega)
      have p2 := Int.mul_nonneg (show 0 ≤ b - x by omega) (show 0 ≤ -y by omega)
      rw [Int.mul_neg, Int.sub_mul] at p1 p2
      exact Or.inr (by omega)
  have a1 := A a
  have b1 := A b
  have m1 := ab_mn_ok (ab_mn (a * c) (a * d)) (ab_mn (b * c) (b * d))
  have m2 := ab_mx_ok (ab_mx (a * c) (a * d)) (ab_mx (b * c) (b * d))
  omega
def ab_mul (m M : Int) (C : ab_C) (e f : ab_E) : ab_C × ab_E :=
  bif Nat.beq e.1 0 && (ab_le e.2 1 && ab_le 1 e.2) then (C, f) else
  bif Nat.beq f.1 0 && (ab_le f.2 1 && ab_le 1 f.2) then (C, e) else
  ab_fw m M C (ab_mn (ab_mn ((ab_iv C.1 e).1 * (ab_iv C.1 f).1) ((ab_iv C.1 e).1 * (ab_iv C.1 f).2)) (ab_mn ((ab_iv C.1 e).2 * (ab_iv C.1 f).1) ((ab_iv C.1 e).2 * (ab_iv C.1 f).2)))
    (ab_mx (ab_mx ((ab_iv C.1 e).1 * (ab_iv C.1 f).1) ((ab_iv C.1 e).1 * (ab_iv C.1 f).2)) (ab_mx ((ab_iv C.1 e).2 * (ab_iv C.1 f).1) ((ab_iv C.1 e).2 * (ab_iv C.1 f).2)))
theorem ab_mul_ok (h : ab_cx xs C ν) (he : ab_I C.1.length ν e x) (hf : ab_I C.1.length ν f y) (hx : m ≤ x ∧ x ≤ M) (hy : m ≤ y ∧ y ≤ M) (hz : m ≤ x * y → x * y ≤ M → z = x * y) (hm : m ≤ z ∧ z ≤ M) : ab_ok xs C ν (ab_mul m M C e f) z := by
  obtain ⟨e1, e2⟩ := ab_iv_ok h.1 he
  obtain ⟨f1, f2⟩ := ab_iv_ok h.1 hf
  unfold ab_mul
  cases hb : (Nat.beq e.1 0 && (ab_le e.2 1 && ab_le 1 e.2)) with
  | true =>
    simp only [Bool.and_eq_true, ab_le_ok] at hb
    have e8 := Nat.eq_of_beq_eq_true hb.1
    have e7 : x = 1 := by rw [he.2, e8, h.1.1]; omega
    rw [e7, Int.one_mul] at hz
    have e9 := hz hy.1 hy.2
    subst e9
    exact ab_ok.rf h hf
  | false =>
  cases hb2 : (Nat.beq f.1 0 && (ab_le f.2 1 && ab_le 1 f.2)) with
  | true =>
    simp only [Bool.and_eq_true, ab_le_ok] at hb2
    have e8 := Nat.eq_of_beq_eq_true hb2.1
    have e7 : y = 1 := by rw [hf.2, e8, h.1.1]; omega
    rw [e7, Int.mul_one] at hz
    have e9 := hz hx.1 hx.2
    subst e9
    exact ab_ok.rf h he
  | false => exact ab_fw_ok h hz hm (ab_mulb e1 e2 f1 f2).1 (ab_mulb e1 e2 f1 f2).2
theorem ab_tdiv_nn (hx : 0 ≤ x) (hy : 1 ≤ y) : 0 ≤ x.tdiv y ∧ x.tdiv y ≤ x := by
  rw [Int.tdiv_eq_ediv_of_nonneg hx]
  exact ⟨Int.ediv_nonneg hx (by omega), Int.ediv_le_self y hx⟩
theorem ab_tdiv_np (hx : x ≤ 0) (hy : 1 ≤ y) : x ≤ x.tdiv y ∧ x.tdiv y ≤ 0 := by
  have h := ab_tdiv_nn (x := -x) (y := y) (by omega) hy
  rw [Int.neg_tdiv] at h
  omega
/-- a division by what is at least 1 -/
def ab_div (C : ab_C) (e f : ab_E) : ab_C × ab_E :=
  bif ab_le 0 (ab_iv C.1 e).1 then (bif Nat.beq f.1 0 then ab_fr C ((ab_iv C.1 e).1 / f.2) ((ab_iv C.1 e).2 / f.2) else ab_fr C 0 (ab_iv C.1 e).2)
  else ab_fr C (ab_iv C.1 e).1 (ab_mx (ab_iv C.1 e).2 0)
theorem ab_div_ok (h : ab_cx xs C ν) (he : ab_I C.1.length ν e x) (hf : ab_I C.1.length ν f y) (hy : 1 ≤ y) (hz : z = x.tdiv y) : ab_ok xs C ν (ab_div C e f) z := by
  obtain ⟨e1, e2⟩ := ab_iv_ok h.1 he
  subst hz
  unfold ab_div
  cases hb : ab_le 0 (ab_iv C.1 e).1 with
  | true =>
    rw [ab_le_ok] at hb
    have hx : 0 ≤ x := by omega
    cases hc : Nat.beq f.1 0 with
    | true =>
      have e8 := Nat.eq_of_beq_eq_true hc
      have e7 : y = f.2 := by rw [hf.2, e8, h.1.1]; omega
      subst e7
      rw [Int.tdiv_eq_ediv_of_nonneg hx]
      exact ab_fr_ok h (Int.ediv_le_ediv (by omega) e1) (Int.ediv_le_ediv (by omega) e2)
    | false =>
      have := ab_tdiv_nn hx hy
      exact ab_fr_ok h this.1 (by omega)
  | false =>
    have m2 := ab_mx_ok (ab_iv C.1 e).2 0
    have hb' : ¬ 0 ≤ (ab_iv C.1 e).1 := fun z => by rw [ab_le_ok.mpr z] at hb; cases hb
    rcases Int.le_total 0 x with hx | hx
    · have := ab_tdiv_nn hx hy
      exact ab_fr_ok h (by omega) (by omega)
    · have := ab_tdiv_np hx hy
      exact ab_fr_ok h (by omega) (by omega)
theorem ab_tmod_nn (hx : 0 ≤ x) (hy : 1 ≤ y) : 0 ≤ x.tmod y ∧ x.tmod y < y ∧ (x < y → x.tmod y = x) := by
  rw [Int.tmod_eq_emod_of_nonneg hx]
  exact ⟨Int.emod_nonneg x (by omega), Int.emod_lt_of_pos x (by omega), fun hxy => Int.emod_eq_of_lt hx hxy⟩
theorem ab_tmod_np (hx : x ≤ 0) (hy : 1 ≤ y) : -y < x.tmod y ∧ x.tmod y ≤ 0 := by
  have h := ab_tmod_nn (x := -x) (y := y) (by omega) hy
  rw [Int.neg_tmod] at h
  omega
def ab_rem (C : ab_C) (e f : ab_E) : ab_C × ab_E :=
  bif ab_le 0 (ab_iv C.1 e).1 then (bif ab_le ((ab_iv C.1 e).2 + 1) (ab_iv C.1 f).1 then (C, e) else ab_fr C 0 ((ab_iv C.1 f).2 - 1))
  else ab_fr C (1 - (ab_iv C.1 f).2) ((ab_iv C.1 f).2 - 1)
theorem ab_rem_ok (h : ab_cx xs C ν) (he : ab_I C.1.length ν e x) (hf : ab_I C.1.length ν f y) (hy : 1 ≤ y) (hz : z = x.tmod y) : ab_ok xs C ν (ab_rem C e f) z := by
  obtain ⟨e1, e2⟩ := ab_iv_ok h.1 he
  obtain ⟨f1, f2⟩ := ab_iv_ok h.1 hf
  subst hz
  unfold ab_rem
  cases hb : ab_le 0 (ab_iv C.1 e).1 with
  | true =>
    rw [ab_le_ok] at hb
    have hx : 0 ≤ x := by omega
    have := ab_tmod_nn hx hy
    cases hc : ab_le ((ab_iv C.1 e).2 + 1) (ab_iv C.1 f).1 with
    | true =>
      rw [ab_le_ok] at hc
      rw [this.2.2 (by omega)]
      exact ab_ok.rf h he
    | false => exact ab_fr_ok h this.1 (by omega)
  | false =>
    rcases Int.le_total 0 x with hx | hx
    · have := ab_tmod_nn hx hy
      exact ab_fr_ok h (by omega) (by omega)
    · have := ab_tmod_np hx hy
      exact ab_fr_ok h (by omega) (by omega)
def ab_neg (m M : Int) (C : ab_C) (e : ab_E) : ab_C × ab_E := ab_fw m M C (-(ab_iv C.1 e).2) (-(ab_iv C.1 e).1)
theorem ab_neg_ok (h : ab_cx xs C ν) (he : ab_I C.1.length ν e x) (hz : m ≤ -x → -x ≤ M → z = -x) (hm : m ≤ z ∧ z ≤ M) : ab_ok xs C ν (ab_neg m M C e) z := by
  obtain ⟨e1, e2⟩ := ab_iv_ok h.1 he
  exact ab_fw_ok h hz hm (by omega) (by omega)
end AB1
