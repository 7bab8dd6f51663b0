/-! one step of the analysis -/
/-- what is next: context, place, locals, stack, heap, room used -/
abbrev ab_S : Type := ab_C × Nat × List (Option ab_V) × List ab_V × ab_H × Nat × Nat
/-- an end: a value, or an exception -/
abbrev ab_Q : Type := ab_C × (Option ab_V ⊕ Nat) × ab_H
def ab_xo (n : Nat) (ν : ab_N) (o : Option ab_V ⊕ Nat) (x : mX) : Prop := match o, x with
  | .inl none, .inl none => True
  | .inl (some v), .inl (some w) => ab_Vr n ν v w
  | .inr a, .inr b => a = b
  | _, _ => False
def ab_nn (C : ab_C) (z : Nat × ab_E × ab_E) : Bool := ab_le 1 (ab_iv C.1 z.2.2).1
def ab_cat (v : ab_V) : Nat := match v with
  | .inr (.inl _) => 2
  | _ => 1
def ab_sum (st : List ab_V) : Nat := (st.map ab_cat).sum
def ab_rm (R : Room) (k n : Nat) : Bool := Nat.ble k R.cells && Nat.ble n R.slots
def ab_alen (H : ab_H) (c : Nat) (p : Int × Int) : Option Nat := match H.2.1.find? (fun q => Nat.beq q.1 c && (ab_le (q.2.1 : Int) p.1 && ab_le p.2 (q.2.2.1 : Int))) with
  | some q => some q.2.2.2
  | none => none
def ab_ix (C : ab_C) (H : ab_H) (c : Nat) (z : Nat × ab_E × ab_E) (e : ab_E) : Bool := Nat.beq z.1 c && (ab_nn C z && (match ab_alen H c (ab_iv C.1 z.2.1) with
  | some len => ab_leq C (0, 0) e && ab_leq C (e.1, e.2 + 1) (0, (len : Int))
  | none => false))
/-- a cell of the script -/
def ab_xc (C : ab_C) (e : ab_E) : ab_C × ab_E := match C.2.2.find? (fun t => Nat.beq t.1.1 e.1 && (ab_le t.1.2 e.2 && ab_le e.2 t.1.2)) with
  | some t => (C, t.2)
  | none => ((C.1 ++ [(-2147483648, 2147483647)], C.2.1, (e, (C.1.length, 0)) :: C.2.2), (C.1.length, 0))
def ab_max (C : ab_C) (e f : ab_E) : ab_C × ab_E := bif ab_leq C e f then (C, f) else bif ab_leq C f e then (C, e) else ab_fr C (ab_mx (ab_iv C.1 e).1 (ab_iv C.1 f).1) (ab_mx (ab_iv C.1 e).2 (ab_iv C.1 f).2)
def ab_min (C : ab_C) (e f : ab_E) : ab_C × ab_E := bif ab_leq C e f then (C, e) else bif ab_leq C f e then (C, f) else ab_fr C (ab_mn (ab_iv C.1 e).1 (ab_iv C.1 f).1) (ab_mn (ab_iv C.1 e).2 (ab_iv C.1 f).2)
def ab_abs (C : ab_C) (e : ab_E) : ab_C × ab_E := bif ab_leq C (0, 0) e then (C, e) else bif ab_le (-2147483647) (ab_iv C.1 e).1 then ab_fr C 0 (ab_mx (ab_iv C.1 e).2 (-(ab_iv C.1 e).1)) else ab_fr C (-2147483648) 2147483647
section ABA
variable {xs : ab_X} {C : ab_C} {ν : ab_N} {H : ab_H} {σ : mS} {e f : ab_E} {x y z : Int} {n : Nat}
theorem ab_R_some {z : Nat × ab_E × ab_E} {r : mR} (h : ab_cx xs C ν) (hz : ab_R C.1.length ν z r) (hn : ab_nn C z = true) : ∃ p, r = some p ∧ p.1 = z.1 ∧ ab_I C.1.length ν z.2.1 (p.2 : Int) := by
  unfold ab_nn at hn
  rw [ab_le_ok] at hn
  have h1 := ab_iv_ok h.1 (ab_R_z hz)
  cases r with
  | none => have h2 : ν z.2.2.1 + z.2.2.2 = 0 := hz.2.2; omega
  | some p => exact ⟨p, rfl, hz.2.2.2.1, hz.1, hz.2.2.2.2⟩
theorem ab_cat_ok : ∀ {v : ab_V} {w : mV}, ab_Vr n ν v w → m_cat w = ab_cat v
  | .inl _, .inl _, _ => rfl
  | .inr (.inl _), .inr (.inl _), _ => rfl
  | .inr (.inr (.inl _)), .inr (.inr _), _ => rfl
  | .inr (.inr (.inr _)), .inl _, _ => rfl
  | .inl _, .inr _, h => h.elim
  | .inr (.inl _), .inl _, h => h.elim
  | .inr (.inl _), .inr (.inr _), h => h.elim
  | .inr (.inr (.inl _)), .inl _, h => h.elim
  | .inr (.inr (.inl _)), .inr (.inl _), h => h.elim
  | .inr (.inr (.inr _)), .inr _, h => h.elim
theorem ab_sum_ok : ∀ {vs : List ab_V} {sc : List mV}, ab_Vs n ν vs sc → (sc.map m_cat).sum = ab_sum vs
  | [], [], _ => rfl
  | v :: vs, w :: ws, ⟨h1, h2⟩ => by
    have e1 := ab_sum_ok h2
    have e2 := ab_cat_ok h1
    show ((w :: ws).map m_cat).sum = ((v :: vs).map ab_cat).sum
    rw [List.map_cons, List.map_cons, List.sum_cons, List.sum_cons, e1, e2]
    rfl
  | [], _ :: _, h => h.elim
  | _ :: _, [], h => h.elim
theorem ab_rm_ok {R : Room} {k m : Nat} (h : ab_rm R k m = true) : m_rm R k m := by
  unfold ab_rm at h
  rw [Bool.and_eq_true, Nat.ble_eq, Nat.ble_eq] at h
  exact h
theorem ab_alen_ok {c i len : Nat} {p : Int × Int} (hp : ab_hp n ν H σ) (h : ab_alen H c p = some len) (h1 : p.1 ≤ (i : Int)) (h2 : (i : Int) ≤ p.2) : σ.2.1 c i = len := by
  unfold ab_alen at h
  cases hq : H.2.1.find? (fun q => Nat.beq q.1 c && (ab_le (q.2.1 : Int) p.1 && ab_le p.2 (q.2.2.1 : Int))) with
  | none => rw [hq] at h; cases h
  | some q =>
    rw [hq] at h
    cases h
    have g1 := List.mem_of_find?_eq_some hq
    have g2 := List.find?_some hq
    simp only [Bool.and_eq_true, ab_le_ok] at g2
    obtain ⟨a1, a2, a3⟩ := g2
    have e1 := Nat.eq_of_beq_eq_true a1
    rw [← e1]
    exact hp.2.1 q g1 i (by omega) (by omega)
theorem ab_clamp {x : Int32} (h : 0 ≤ x.toInt) : (x.toNatClampNeg : Int) = x.toInt := Int.toNat_of_nonneg h
theorem ab_ix_ok {c : Nat} {z : Nat × ab_E × ab_E} {r : mR} {x : Int32} (h : ab_cx xs C ν) (hp : ab_hp C.1.length ν H σ) (hz : ab_R C.1.length ν z r) (he : ab_I C.1.length ν e x.toInt) (hi : ab_ix C H c z e = true) :
    ∃ p, r = some p ∧ p.1 = c ∧ ab_I C.1.length ν z.2.1 (p.2 : Int) ∧ vp_in x (σ.2.1 c p.2) ∧ ab_I C.1.length ν e (x.toNatClampNeg : Int) := by
  unfold ab_ix at hi
  rw [Bool.and_eq_true, Bool.and_eq_true] at hi
  obtain ⟨i1, i2, i3⟩ := hi
  obtain ⟨p, rfl, h1, h2⟩ := ab_R_some h hz i2
  cases hl : ab_alen H c (ab_iv C.1 z.2.1) with
  | none => rw [hl] at i3; cases i3
  | some len =>
    rw [hl] at i3
    dsimp only at i3
    rw [Bool.and_eq_true] at i3
    have b := ab_iv_ok h.1 h2
    have e1 := ab_alen_ok hp hl b.1 b.2
    have a1 := ab_leq_ok h (ab_con h) he i3.1
    have a2 := ab_leq_ok1 h he (ab_con h) i3.2
    exact ⟨p, rfl, h1.trans (Nat.eq_of_beq_eq_true i1), h2, vp_in_iff.mpr ⟨a1, by rw [e1]; exact a2⟩, by rw [ab_clamp a1]; exact he⟩
theorem ab_xc_ok {z : Nat × (Nat → Int32)} {j : Nat} (h : ab_cx xs C ν) (hx : xs = some z) (he : ab_I C.1.length ν e (j : Int)) : ab_ok xs C ν (ab_xc C e) (z.2 j).toInt := by
  unfold ab_xc
  cases hq : C.2.2.find? (fun t => Nat.beq t.1.1 e.1 && (ab_le t.1.2 e.2 && ab_le e.2 t.1.2)) with
  | some t =>
    have g1 := List.mem_of_find?_eq_some hq
    have g2 := List.find?_some hq
    simp only [Bool.and_eq_true, ab_le_ok] at g2
    obtain ⟨a1, a2, a3⟩ := g2
    have e1 := Nat.eq_of_beq_eq_true a1
    obtain ⟨b1, b2, z', b3, b4⟩ := h.2.2.2 t g1
    rw [hx] at b3
    cases b3
    exact ab_ok.rf h ⟨b2, b4 j (by rw [he.2, e1]; omega)⟩
  | none =>
    have u := h.add (x := (z.2 j).toInt) (Int32.le_toInt _) (show (z.2 j).toInt ≤ 2147483647 by have := Int32.toInt_lt (z.2 j); omega)
    have hlen : (C.1 ++ [((-2147483648 : Int), (2147483647 : Int))]).length = C.1.length + 1 := by simp
    have e0 : ab_put ν C.1.length (z.2 j).toInt C.1.length = (z.2 j).toInt := if_pos rfl
    refine ⟨_, ⟨⟨u.1.1, u.1.2.1, u.1.2.2.1, fun q hq => ?_⟩, u.2.1, u.2.2⟩, ?_, ?_⟩
    · rcases List.mem_cons.mp hq with rfl | hq
      · have he1 := he.1
        refine ⟨?_, ?_, z, hx, fun i hi => ?_⟩
        · show e.1 < (C.1 ++ [((-2147483648 : Int), (2147483647 : Int))]).length; omega
        · show C.1.length < (C.1 ++ [((-2147483648 : Int), (2147483647 : Int))]).length; omega
        · have hi' : (i : Int) = ab_put ν C.1.length (z.2 j).toInt e.1 + e.2 := hi
          rw [ab_put_ex ν _ _ e.1 he1, ← he.2] at hi'
          have e3 : i = j := by omega
          subst e3
          show _ = ab_put ν C.1.length _ C.1.length + 0
          rw [e0]; omega
      · exact u.1.2.2.2 q hq
    · show C.1.length < (C.1 ++ [((-2147483648 : Int), (2147483647 : Int))]).length; omega
    · show (z.2 j).toInt = ab_put ν C.1.length (z.2 j).toInt C.1.length + 0
      rw [e0]; omega
theorem ab_max_ok (h : ab_cx xs C ν) (he : ab_I C.1.length ν e x) (hf : ab_I C.1.length ν f y) (hz : (x ≤ y → z = y) ∧ (y ≤ x → z = x)) : ab_ok xs C ν (ab_max C e f) z := by
  unfold ab_max
  cases h1 : ab_leq C e f with
  | true => rw [hz.1 (ab_leq_ok h he hf h1)]; exact ab_ok.rf h hf
  | false =>
  cases h2 : ab_leq C f e with
  | true => rw [hz.2 (ab_leq_ok h hf he h2)]; exact ab_ok.rf h he
  | false =>
    have e1 := ab_iv_ok h.1 he
    have f1 := ab_iv_ok h.1 hf
    have m1 := ab_mx_ok (ab_iv C.1 e).1 (ab_iv C.1 f).1
    have m2 := ab_mx_ok (ab_iv C.1 e).2 (ab_iv C.1 f).2
    rcases Int.le_total x y with g | g
    · have := hz.1 g
      exact ab_fr_ok h (by omega) (by omega)
    · have := hz.2 g
      exact ab_fr_ok h (by omega) (by omega)
theorem ab_min_ok (h : ab_cx xs C ν) (he : ab_I C.1.length ν e x) (hf : ab_I C.1.length ν f y) (hz : (x ≤ y → z = x) ∧ (y ≤ x → z = y)) : ab_ok xs C ν (ab_min C e f) z := by
  unfold ab_min
  cases h1 : ab_leq C e f with
  | true => rw [hz.1 (ab_leq_ok h he hf h1)]; exact ab_ok.rf h he
  | false =>
  cases h2 : ab_leq C f e with
  | true => rw [hz.2 (ab_leq_ok h hf he h2)]; exact ab_ok.rf h hf
  | false =>
    have e1 := ab_iv_ok h.1 he
    have f1 := ab_iv_ok h.1 hf
    have m1 := ab_mn_ok (ab_iv C.1 e).1 (ab_iv C.1 f).1
    have m2 := ab_mn_ok (ab_iv C.1 e).2 (ab_iv C.1 f).2
    rcases Int.le_total x y with g | g
    · have := hz.1 g
      exact ab_fr_ok h (by omega) (by omega)
    · have := hz.2 g
      exact ab_fr_ok h (by omega) (by omega)
theorem ab_abs_ok {a : Int32} (h : ab_cx xs C ν) (he : ab_I C.1.length ν e a.toInt) : ab_ok xs C ν (ab_abs C e) (if 0 ≤ a then a else 0 - a).toInt := by
  unfold ab_abs
  have e1 := ab_iv_ok h.1 he
  have h0 : Int32.toInt 0 = 0 := rfl
  cases h1 : ab_leq C (0, 0) e with
  | true =>
    have g := ab_leq_ok h (ab_con h) he h1
    rw [if_pos (by rw [Int32.le_iff_toInt_le, h0]; exact g)]
    exact ab_ok.rf h he
  | false =>
  cases h2 : ab_le (-2147483647) (ab_iv C.1 e).1 with
  | false => exact ab_fr_ok h (ab_r32 _).1 (ab_r32 _).2
  | true =>
    rw [ab_le_ok] at h2
    have m2 := ab_mx_ok (ab_iv C.1 e).2 (-(ab_iv C.1 e).1)
    have r := ab_r32 a
    by_cases g : 0 ≤ a
    · rw [if_pos g]
      rw [Int32.le_iff_toInt_le, h0] at g
      exact ab_fr_ok h (by omega) (by omega)
    · rw [if_neg g]
      rw [Int32.le_iff_toInt_le, h0] at g
      have e2 : (0 - a).toInt = 0 - a.toInt := ab_i32_sub (x := 0) (y := a) (by rw [h0]; omega) (by rw [h0]; omega)
      rw [e2]
      exact ab_fr_ok h (by omega) (by omega)
end ABA
