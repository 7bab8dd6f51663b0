/-! cases, split by cells of the script -/
def ab_l8 : List Nat → ab_C → ab_C
  | [], C => C
  | j :: t, C => ab_l8 t (ab_xc C (0, (j : Int))).1
def ab_p8 (S : ab_S) : ab_S := (ab_l8 [1, 2, 3, 4, 5, 6, 7] S.1, S.2)
def ab_sE (p : Nat × Int) (S : ab_S) : List ab_S := match S.1.2.2.find? (fun t => Nat.beq t.1.1 0 && (ab_le t.1.2 (p.1 : Int) && ab_le (p.1 : Int) t.1.2)) with
  | some t => ab_sp3 S t.2 p.2
  | none => [S]
def ab_sM : List (Nat × Int) → List ab_S → List ab_S
  | [], r => r
  | p :: t, r => ab_sM t (r.flatMap (ab_sE p))
section ABS
variable {xs : ab_X} {ν : ab_N}
theorem ab_l8_ok {z : Nat × (Nat → Int32)} (hx : xs = some z) : ∀ {js : List Nat} {C : ab_C} {ν : ab_N}, ab_cx xs C ν → ∃ ν', ab_up xs C ν (ab_l8 js C) ν'
  | [], _, ν, h => ⟨ν, ab_up.rf h⟩
  | j :: t, C, ν, h => by
    obtain ⟨ν1, u1, _⟩ := ab_xc_ok (e := (0, (j : Int))) (j := j) h hx (ab_con h)
    obtain ⟨ν2, u2⟩ := ab_l8_ok hx (js := t) u1.1
    exact ⟨ν2, u1.tr u2⟩
theorem ab_sE_ok {S : ab_S} {p : Nat × Int} (h : ab_cx xs S.1 ν) : ∃ S' ∈ ab_sE p S, ab_cx xs S'.1 ν ∧ S'.1.1.length = S.1.1.length ∧ S'.2 = S.2 := by
  unfold ab_sE
  cases hf : S.1.2.2.find? (fun t => Nat.beq t.1.1 0 && (ab_le t.1.2 (p.1 : Int) && ab_le (p.1 : Int) t.1.2)) with
  | none => exact ⟨S, List.mem_cons_self, h, rfl, rfl⟩
  | some t =>
    obtain ⟨_, b2, _⟩ := h.2.2.2 t (List.mem_of_find?_eq_some hf)
    exact ab_sp3_ok (x := ν t.2.1 + t.2.2) h ⟨b2, rfl⟩
theorem ab_sM_ok : ∀ {ps : List (Nat × Int)} {r : List ab_S} {S : ab_S}, (∃ S' ∈ r, ab_cx xs S'.1 ν ∧ S'.1.1.length = S.1.1.length ∧ S'.2 = S.2) → ∃ S' ∈ ab_sM ps r, ab_cx xs S'.1 ν ∧ S'.1.1.length = S.1.1.length ∧ S'.2 = S.2
  | [], _, _, h => h
  | p :: t, r, S, ⟨S1, g1, g2, g3, g4⟩ => by
    obtain ⟨S2, k1, k2, k3, k4⟩ := ab_sE_ok (S := S1) (p := p) g2
    exact ab_sM_ok (ps := t) (r := r.flatMap (ab_sE p)) (S := S) ⟨S2, List.mem_flatMap.mpr ⟨S1, g1, k1⟩, k2, k3.trans g3, k4.trans g4⟩
end ABS
def ab_subs (n : Nat) (ps : List (Nat × Int)) : Option (List ab_S) := match ab_outs with
  | some l => (match l[n]? with
    | some (.inr S) => some (ab_sM ps [ab_p8 S])
    | _ => none)
  | none => none
def ab_grp (n : Nat) (ps : List (Nat × Int)) (K : ab_H) (a b : Nat) : Bool := match ab_subs n ps with
  | some r => ((r.drop a).take b).all (fun S => ab_runX ab_SP0 K (.inr S))
  | none => false
def ab_tl (n : Nat) (ps : List (Nat × Int)) (K : ab_H) (a : Nat) : Bool := match ab_subs n ps with
  | some r => (r.drop a).all (fun S => ab_runX ab_SP0 K (.inr S))
  | none => false
theorem ab_tl_c {n : Nat} {ps : List (Nat × Int)} {K : ab_H} {a b : Nat} (h : ab_grp n ps K a b = true) (g : ab_tl n ps K (a + b) = true) : ab_tl n ps K a = true := by
  unfold ab_grp at h
  unfold ab_tl at g ⊢
  cases hr : ab_subs n ps with
  | none => rw [hr] at h; cases h
  | some r =>
    rw [hr] at h g
    dsimp only at h g ⊢
    rw [← List.drop_drop] at g
    rw [← List.take_append_drop b (r.drop a), List.all_append, h, g]
    rfl
def ab_p4 : List (Nat × Int) := [(3, 0), (3, 1)]
def ab_p7 : List (Nat × Int) := [(2, 0), (2, 1), (2, 2), (3, 0), (3, 1), (3, 2)]
def ab_p3 : List (Nat × Int) := [(3, 0), (3, 1), (7, 0), (7, 1), (7, 2), (7, 3)]
theorem ab_g4_0 : ab_grp 4 ab_p4 ab_h4 0 2 = true := by decide +kernel
theorem ab_g4_2 : ab_tl 4 ab_p4 ab_h4 2 = true := by decide +kernel
theorem ab_case_4 : ab_tl 4 ab_p4 ab_h4 0 = true := ab_tl_c ab_g4_0 ab_g4_2
