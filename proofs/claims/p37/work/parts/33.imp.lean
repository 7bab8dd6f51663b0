/-! one heap of the analysis says what another one says -/
def ab_impN (H : ab_H) (q : Nat × Nat × Nat × Nat) : Bool := H.2.1.any (fun p => Nat.beq p.1 q.1 && (Nat.ble p.2.1 q.2.1 && (Nat.ble q.2.2.1 p.2.2.1 && Nat.beq p.2.2.2 q.2.2.2)))
def ab_impG (C : ab_C) (H : ab_H) (b : ab_G) : Bool :=
  H.2.2.1.any (fun g => Nat.beq g.1 b.1 && (Nat.ble g.2.1 b.2.1 && (Nat.ble b.2.2.1 g.2.2.1 && (Nat.ble g.2.2.2.1 b.2.2.2.1 && (Nat.ble b.2.2.2.2.1 g.2.2.2.2.1 && ab_Tle g.2.2.2.2.2 b.2.2.2.2.2))))) ||
  (Nat.beq b.2.1 b.2.2.1 && (Nat.beq b.2.2.2.1 b.2.2.2.2.1 && H.2.2.2.any (fun o => ab_key b.1 b.2.1 b.2.2.2.1 o && ab_in C o.2.2.2 b.2.2.2.2.2)))
def ab_impO (C : ab_C) (H : ab_H) (o : ab_O) : Bool := match ab_rdc C H o.1 o.2.1 o.2.2.1 with
  | some v => ab_eV v o.2.2.2
  | none => false
def ab_impC (H : ab_H) (q : Nat × ab_E) : Bool := H.1.any (fun p => Nat.beq p.1 q.1 && ab_eE p.2 q.2)
def ab_imp (C : ab_C) (H K : ab_H) : Bool := K.1.all (ab_impC H) && (K.2.1.all (ab_impN H) && (K.2.2.1.all (ab_impG C H) && K.2.2.2.all (ab_impO C H)))
theorem ab_imp_ok {xs : ab_X} {C : ab_C} {ν : ab_N} {H K : ab_H} {σ : mS} (h : ab_cx xs C ν) (hp : ab_hp C.1.length ν H σ) (hi : ab_imp C H K = true) : ab_hp C.1.length ν K σ := by
  unfold ab_imp at hi
  simp only [Bool.and_eq_true] at hi
  obtain ⟨i1, i2, i3, i4⟩ := hi
  refine ⟨fun q hq => ?_, fun q hq j h1 h2 => ?_, fun b hb i k h1 h2 h3 h4 => ?_, fun o ho => ?_⟩
  · obtain ⟨p, p1, p2⟩ := List.any_eq_true.mp (List.all_eq_true.mp i1 q hq)
    rw [Bool.and_eq_true] at p2
    have e1 := Nat.eq_of_beq_eq_true p2.1
    have e2 := ab_eE_ok p2.2
    rw [← e1, ← e2]
    exact hp.1 p p1
  · obtain ⟨p, p1, p2⟩ := List.any_eq_true.mp (List.all_eq_true.mp i2 q hq)
    simp only [Bool.and_eq_true, Nat.ble_eq] at p2
    obtain ⟨a1, a2, a3, a4⟩ := p2
    rw [← Nat.eq_of_beq_eq_true a1, ← Nat.eq_of_beq_eq_true a4]
    exact hp.2.1 p p1 j (by omega) (by omega)
  · have g0 := List.all_eq_true.mp i3 b hb
    unfold ab_impG at g0
    rcases (Bool.or_eq_true _ _).mp g0 with g0 | g0
    · obtain ⟨g, g1, g2⟩ := List.any_eq_true.mp g0
      simp only [Bool.and_eq_true, Nat.ble_eq] at g2
      obtain ⟨a1, a2, a3, a4, a5, a6⟩ := g2
      rw [← Nat.eq_of_beq_eq_true a1]
      exact ab_Tle_ok a6 (hp.2.2.1 g g1 i k (by omega) (by omega) (by omega) (by omega))
    · rw [Bool.and_eq_true, Bool.and_eq_true] at g0
      obtain ⟨a1, a2, a3⟩ := g0
      have e1 := Nat.eq_of_beq_eq_true a1
      have e2 := Nat.eq_of_beq_eq_true a2
      obtain ⟨o, o1, o2⟩ := List.any_eq_true.mp a3
      rw [Bool.and_eq_true] at o2
      have o3 := o2.1
      unfold ab_key at o3
      rw [Bool.and_eq_true, Bool.and_eq_true] at o3
      have c1 := Nat.eq_of_beq_eq_true o3.1
      have c2 := Nat.eq_of_beq_eq_true o3.2.1
      have c3 := Nat.eq_of_beq_eq_true o3.2.2
      have hv := hp.2.2.2 o o1
      rw [c1, c2, c3] at hv
      have e3 : i = b.2.1 := by omega
      have e4 : k = b.2.2.2.1 := by omega
      subst e3; subst e4
      exact ab_in_ok h hv o2.2
  · have g0 := List.all_eq_true.mp i4 o ho
    unfold ab_impO at g0
    cases hr : ab_rdc C H o.1 o.2.1 o.2.2.1 with
    | none => rw [hr] at g0; cases g0
    | some v =>
      rw [hr] at g0
      rw [← ab_eV_ok g0]
      exact ab_rdc_ok h hp hr
/-- no contract but the bodies -/
def ab_SP0 : ab_SP := fun _ _ _ _ => none
theorem ab_SP0_ok (l : Launch) : ab_SPok l ab_SP0 := fun _ _ _ _ _ h => by cases h
/-- all ends are the answer 1 -/
def ab_isT (z : ab_Z) : Bool := match z with
  | .inl e => (match e.2.1 with
    | .inl (some (.inl v)) => ab_eE v (0, 1)
    | _ => false)
  | .inr _ => false
def ab_fin (o : Option (List ab_Z)) : Bool := match o with
  | some l => l.all ab_isT
  | none => false
