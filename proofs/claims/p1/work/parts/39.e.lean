/-! the beginning's unknowns -/
def ab_ν0 (L : Nat) : ab_N := fun j => if j = 1 then (L : Int) else 0
theorem ab_cx0 {L : Nat} {xs : Nat → Int32} (hL : L ≤ 8) : ab_cx (some (L, xs)) ab_C0 (ab_ν0 L) := by
  refine ⟨⟨rfl, fun j q hq => ?_⟩, Nat.zero_lt_succ _, fun f hf => (by cases hf), fun f hf => (by cases hf)⟩
  match j, hq with
  | 0, hq =>
    cases hq
    exact ⟨Int.le_refl _, Int.le_refl _⟩
  | 1, hq =>
    cases hq
    have e : ab_ν0 L 1 = (L : Int) := rfl
    rw [e]
    exact ⟨by dsimp only; omega, by dsimp only; omega⟩
  | j + 2, hq => cases hq
theorem ab_xl0 {L : Nat} {xs : Nat → Int32} (hL : L ≤ 8) : ab_xl true (some (L, xs)) ab_C0 (ab_ν0 L) := fun _ => ⟨(L, xs), rfl, (by dsimp only; omega), Nat.lt_succ_self 1, (Int.add_zero _).symm⟩
theorem ab_Ls0 {L : Nat} : ab_Ls 2 (ab_ν0 L) ab_S0.2.2.1 (m_L0 8 [.inr (.inr (some (98, 0)))]) := ab_L0_ok (nL := 8) (args := [.inr (.inr (.inl (98, (0, 0), (0, 1))))]) (avs := [.inr (.inr (some (98, 0)))]) ⟨⟨Nat.zero_lt_succ _, Nat.zero_lt_succ _, rfl, rfl, rfl⟩, trivial⟩
theorem ab_hp0 {L : Nat} : ab_hp 2 (ab_ν0 L) ab_H0 ab_σ0 := by
  have hb : ab_H0.1.all (fun q => Nat.beq q.2.1 0 && decide (q.2.2 = (ab_σ0.1 q.1 : Int))) = true := by decide
  refine ⟨fun q hq => ?_, fun q hq => (by cases hq), fun q hq => (by cases hq), fun q hq => (by cases hq)⟩
  have g := List.all_eq_true.mp hb q hq
  rw [Bool.and_eq_true, decide_eq_true_eq] at g
  have e1 := Nat.eq_of_beq_eq_true g.1
  refine ⟨by rw [e1]; exact Nat.zero_lt_succ _, ?_⟩
  rw [e1, ← g.2]
  exact (Int.zero_add _).symm
