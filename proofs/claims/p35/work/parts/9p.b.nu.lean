/-! the beginning's unknowns -/
def ab_ν0 (L : Nat) : ab_N := fun j => if j = 1 then (L : Int) else 0
theorem ac_cxS {L : Nat} {xs : Nat → Int32} (hL : L ≤ 4096) : ab_cx (some (L, xs)) ac_C0s (ab_ν0 L) := by
  refine ⟨⟨rfl, fun j q hq => ?_⟩, Nat.zero_lt_succ _, fun f hf => (by cases hf), fun f hf => (by cases hf)⟩
  match j, hq with
  | 0, hq =>
    cases hq
    exact ⟨Int.le_refl _, Int.le_refl _⟩
  | 1, hq =>
    cases hq
    have e : ab_ν0 L 1 = (L : Int) := rfl
    rw [e]
    exact ⟨by dsimp only; omega, by dsimp only; omega⟩
  | j + 2, hq => cases hq
theorem ac_LsS {L : Nat} : ab_Ls 2 (ab_ν0 L) ac_S0.2.2.1 (m_L0 8 [.inr (.inr (some (98, 0)))]) := ab_L0_ok (nL := 8) (args := [.inr (.inr (.inl (98, (0, 0), (0, 1))))]) (avs := [.inr (.inr (some (98, 0)))]) ⟨⟨Nat.zero_lt_succ _, Nat.zero_lt_succ _, rfl, rfl, rfl⟩, trivial⟩
theorem ac_ty1 : ((List.range 8).all (fun k => Nat.beq (m_ty 1 k) 0 || Nat.beq (m_ty 1 k) 3) && Nat.beq (m_ty 1 8) 2) = true := by decide +kernel
theorem ac_hpS {L : Nat} : ab_hp 2 (ab_ν0 L) ac_H0 ab_σ0 := by
  have hb : ac_H0.1.all (fun q => Nat.beq q.2.1 0 && decide (q.2.2 = (ab_σ0.1 q.1 : Int))) = true := by decide
  have ht := ac_ty1
  rw [Bool.and_eq_true] at ht
  refine ⟨fun q hq => ?_, fun q hq => (by cases hq), fun q hq => ?_, fun q hq => (by cases hq)⟩
  · have g := List.all_eq_true.mp hb q hq
    rw [Bool.and_eq_true, decide_eq_true_eq] at g
    have e1 := Nat.eq_of_beq_eq_true g.1
    refine ⟨by rw [e1]; exact Nat.zero_lt_succ _, ?_⟩
    rw [e1, ← g.2]
    exact (Int.zero_add _).symm
  · rcases List.mem_cons.mp hq with rfl | hq
    · intro i k h1 h2 h3 h4
      have h4 : k ≤ 7 := h4
      have g := List.all_eq_true.mp ht.1 k (List.mem_range.mpr (by omega))
      have e : m_get ab_σ0 1 i k = .inl 0 := by
        unfold m_get
        rcases (Bool.or_eq_true _ _).mp g with g | g
        · rw [Nat.eq_of_beq_eq_true g]
          rfl
        · rw [Nat.eq_of_beq_eq_true g]
          rfl
      show ab_Tr (0, 0, 0, 0, 0, 0) (m_get ab_σ0 1 i k)
      rw [e]
      exact ⟨rfl, Int.le_refl _, Int.le_refl _⟩
    rcases List.mem_cons.mp hq with rfl | hq
    · intro i k h1 h2 h3 h4
      have h3 : 8 ≤ k := h3
      have h4 : k ≤ 8 := h4
      have e0 : k = 8 := by omega
      subst e0
      have e : m_get ab_σ0 1 i 8 = .inr (.inr none) := by
        unfold m_get
        rw [Nat.eq_of_beq_eq_true ht.2]
        rfl
      show ab_Tr (2, 0, 0, 0, 0, 0) (m_get ab_σ0 1 i 8)
      rw [e]
      exact ⟨rfl, rfl⟩
    cases hq
