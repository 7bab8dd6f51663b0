/-! how large money and positions can grow -/
def ia (x : Int) : Int := if x < 0 then -x else x
theorem ia_c (x : Int) : (ia x = x ∧ 0 ≤ x) ∨ (ia x = -x ∧ x < 0) := by
  unfold ia
  by_cases c : x < 0
  · rw [if_pos c]; exact Or.inr ⟨rfl, c⟩
  · rw [if_neg c]; exact Or.inl ⟨rfl, by omega⟩
theorem ia_0 (x : Int) : 0 ≤ ia x := by rcases ia_c x with h | h <;> omega
theorem ia_add (x y : Int) : ia (x + y) ≤ ia x + ia y := by
  rcases ia_c x with h | h <;> rcases ia_c y with g | g <;> rcases ia_c (x + y) with k | k <;> omega
theorem ia_neg (x : Int) : ia (-x) = ia x := by
  rcases ia_c x with h | h <;> rcases ia_c (-x) with k | k <;> omega
theorem ia_le {x b : Int} (h : ia x ≤ b) : -b ≤ x ∧ x ≤ b := by rcases ia_c x with k | k <;> omega
theorem le_ia {x b : Int} (h1 : -b ≤ x) (h2 : x ≤ b) : ia x ≤ b := by rcases ia_c x with k | k <;> omega
theorem ia_mul (x y : Int) : ia (x * y) = ia x * ia y := by
  rcases ia_c x with ⟨e1, h⟩ | ⟨e1, h⟩ <;> rcases ia_c y with ⟨e2, g⟩ | ⟨e2, g⟩ <;> rw [e1, e2]
  · have := Int.mul_nonneg h g
    rcases ia_c (x * y) with k | k <;> omega
  · have := Int.mul_nonneg h (show 0 ≤ -y by omega)
    rw [Int.mul_neg] at this ⊢
    rcases ia_c (x * y) with k | k <;> omega
  · have := Int.mul_nonneg (show 0 ≤ -x by omega) g
    rw [Int.neg_mul] at this ⊢
    rcases ia_c (x * y) with k | k <;> omega
  · have := Int.mul_nonneg (show 0 ≤ -x by omega) (show 0 ≤ -y by omega)
    rw [Int.neg_mul_neg] at this ⊢
    rcases ia_c (x * y) with k | k <;> omega
theorem ia_mul_le {x y a b : Int} (h1 : ia x ≤ a) (h2 : ia y ≤ b) : ia (x * y) ≤ a * b := by
  rw [ia_mul]
  exact Int.mul_le_mul h1 h2 (ia_0 y) (Int.le_trans (ia_0 x) h1)
abbrev cI (σ : mS) (m : Nat) : Int := (m_l σ 6 m 2).toInt
abbrev pI (σ : mS) (m j : Nat) : Int := (m_l σ 14 m j).toInt
def CS (σ : mS) : Int := ia (cI σ 0) + ia (cI σ 1) + ia (cI σ 2) + ia (cI σ 3) + ia (cI σ 4) + ia (cI σ 5)
def SP (σ : mS) (j : Nat) : Int := ia (pI σ 0 j) + ia (pI σ 1 j) + ia (pI σ 2 j) + ia (pI σ 3 j) + ia (pI σ 4 j) + ia (pI σ 5 j)
theorem CS_of {σ σ' : mS} (h : ∀ i, m_l σ' 6 i 2 = m_l σ 6 i 2) : CS σ' = CS σ := by
  unfold CS cI
  rw [h 0, h 1, h 2, h 3, h 4, h 5]
theorem SP_of {σ σ' : mS} {j : Nat} (h : ∀ i, m_l σ' 14 i j = m_l σ 14 i j) : SP σ' j = SP σ j := by
  unfold SP pI
  rw [h 0, h 1, h 2, h 3, h 4, h 5]
theorem CS_fw {L : Nat → Nat → Bool} {σ σ' : mS} (F : fw_e L σ σ') (h : fwh L 6 2 = true) : CS σ' = CS σ := CS_of (fun i => (F.2 6 i 2 h).2.1)
theorem SP_fw {L : Nat → Nat → Bool} {σ σ' : mS} {j : Nat} (F : fw_e L σ σ') (h : fwh L 14 0 = true) : SP σ' j = SP σ j := SP_of (fun i => (F.2 14 i j (by
  have e : fwh L 14 j = fwh L 14 0 := by unfold fwh; rw [if_neg (by decide), if_neg (by decide)]
  rw [e]; exact h)).2.1)
theorem CS_m {σ : mS} {m : Nat} (h : m < 6) : ia (cI σ m) ≤ CS σ := by
  have c : m = 0 ∨ m = 1 ∨ m = 2 ∨ m = 3 ∨ m = 4 ∨ m = 5 := by omega
  have a0 := ia_0 (cI σ 0)
  have a1 := ia_0 (cI σ 1)
  have a2 := ia_0 (cI σ 2)
  have a3 := ia_0 (cI σ 3)
  have a4 := ia_0 (cI σ 4)
  have a5 := ia_0 (cI σ 5)
  unfold CS
  rcases c with rfl | rfl | rfl | rfl | rfl | rfl <;> omega
theorem SP_m {σ : mS} {m j : Nat} (h : m < 6) : ia (pI σ m j) ≤ SP σ j := by
  have c : m = 0 ∨ m = 1 ∨ m = 2 ∨ m = 3 ∨ m = 4 ∨ m = 5 := by omega
  have a0 := ia_0 (pI σ 0 j)
  have a1 := ia_0 (pI σ 1 j)
  have a2 := ia_0 (pI σ 2 j)
  have a3 := ia_0 (pI σ 3 j)
  have a4 := ia_0 (pI σ 4 j)
  have a5 := ia_0 (pI σ 5 j)
  unfold SP
  rcases c with rfl | rfl | rfl | rfl | rfl | rfl <;> omega
theorem CS_set {σ : mS} {m : Nat} {v : Int64} (h : m < 6) : CS (m_set σ 6 m 2 (.inr (.inl v))) = CS σ - ia (cI σ m) + ia v.toInt := by
  have c : m = 0 ∨ m = 1 ∨ m = 2 ∨ m = 3 ∨ m = 4 ∨ m = 5 := by omega
  unfold CS cI
  simp only [ml_sl, true_and, and_true]
  rcases c with rfl | rfl | rfl | rfl | rfl | rfl <;> (simp <;> omega)
theorem SP_set {σ : mS} {m j k : Nat} {v : Int64} (h : m < 6) : SP (m_set σ 14 m k (.inr (.inl v))) j = if j = k then SP σ j - ia (pI σ m j) + ia v.toInt else SP σ j := by
  have c : m = 0 ∨ m = 1 ∨ m = 2 ∨ m = 3 ∨ m = 4 ∨ m = 5 := by omega
  unfold SP pI
  simp only [ml_sl, true_and]
  by_cases e : j = k
  · subst e
    rcases c with rfl | rfl | rfl | rfl | rfl | rfl <;> (simp <;> omega)
  · rcases c with rfl | rfl | rfl | rfl | rfl | rfl <;> simp [e]
/-- who takes a quantity and an amount -/
theorem t91_b {σ σ' : mS} {m : Nat} {x1 : Int32} {x2 x3 : Int64} (hs : HS σ) (hm : m < 6) (hx : 0 ≤ x1.toInt ∧ x1.toInt < 3) (hc : ia (cI σ m) + ia x3.toInt ≤ 4000000000000000000) (hp : ia (pI σ m x1.toNatClampNeg) + ia x2.toInt ≤ 4000000000000000000) (h : P91 σ m x1 x2 x3 σ') : CS σ' ≤ CS σ + ia x3.toInt ∧ (∀ j, SP σ' j ≤ SP σ j + if j = x1.toNatClampNeg then ia x2.toInt else 0) ∧ (∀ i j, m_l σ' 14 i j = if i = m ∧ j = x1.toNatClampNeg then m_l σ 14 i j + x2 else m_l σ 14 i j) ∧ (∀ i, m_l σ' 6 i 2 = if i = m then m_l σ 6 i 2 + x3 else m_l σ 6 i 2) := by
  have e := t91 hs hm hx h
  have k1 := ia_0 (cI σ m)
  have k2 := ia_0 x3.toInt
  have k3 := ia_0 (pI σ m x1.toNatClampNeg)
  have k4 := ia_0 x2.toInt
  have b1 := ia_le (x := cI σ m) (b := 4000000000000000000 - ia x3.toInt) (by omega)
  have b2 := ia_le (x := x3.toInt) (b := ia x3.toInt) (Int.le_refl _)
  have b3 := ia_le (x := pI σ m x1.toNatClampNeg) (b := 4000000000000000000 - ia x2.toInt) (by omega)
  have b4 := ia_le (x := x2.toInt) (b := ia x2.toInt) (Int.le_refl _)
  have ac : (m_l σ 6 m 2 + x3).toInt = cI σ m + x3.toInt := l_add (by show _ ≤ cI σ m + x3.toInt; omega) (by show cI σ m + x3.toInt < _; omega)
  have ap : (m_l σ 14 m x1.toNatClampNeg + x2).toInt = pI σ m x1.toNatClampNeg + x2.toInt := l_add (by show _ ≤ pI σ m x1.toNatClampNeg + x2.toInt; omega) (by show pI σ m x1.toNatClampNeg + x2.toInt < _; omega)
  refine ⟨?_, fun j => ?_, fun i j => ?_, fun i => ?_⟩
  · rw [e, CS_set hm, ac]
    have q : CS (m_set σ 14 m x1.toNatClampNeg (.inr (.inl (m_l σ 14 m x1.toNatClampNeg + x2)))) = CS σ := CS_of (fun i => by rw [ml_sl, if_neg (fun z => by cases z.1)])
    have q2 : cI (m_set σ 14 m x1.toNatClampNeg (.inr (.inl (m_l σ 14 m x1.toNatClampNeg + x2)))) m = cI σ m := by
      show (m_l (m_set σ 14 m x1.toNatClampNeg (.inr (.inl (m_l σ 14 m x1.toNatClampNeg + x2)))) 6 m 2).toInt = _
      rw [ml_sl, if_neg (fun z => by cases z.1)]
    rw [q, q2]
    have := ia_add (cI σ m) x3.toInt
    omega
  · rw [e]
    have q : SP (m_set (m_set σ 14 m x1.toNatClampNeg (.inr (.inl (m_l σ 14 m x1.toNatClampNeg + x2)))) 6 m 2 (.inr (.inl (m_l σ 6 m 2 + x3)))) j = SP (m_set σ 14 m x1.toNatClampNeg (.inr (.inl (m_l σ 14 m x1.toNatClampNeg + x2)))) j := SP_of (fun i => by rw [ml_sl, if_neg (fun z => by cases z.1)])
    rw [q, SP_set hm]
    by_cases c : j = x1.toNatClampNeg
    · subst c
      rw [if_pos rfl, if_pos rfl, ap]
      have := ia_add (pI σ m x1.toNatClampNeg) x2.toInt
      omega
    · rw [if_neg c, if_neg c]; omega
  · rw [e, ml_sl, if_neg (fun z => by cases z.1), ml_sl]
    simp only [true_and]
    by_cases c : i = m ∧ j = x1.toNatClampNeg
    · rw [if_pos c, if_pos c, c.1, c.2]
    · rw [if_neg c, if_neg c]
  · rw [e, ml_sl]
    simp only [true_and, and_true]
    by_cases c : i = m
    · rw [if_pos c, if_pos c, c]
    · rw [if_neg c, if_neg c, ml_sl, if_neg (fun z => by cases z.1)]
