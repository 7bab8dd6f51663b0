/-! numbers that don't wrap -/
theorem bmod_id {x : Int} (h1 : -2147483648 ≤ x) (h2 : x < 2147483648) : x.bmod 4294967296 = x := by
  rw [Int.bmod_def]
  split <;> omega
theorem i_add {a b : Int32} (h1 : -2147483648 ≤ a.toInt + b.toInt) (h2 : a.toInt + b.toInt < 2147483648) : (a + b).toInt = a.toInt + b.toInt := by
  rw [Int32.toInt_add]
  exact bmod_id h1 h2
theorem i_sub {a b : Int32} (h1 : -2147483648 ≤ a.toInt - b.toInt) (h2 : a.toInt - b.toInt < 2147483648) : (a - b).toInt = a.toInt - b.toInt := by
  rw [Int32.toInt_sub]
  exact bmod_id h1 h2
theorem i_mul {a b : Int32} (h1 : -2147483648 ≤ a.toInt * b.toInt) (h2 : a.toInt * b.toInt < 2147483648) : (a * b).toInt = a.toInt * b.toInt := by
  rw [Int32.toInt_mul]
  exact bmod_id h1 h2
theorem i_neg {a : Int32} (h1 : -2147483647 ≤ a.toInt) : (-a).toInt = -a.toInt := by
  have := (ab_r32 a).2
  rw [Int32.toInt_neg]
  exact bmod_id (by omega) (by omega)
theorem i_b (a : Int32) : -2147483648 ≤ a.toInt ∧ a.toInt ≤ 2147483647 := ab_r32 a
theorem i_one : (Int32.ofInt 1).toInt = 1 := by decide
theorem i_inc {a : Int32} (h1 : 0 ≤ a.toInt) (h2 : a.toInt < 1000000) : (a + Int32.ofInt 1).toInt = a.toInt + 1 := by
  rw [i_add (by rw [i_one]; omega) (by rw [i_one]; omega), i_one]
theorem i_dec {a : Int32} (h1 : -1000000 ≤ a.toInt) (h2 : a.toInt < 1000000) : (a - Int32.ofInt 1).toInt = a.toInt - 1 := by
  rw [i_sub (by rw [i_one]; omega) (by rw [i_one]; omega), i_one]
theorem i_inc' {a : Int32} (h1 : -1000000 ≤ a.toInt) (h2 : a.toInt < 1000000) : (a + Int32.ofInt (-1)).toInt = a.toInt - 1 := by
  have e : (Int32.ofInt (-1)).toInt = -1 := by decide
  rw [i_add (by rw [e]; omega) (by rw [e]; omega), e]
  omega
theorem i_nat {a : Int32} (h : 0 ≤ a.toInt) : (a.toNatClampNeg : Int) = a.toInt := by
  have e : a.toNatClampNeg = a.toInt.toNat := rfl
  omega
theorem i_ofNat {n : Nat} (h : n < 2147483648) : (Int32.ofNat n).toInt = (n : Int) := Int32.toInt_ofNat_of_lt h
/-! ints, longs, references of a heap that was written -/
theorem mi_si {τ : mS} {c i k c' i' k' : Nat} {v : Int32} : m_i (m_set τ c i k (.inl v)) c' i' k' = if c' = c ∧ i' = i ∧ k' = k then v else m_i τ c' i' k' := by
  show (if c' = c then (if i' = i then (if k' = k then v else m_i τ c' i' k') else m_i τ c' i' k') else m_i τ c' i' k') = _
  by_cases h1 : c' = c
  · by_cases h2 : i' = i
    · by_cases h3 : k' = k
      · rw [if_pos h1, if_pos h2, if_pos h3, if_pos ⟨h1, h2, h3⟩]
      · rw [if_pos h1, if_pos h2, if_neg h3, if_neg (fun z => h3 z.2.2)]
    · rw [if_pos h1, if_neg h2, if_neg (fun z => h2 z.2.1)]
  · rw [if_neg h1, if_neg (fun z => h1 z.1)]
theorem mi_sl {τ : mS} {c i k c' i' k' : Nat} {v : Int64} : m_i (m_set τ c i k (.inr (.inl v))) c' i' k' = m_i τ c' i' k' := rfl
theorem mi_sr {τ : mS} {c i k c' i' k' : Nat} {v : mR} : m_i (m_set τ c i k (.inr (.inr v))) c' i' k' = m_i τ c' i' k' := rfl
theorem ml_sl {τ : mS} {c i k c' i' k' : Nat} {v : Int64} : m_l (m_set τ c i k (.inr (.inl v))) c' i' k' = if c' = c ∧ i' = i ∧ k' = k then v else m_l τ c' i' k' := by
  show (if c' = c then (if i' = i then (if k' = k then v else m_l τ c' i' k') else m_l τ c' i' k') else m_l τ c' i' k') = _
  by_cases h1 : c' = c
  · by_cases h2 : i' = i
    · by_cases h3 : k' = k
      · rw [if_pos h1, if_pos h2, if_pos h3, if_pos ⟨h1, h2, h3⟩]
      · rw [if_pos h1, if_pos h2, if_neg h3, if_neg (fun z => h3 z.2.2)]
    · rw [if_pos h1, if_neg h2, if_neg (fun z => h2 z.2.1)]
  · rw [if_neg h1, if_neg (fun z => h1 z.1)]
theorem ml_si {τ : mS} {c i k c' i' k' : Nat} {v : Int32} : m_l (m_set τ c i k (.inl v)) c' i' k' = m_l τ c' i' k' := rfl
theorem ml_sr {τ : mS} {c i k c' i' k' : Nat} {v : mR} : m_l (m_set τ c i k (.inr (.inr v))) c' i' k' = m_l τ c' i' k' := rfl
theorem mr_sr {τ : mS} {c i k c' i' k' : Nat} {v : mR} : m_r (m_set τ c i k (.inr (.inr v))) c' i' k' = if c' = c ∧ i' = i ∧ k' = k then v else m_r τ c' i' k' := by
  show (if c' = c then (if i' = i then (if k' = k then v else m_r τ c' i' k') else m_r τ c' i' k') else m_r τ c' i' k') = _
  by_cases h1 : c' = c
  · by_cases h2 : i' = i
    · by_cases h3 : k' = k
      · rw [if_pos h1, if_pos h2, if_pos h3, if_pos ⟨h1, h2, h3⟩]
      · rw [if_pos h1, if_pos h2, if_neg h3, if_neg (fun z => h3 z.2.2)]
    · rw [if_pos h1, if_neg h2, if_neg (fun z => h2 z.2.1)]
  · rw [if_neg h1, if_neg (fun z => h1 z.1)]
theorem mr_si {τ : mS} {c i k c' i' k' : Nat} {v : Int32} : m_r (m_set τ c i k (.inl v)) c' i' k' = m_r τ c' i' k' := rfl
theorem mr_sl {τ : mS} {c i k c' i' k' : Nat} {v : Int64} : m_r (m_set τ c i k (.inr (.inl v))) c' i' k' = m_r τ c' i' k' := rfl
/-- what a run may have changed: cells P alone, of ints, longs, references -/
def fr3 (P : Nat → Nat → Nat → Prop) (σ σ' : mS) : Prop := σ'.1 = σ.1 ∧ σ'.2.1 = σ.2.1 ∧ ∀ c i k, ¬ P c i k → m_i σ' c i k = m_i σ c i k ∧ m_l σ' c i k = m_l σ c i k ∧ m_r σ' c i k = m_r σ c i k
theorem fr3.rf {P : Nat → Nat → Nat → Prop} {σ : mS} : fr3 P σ σ := ⟨rfl, rfl, fun _ _ _ _ => ⟨rfl, rfl, rfl⟩⟩
theorem fr3.tr {P : Nat → Nat → Nat → Prop} {σ σ1 σ2 : mS} (h : fr3 P σ σ1) (g : fr3 P σ1 σ2) : fr3 P σ σ2 := ⟨g.1.trans h.1, g.2.1.trans h.2.1, fun c i k hn => by
  obtain ⟨a, b, d⟩ := h.2.2 c i k hn
  obtain ⟨a', b', d'⟩ := g.2.2 c i k hn
  exact ⟨a'.trans a, b'.trans b, d'.trans d⟩⟩
theorem fr3.mono {P P' : Nat → Nat → Nat → Prop} {σ σ' : mS} (h : fr3 P σ σ') (hP : ∀ c i k, P c i k → P' c i k) : fr3 P' σ σ' := ⟨h.1, h.2.1, fun c i k hn => h.2.2 c i k (fun z => hn (hP c i k z))⟩
theorem fr3.set {P : Nat → Nat → Nat → Prop} {σ σ' : mS} {c i k : Nat} {v : mV} (h : fr3 P σ σ') (hP : P c i k) : fr3 P σ (m_set σ' c i k v) := by
  refine ⟨by rw [m_set_1]; exact h.1, by rw [m_set_2]; exact h.2.1, fun c' i' k' hn => ?_⟩
  have hne : ¬ (c' = c ∧ i' = i ∧ k' = k) := fun z => hn (by rw [z.1, z.2.1, z.2.2]; exact hP)
  obtain ⟨a, b, d⟩ := h.2.2 c' i' k' hn
  rcases v with v | v | v
  · exact ⟨by rw [mi_si, if_neg hne]; exact a, b, d⟩
  · exact ⟨a, by rw [ml_sl, if_neg hne]; exact b, d⟩
  · exact ⟨a, b, by rw [mr_sr, if_neg hne]; exact d⟩
theorem fr3.get {P : Nat → Nat → Nat → Prop} {σ σ' : mS} (h : fr3 P σ σ') {c i k : Nat} (hn : ¬ P c i k) : m_get σ' c i k = m_get σ c i k := by
  obtain ⟨a, b, d⟩ := h.2.2 c i k hn
  unfold m_get
  rw [a, b, d]
