/-! longs that don't wrap; the fund is used in order; a failed member is settled -/
theorem bmod64 {x : Int} (h1 : -9223372036854775808 ≤ x) (h2 : x < 9223372036854775808) : x.bmod 18446744073709551616 = x := by
  rw [Int.bmod_def]
  split <;> omega
theorem l_add {a b : Int64} (h1 : -9223372036854775808 ≤ a.toInt + b.toInt) (h2 : a.toInt + b.toInt < 9223372036854775808) : (a + b).toInt = a.toInt + b.toInt := by
  rw [Int64.toInt_add]; exact bmod64 h1 h2
theorem l_sub {a b : Int64} (h1 : -9223372036854775808 ≤ a.toInt - b.toInt) (h2 : a.toInt - b.toInt < 9223372036854775808) : (a - b).toInt = a.toInt - b.toInt := by
  rw [Int64.toInt_sub]; exact bmod64 h1 h2
theorem l_mul {a b : Int64} (h1 : -9223372036854775808 ≤ a.toInt * b.toInt) (h2 : a.toInt * b.toInt < 9223372036854775808) : (a * b).toInt = a.toInt * b.toInt := by
  rw [Int64.toInt_mul]; exact bmod64 h1 h2
theorem l_neg {a : Int64} (h1 : -9223372036854775808 < a.toInt) (h2 : a.toInt < 9223372036854775808) : (-a).toInt = -a.toInt := by
  rw [Int64.toInt_neg]; exact bmod64 (by omega) (by omega)
theorem l_0 : (Int64.ofNat 0).toInt = 0 := by decide
theorem l_1 : (Int64.ofNat 1).toInt = 1 := by decide
theorem l_z (x : Int64) : x + Int64.ofNat 0 = x := by
  have z : (Int64.ofNat 0) = 0 := by decide
  rw [z]
  grind
theorem lmin_c (x y : Int64) : ((lmin x y).toInt = y.toInt ∧ y.toInt ≤ x.toInt) ∨ ((lmin x y).toInt = x.toInt ∧ x.toInt ≤ y.toInt) := by
  unfold lmin
  by_cases c : y < x
  · rw [if_pos c]
    rw [Int64.lt_iff_toInt_lt] at c
    exact Or.inl ⟨rfl, by omega⟩
  · rw [if_neg c]
    rw [Int64.lt_iff_toInt_lt] at c
    exact Or.inr ⟨rfl, by omega⟩
theorem lmax_c (x y : Int64) : ((lmax x y).toInt = x.toInt ∧ y.toInt ≤ x.toInt) ∨ ((lmax x y).toInt = y.toInt ∧ x.toInt ≤ y.toInt) := by
  unfold lmax
  by_cases c : y < x
  · rw [if_pos c]
    rw [Int64.lt_iff_toInt_lt] at c
    exact Or.inl ⟨rfl, by omega⟩
  · rw [if_neg c]
    rw [Int64.lt_iff_toInt_lt] at c
    exact Or.inr ⟨rfl, by omega⟩
theorem sm_sub {σ : mS} {i k : Nat} {d : Int64} (hi : i < 6) (hk : k = 2 ∨ k = 4 ∨ (k = 3 ∧ 1 ≤ i)) : sm (m_set σ 6 i k (.inr (.inl (m_l σ 6 i k - d)))) = sm σ - d := by
  have e : m_l σ 6 i k - d = m_l σ 6 i k + (-d) := by grind
  rw [e, sm_set hi hk]
  grind
theorem sm_03 {σ : mS} {v : Int64} : sm (m_set σ 6 0 3 (.inr (.inl v))) = sm σ := by
  unfold sm
  simp only [ml_sl, true_and]
  simp
/-- shares are small -/
def shB (B : Int) (σ : mS) : Prop := B ≤ 1000000000 ∧ ∀ m, m < 6 → 0 ≤ (m_l σ 6 m 4).toInt ∧ (m_l σ 6 m 4).toInt ≤ B
theorem j47 {B : Int} {σ σ' : mS} {m : Nat} {x w : Int64} (hm : m < 6) (hB : shB B σ) (hx : 0 ≤ x.toInt) (h : P47 σ (some (6, m)) x w σ') : sm σ' + w = sm σ ∧ shB B σ' ∧ (0 ≤ w.toInt ∧ w.toInt ≤ x.toInt ∧ w.toInt ≤ (m_l σ 6 m 4).toInt) ∧ (∀ i, i ≠ m → m_l σ' 6 i 4 = m_l σ 6 i 4) ∧ fw_e (wl [(6, 4)]) σ σ' := by
  obtain ⟨i, e, σ4, e4, hw, rfl⟩ := h
  cases e
  have hb := hB.2 m hm
  have hBB := hB.1
  have hc := lmin_c (m_l σ 6 m 4) x
  rw [← hw] at hc e4
  have hs : (m_l σ 6 m 4 - w).toInt = (m_l σ 6 m 4).toInt - w.toInt := l_sub (by omega) (by omega)
  have ne : ∀ i, i ≠ m → m_l σ' 6 i 4 = m_l σ 6 i 4 := fun i hi => by rw [e4, ml_sl, if_neg (fun z => hi z.2.1)]
  refine ⟨by rw [e4, sm_sub hm (Or.inr (Or.inl rfl))]; grind, ⟨hBB, fun i hi => ?_⟩, by omega, ne, by rw [e4]; exact fw_set rfl⟩
  by_cases e : i = m
  · subst e
    rw [e4, ml_sl, if_pos ⟨rfl, rfl, rfl⟩, hs]
    omega
  · rw [ne i e]; exact hB.2 i hi
theorem q48d {B : Int} {c1 : mR} {c2 : Int64} {c3 : Int32} {M : Int64} : ∀ n (u8 : Int64) (u13 : Int32) (τ : mS) (o8 : Int64) (τo : mS), Q48_176 c1 c2 c3 (Int32.ofInt 5) n u8 u13 τ o8 τo → shB B τ → 0 ≤ u13.toInt → 0 ≤ u8.toInt → u8.toInt ≤ c2.toInt → c2.toInt ≤ 10000000000 → sm τ + u8 = M → sm τo + o8 = M ∧ shB B τo ∧ (0 ≤ o8.toInt ∧ o8.toInt ≤ c2.toInt) ∧ fw_e (wl [(6, 4)]) τ τo := by
  intro n
  induction n with
  | zero => intro u8 u13 τ o8 τo h; exact h.elim
  | succ n IH =>
    intro u8 u13 τ o8 τo h hB p0 a0 a1 a2 hM
    have h : B48_176 c1 c2 c3 (Int32.ofInt 5) (Q48_176 c1 c2 c3 (Int32.ofInt 5) n) u8 u13 τ o8 τo := h
    have i5 : (Int32.ofInt 5).toInt = 5 := by decide
    have z0 := l_0
    have z1 := l_1
    have ez : u8 + Int64.ofNat 0 = u8 := by
      apply Int64.toInt_inj.mp
      rw [l_add (by omega) (by omega)]; omega
    rcases h with ⟨_, rfl, rfl⟩ | ⟨h1, h2, ⟨_, h⟩ | ⟨_, ⟨hne, v5, σ6, F, p, h⟩ | ⟨_, h⟩⟩⟩
    · exact ⟨hM, hB, ⟨a0, a1⟩, fw_e.rf'⟩
    · have e1 : (u13 + Int32.ofInt 1).toInt = u13.toInt + 1 := i_inc p0 (by omega)
      rw [ez] at h
      exact IH _ _ _ _ _ h hB (by omega) a0 a1 a2 hM
    · have e1 : (u13 + Int32.ofInt 1).toInt = u13.toInt + 1 := i_inc p0 (by omega)
      have n13 := i_nat p0
      obtain ⟨g1, g2, g3, _, g5⟩ := j47 (by omega) hB (by rw [z1]; omega) p
      have ea : (u8 + v5).toInt = u8.toInt + v5.toInt := l_add (by omega) (by omega)
      obtain ⟨r1, r2, r3, r4⟩ := IH _ _ _ _ _ h g2 (by omega) (by omega) (by omega) a2 (by rw [← hM, ← g1]; grind)
      exact ⟨r1, r2, r3, g5.tr r4⟩
    · have e1 : (u13 + Int32.ofInt 1).toInt = u13.toInt + 1 := i_inc p0 (by omega)
      rw [ez] at h
      exact IH _ _ _ _ _ h hB (by omega) a0 a1 a2 hM
theorem q48c {B : Int} {c1 : mR} {c2 : Int64} {M : Int64} : ∀ n (u8 : Int64) (u10 : Int32) (τ : mS) (w : Int64) (σ' : mS), Q48_146 c1 c2 n u8 u10 τ w σ' → shB B τ → 0 ≤ u8.toInt → u8.toInt ≤ c2.toInt → c2.toInt ≤ 10000000000 → sm τ + u8 = M → sm σ' + w = M ∧ shB B σ' ∧ (0 ≤ w.toInt ∧ w.toInt ≤ c2.toInt) ∧ fw_e (wl [(6, 4)]) τ σ' := by
  intro n
  induction n with
  | zero => intro u8 u10 τ w σ' h; exact h.elim
  | succ n IH =>
    intro u8 u10 τ w σ' h hB a0 a1 a2 hM
    have h : B48_146 c1 c2 (Q48_146 c1 c2 n) u8 u10 τ w σ' := h
    rcases h with ⟨_, rfl, rfl⟩ | ⟨_, ⟨_, rfl, rfl⟩ | ⟨_, m3, o4, σ13, hq, h⟩⟩
    · exact ⟨hM, hB, ⟨a0, a1⟩, fw_e.rf'⟩
    · exact ⟨hM, hB, ⟨a0, a1⟩, fw_e.rf'⟩
    · obtain ⟨g1, g2, g3, g4⟩ := q48d m3 _ _ _ _ _ hq hB (by rw [i_0]; omega) a0 a1 a2 hM
      obtain ⟨r1, r2, r3, r4⟩ := IH _ _ _ _ _ h g2 g3.1 g3.2 a2 g1
      exact ⟨r1, r2, r3, g4.tr r4⟩
/-- the shares of the others, of the first k -/
noncomputable def os (σ : mS) (c1 : mR) : Nat → Int
  | 0 => 0
  | k + 1 => os σ c1 k + @ite _ ((some (6, k + 1) : mR) = c1) (Classical.propDecidable _) 0 (m_l σ 6 (k + 1) 4).toInt
theorem os_b {B : Int} {σ : mS} {c1 : mR} (hB : shB B σ) : ∀ k, k ≤ 5 → 0 ≤ os σ c1 k ∧ os σ c1 k ≤ 1000000000 * k := by
  intro k
  induction k with
  | zero => intro _; exact ⟨Int.le_refl _, Int.le_refl _⟩
  | succ k IH =>
    intro hk
    have a := IH (by omega)
    have b := hB.2 (k + 1) (by omega)
    have hBB := hB.1
    show 0 ≤ os σ c1 k + @ite _ _ (Classical.propDecidable _) _ _ ∧ os σ c1 k + @ite _ _ (Classical.propDecidable _) _ _ ≤ _
    split <;> omega
theorem q48b {B : Int} {c1 : mR} {c2 c3 : Int64} {M : Int64} {σ0 : mS} (hB0 : shB B σ0) (hall : c2.toInt = os σ0 c1 5) (hpos : 0 < c2.toInt) (hmost : 0 ≤ c3.toInt ∧ c3.toInt ≤ c2.toInt) : ∀ n (u8 : Int64) (u12 : Int32) (τ : mS) (w : Int64) (σ' : mS), Q48_91 c1 c2 c3 (Int32.ofInt 5) n u8 u12 τ w σ' → shB B τ → 0 ≤ u12.toInt → u12.toInt ≤ 5 → (∀ i, u12.toNatClampNeg ≤ i → m_l τ 6 (i + 1) 4 = m_l σ0 6 (i + 1) 4) → 0 ≤ u8.toInt → u8.toInt ≤ 1000000000 * u12.toInt → c2.toInt * u8.toInt ≤ c3.toInt * os σ0 c1 u12.toNatClampNeg → sm τ + u8 = M → sm σ' + w = M ∧ shB B σ' ∧ (0 ≤ w.toInt ∧ w.toInt ≤ c3.toInt) ∧ fw_e (wl [(6, 4)]) τ σ' := by
  have i5 : (Int32.ofInt 5).toInt = 5 := by decide
  have ob := os_b (c1 := c1) hB0 5 (by omega)
  intro n
  induction n with
  | zero => intro u8 u12 τ w σ' h; exact h.elim
  | succ n IH =>
    intro u8 u12 τ w σ' h hB p0 p5 hsame a0 a1 hle hM
    have h : B48_91 c1 c2 c3 (Int32.ofInt 5) (Q48_91 c1 c2 c3 (Int32.ofInt 5) n) u8 u12 τ w σ' := h
    have n12 := i_nat p0
    have z0 := l_0
    have ez : u8 + Int64.ofNat 0 = u8 := by
      apply Int64.toInt_inj.mp
      rw [l_add (by omega) (by omega)]; omega
    rcases h with ⟨h1, m, h⟩ | ⟨h1, h2, ⟨he, h⟩ | ⟨he, h⟩⟩
    · have e5 : u12.toNatClampNeg = 5 := by omega
      rw [e5, ← hall] at hle
      have : u8.toInt ≤ c3.toInt := by
        have := Int.mul_comm c3.toInt c2.toInt
        rw [this] at hle
        exact Int.le_of_mul_le_mul_left hle hpos
      exact q48c m _ _ _ _ _ h hB a0 this (by omega) hM
    · have e1 : (u12 + Int32.ofInt 1).toInt = u12.toInt + 1 := i_inc p0 (by omega)
      have n1 := i_nat (a := u12 + Int32.ofInt 1) (by omega)
      have ek : (u12 + Int32.ofInt 1).toNatClampNeg = u12.toNatClampNeg + 1 := by omega
      rw [ez] at h
      refine IH _ _ _ _ _ h hB (by omega) (by omega) (fun i hi => hsame i (by omega)) a0 (by omega) ?_ hM
      rw [ek]
      show _ ≤ c3.toInt * (os σ0 c1 u12.toNatClampNeg + @ite _ _ (Classical.propDecidable _) _ _)
      rw [if_pos he, Int.add_zero]
      exact hle
    · have e1 : (u12 + Int32.ofInt 1).toInt = u12.toInt + 1 := i_inc p0 (by omega)
      have n1 := i_nat (a := u12 + Int32.ofInt 1) (by omega)
      have ek : (u12 + Int32.ofInt 1).toNatClampNeg = u12.toNatClampNeg + 1 := by omega
      have sh := hB.2 (u12.toNatClampNeg + 1) (by omega)
      have hBB := hB.1
      have ss := hsame u12.toNatClampNeg (Nat.le_refl _)
      have core : ∀ (q v5 : Int64) (σ6 : mS), q = (c3 * m_l τ 6 (u12.toNatClampNeg + 1) 4) / c2 → P47 τ (some (6, u12.toNatClampNeg + 1)) q v5 σ6 → Q48_91 c1 c2 c3 (Int32.ofInt 5) n (u8 + v5) (u12 + Int32.ofInt 1) σ6 w σ' → sm σ' + w = M ∧ shB B σ' ∧ (0 ≤ w.toInt ∧ w.toInt ≤ c3.toInt) ∧ fw_e (wl [(6, 4)]) τ σ' := by
        intro q v5 σ6 hq p h
        have m0 : 0 ≤ c3.toInt * (m_l τ 6 (u12.toNatClampNeg + 1) 4).toInt := Int.mul_nonneg hmost.1 sh.1
        have m1 : c3.toInt * (m_l τ 6 (u12.toNatClampNeg + 1) 4).toInt ≤ 5000000000 * 1000000000 := Int.mul_le_mul (by omega) (by omega) sh.1 (by omega)
        have em : (c3 * m_l τ 6 (u12.toNatClampNeg + 1) 4).toInt = c3.toInt * (m_l τ 6 (u12.toNatClampNeg + 1) 4).toInt := l_mul (by omega) (by omega)
        have d0 : 0 ≤ c3.toInt * (m_l τ 6 (u12.toNatClampNeg + 1) 4).toInt / c2.toInt := Int.ediv_nonneg m0 (by omega)
        have d1 : c3.toInt * (m_l τ 6 (u12.toNatClampNeg + 1) 4).toInt / c2.toInt ≤ c3.toInt * (m_l τ 6 (u12.toNatClampNeg + 1) 4).toInt := Int.ediv_le_self _ m0
        have eq : q.toInt = c3.toInt * (m_l τ 6 (u12.toNatClampNeg + 1) 4).toInt / c2.toInt := by
          rw [hq, Int64.toInt_div, em, Int.tdiv_eq_ediv_of_nonneg m0]
          exact bmod64 (by omega) (by omega)
        obtain ⟨g1, g2, g3, g4, g5⟩ := j47 (by omega) hB (by omega) p
        have ea : (u8 + v5).toInt = u8.toInt + v5.toInt := l_add (by omega) (by omega)
        have hv : c2.toInt * v5.toInt ≤ c3.toInt * (m_l τ 6 (u12.toNatClampNeg + 1) 4).toInt := by
          have a : c2.toInt * v5.toInt ≤ c2.toInt * q.toInt := Int.mul_le_mul_of_nonneg_left g3.2.1 (by omega)
          have b : c2.toInt * (c3.toInt * (m_l τ 6 (u12.toNatClampNeg + 1) 4).toInt / c2.toInt) ≤ c3.toInt * (m_l τ 6 (u12.toNatClampNeg + 1) 4).toInt := Int.mul_ediv_self_le (by omega)
          rw [eq] at a
          omega
        obtain ⟨r1, r2, r3, r4⟩ := IH _ _ _ _ _ h g2 (by omega) (by omega) (fun i hi => by rw [g4 (i + 1) (by omega)]; exact hsame i (by omega)) (by omega) (by omega) (by
          rw [ek, ea]
          show _ ≤ c3.toInt * (os σ0 c1 u12.toNatClampNeg + @ite _ _ (Classical.propDecidable _) _ _)
          rw [if_neg he, Int.mul_add, Int.mul_add, ← ss]
          omega) (by rw [← hM, ← g1]; grind)
        exact ⟨r1, r2, r3, g5.tr r4⟩
      first
        | (obtain ⟨v5, σ6, F, p, h⟩ := h; exact core _ v5 σ6 rfl p h)
        | (obtain ⟨q, hq, v5, σ6, F, p, h⟩ := h; exact core q v5 σ6 hq p h)
theorem q48a {B : Int} {c1 : mR} {c2 : Int64} {M : Int64} (h2 : 0 ≤ c2.toInt) : ∀ n (u4 : Int64) (u8 : Int32) (τ : mS) (w : Int64) (σ' : mS), Q48_17 c1 c2 (Int32.ofInt 5) n u4 u8 τ w σ' → shB B τ → 0 ≤ u8.toInt → u8.toInt ≤ 5 → u4.toInt = os τ c1 u8.toNatClampNeg → sm τ = M → sm σ' + w = M ∧ shB B σ' ∧ (0 ≤ w.toInt ∧ w.toInt ≤ c2.toInt ∧ w.toInt ≤ 5000000000) ∧ fw_e (wl [(6, 4)]) τ σ' := by
  have i5 : (Int32.ofInt 5).toInt = 5 := by decide
  have z0 := l_0
  intro n
  induction n with
  | zero => intro u4 u8 τ w σ' h; exact h.elim
  | succ n IH =>
    intro u4 u8 τ w σ' h hB p0 p5 hu hM
    have h : B48_17 c1 c2 (Int32.ofInt 5) (Q48_17 c1 c2 (Int32.ofInt 5) n) u4 u8 τ w σ' := h
    have n8 := i_nat p0
    have ob := os_b (c1 := c1) hB u8.toNatClampNeg (by omega)
    rcases h with ⟨h1, ⟨hpos, m, h⟩ | ⟨_, rfl, rfl⟩⟩ | ⟨h1, hr, ⟨he, h⟩ | ⟨he, h⟩⟩
    · have e5 : u8.toNatClampNeg = 5 := by omega
      rw [e5] at hu ob
      have hc := lmin_c c2 u4
      have zn : (Int32.ofInt 0).toNatClampNeg = 0 := by decide
      obtain ⟨r1, r2, r3, r4⟩ := q48b (M := M) hB hu (by omega) (by omega) m _ _ _ _ _ h hB (by rw [i_0]; omega) (by rw [i_0]; omega) (fun i _ => rfl) (by omega) (by rw [i_0]; omega) (by rw [zn, z0, Int.mul_zero]; show 0 ≤ (lmin c2 u4).toInt * 0; rw [Int.mul_zero]; exact Int.le_refl _) (by rw [← hM]; exact l_z _)
      exact ⟨r1, r2, by omega, r4⟩
    · refine ⟨?_, hB, by omega, fw_e.rf'⟩
      rw [← hM]
      exact l_z _
    · have e1 : (u8 + Int32.ofInt 1).toInt = u8.toInt + 1 := i_inc p0 (by omega)
      have n1 := i_nat (a := u8 + Int32.ofInt 1) (by omega)
      have ek : (u8 + Int32.ofInt 1).toNatClampNeg = u8.toNatClampNeg + 1 := by omega
      refine IH _ _ _ _ _ h hB (by omega) (by omega) ?_ hM
      rw [ek, l_add (by omega) (by omega)]
      show _ = os τ c1 u8.toNatClampNeg + @ite _ _ (Classical.propDecidable _) _ _
      rw [if_pos he]
      omega
    · have e1 : (u8 + Int32.ofInt 1).toInt = u8.toInt + 1 := i_inc p0 (by omega)
      have n1 := i_nat (a := u8 + Int32.ofInt 1) (by omega)
      have ek : (u8 + Int32.ofInt 1).toNatClampNeg = u8.toNatClampNeg + 1 := by omega
      have sh := hB.2 (u8.toNatClampNeg + 1) (by omega)
      have hBB := hB.1
      have core : ∀ v : Int64, v = u4 + m_l τ 6 (u8.toNatClampNeg + 1) 4 → Q48_17 c1 c2 (Int32.ofInt 5) n v (u8 + Int32.ofInt 1) τ w σ' → sm σ' + w = M ∧ shB B σ' ∧ (0 ≤ w.toInt ∧ w.toInt ≤ c2.toInt ∧ w.toInt ≤ 5000000000) ∧ fw_e (wl [(6, 4)]) τ σ' := by
        intro v hv h
        refine IH _ _ _ _ _ h hB (by omega) (by omega) ?_ hM
        rw [ek, hv, l_add (by omega) (by omega)]
        show _ = os τ c1 u8.toNatClampNeg + @ite _ _ (Classical.propDecidable _) _ _
        rw [if_neg he]
        omega
      first
        | exact core _ rfl h
        | (obtain ⟨v, hv, h⟩ := h; exact core v hv h)
theorem j48 {B : Int} {σ σ' : mS} {c1 : mR} {x w : Int64} (hB : shB B σ) (hx : 0 ≤ x.toInt) (h : P48 σ c1 x w σ') : sm σ' + w = sm σ ∧ shB B σ' ∧ (0 ≤ w.toInt ∧ w.toInt ≤ x.toInt ∧ w.toInt ≤ 5000000000) ∧ fw_e (wl [(6, 4)]) σ σ' := by
  obtain ⟨n, h⟩ := h
  have zn : (Int32.ofInt 0).toNatClampNeg = 0 := by decide
  exact q48a hx n _ _ _ _ _ h hB (by rw [i_0]; omega) (by rw [i_0]; omega) (by rw [zn, l_0]; rfl) rfl
