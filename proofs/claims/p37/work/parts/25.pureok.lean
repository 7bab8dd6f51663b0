/-! the pure instructions of the analysis hold of the model -/
theorem ab_bm32 {n : Int} (h1 : -2147483648 ≤ n) (h2 : n ≤ 2147483647) : n.bmod (2 ^ 32) = n := Int.bmod_eq_of_le (by omega) (by omega)
theorem ab_bm64 {n : Int} (h1 : -9223372036854775808 ≤ n) (h2 : n ≤ 9223372036854775807) : n.bmod (2 ^ 64) = n := Int.bmod_eq_of_le (by omega) (by omega)
theorem ab_i32_add {x y : Int32} (h1 : -2147483648 ≤ x.toInt + y.toInt) (h2 : x.toInt + y.toInt ≤ 2147483647) : (x + y).toInt = x.toInt + y.toInt := by rw [Int32.toInt_add, ab_bm32 h1 h2]
theorem ab_i32_sub {x y : Int32} (h1 : -2147483648 ≤ x.toInt - y.toInt) (h2 : x.toInt - y.toInt ≤ 2147483647) : (x - y).toInt = x.toInt - y.toInt := by rw [Int32.toInt_sub, ab_bm32 h1 h2]
theorem ab_i32_mul {x y : Int32} (h1 : -2147483648 ≤ x.toInt * y.toInt) (h2 : x.toInt * y.toInt ≤ 2147483647) : (x * y).toInt = x.toInt * y.toInt := by rw [Int32.toInt_mul, ab_bm32 h1 h2]
theorem ab_i32_neg {x : Int32} (h1 : -2147483648 ≤ -x.toInt) (h2 : -x.toInt ≤ 2147483647) : (-x).toInt = -x.toInt := by rw [Int32.toInt_neg, ab_bm32 h1 h2]
theorem ab_i64_add {x y : Int64} (h1 : -9223372036854775808 ≤ x.toInt + y.toInt) (h2 : x.toInt + y.toInt ≤ 9223372036854775807) : (x + y).toInt = x.toInt + y.toInt := by rw [Int64.toInt_add, ab_bm64 h1 h2]
theorem ab_i64_sub {x y : Int64} (h1 : -9223372036854775808 ≤ x.toInt - y.toInt) (h2 : x.toInt - y.toInt ≤ 9223372036854775807) : (x - y).toInt = x.toInt - y.toInt := by rw [Int64.toInt_sub, ab_bm64 h1 h2]
theorem ab_i64_mul {x y : Int64} (h1 : -9223372036854775808 ≤ x.toInt * y.toInt) (h2 : x.toInt * y.toInt ≤ 9223372036854775807) : (x * y).toInt = x.toInt * y.toInt := by rw [Int64.toInt_mul, ab_bm64 h1 h2]
theorem ab_i64_neg {x : Int64} (h1 : -9223372036854775808 ≤ -x.toInt) (h2 : -x.toInt ≤ 9223372036854775807) : (-x).toInt = -x.toInt := by rw [Int64.toInt_neg, ab_bm64 h1 h2]
theorem ab_i32_div {x y : Int32} (hy : 1 ≤ y.toInt) : (x / y).toInt = x.toInt.tdiv y.toInt := Int32.toInt_div_of_ne_right x y (fun z => by rw [z] at hy; exact absurd hy (by decide))
theorem ab_i64_div {x y : Int64} (hy : 1 ≤ y.toInt) : (x / y).toInt = x.toInt.tdiv y.toInt := Int64.toInt_div_of_ne_right x y (fun z => by rw [z] at hy; exact absurd hy (by decide))
theorem ab_remb {x y : Int} (hy : 1 ≤ y) : x.tdiv y * y = x - x.tmod y ∧ ((0 ≤ x.tmod y ∧ x.tmod y ≤ x) ∨ (x ≤ x.tmod y ∧ x.tmod y ≤ 0)) := by
  have hd := Int.tmod_def x y
  have hc : x.tdiv y * y = y * x.tdiv y := Int.mul_comm _ _
  refine ⟨by omega, ?_⟩
  rcases Int.le_total 0 x with hx | hx
  · have a1 := ab_tdiv_nn hx hy
    have a2 := ab_tmod_nn hx hy
    have a3 := Int.mul_nonneg (show 0 ≤ y by omega) a1.1
    exact Or.inl (by omega)
  · have a1 := ab_tdiv_np hx hy
    have a2 := ab_tmod_np hx hy
    have a3 := Int.mul_nonneg (show 0 ≤ y by omega) (show 0 ≤ -(x.tdiv y) by omega)
    rw [Int.mul_neg] at a3
    exact Or.inr (by omega)
theorem ab_i32_rem {x y : Int32} (hy : 1 ≤ y.toInt) : (x - x / y * y).toInt = x.toInt.tmod y.toInt := by
  obtain ⟨h1, h2⟩ := ab_remb (x := x.toInt) hy
  have b := And.intro (Int32.le_toInt x) (Int32.toInt_lt x)
  have hm : (x / y * y).toInt = x.toInt - x.toInt.tmod y.toInt := by
    rw [Int32.toInt_mul, ab_i32_div hy, h1, ab_bm32 (by omega) (by omega)]
  rw [Int32.toInt_sub, hm, ab_bm32 (by omega) (by omega)]
  omega
theorem ab_i64_rem {x y : Int64} (hy : 1 ≤ y.toInt) : (x - x / y * y).toInt = x.toInt.tmod y.toInt := by
  obtain ⟨h1, h2⟩ := ab_remb (x := x.toInt) hy
  have b := And.intro (Int64.le_toInt x) (Int64.toInt_lt x)
  have hm : (x / y * y).toInt = x.toInt - x.toInt.tmod y.toInt := by
    rw [Int64.toInt_mul, ab_i64_div hy, h1, ab_bm64 (by omega) (by omega)]
  rw [Int64.toInt_sub, hm, ab_bm64 (by omega) (by omega)]
  omega
theorem ab_i32_of {x : Int64} (h1 : -2147483648 ≤ x.toInt) (h2 : x.toInt ≤ 2147483647) : x.toInt32.toInt = x.toInt := by rw [Int64.toInt_toInt32, ab_bm32 h1 h2]
section AB9
variable {xs : ab_X} {C : ab_C} {ν : ab_N} {L : List (Option ab_V)} {Lc : List (Option mV)} {st : List ab_V} {sc : List mV} {pc i : Nat} {r : mRow} {q : ab_C × Nat × List (Option ab_V) × List ab_V}
theorem ab_lo_i (h : ab_cx xs C ν) (hL : ab_Ls C.1.length ν L Lc) (hs : ab_Vs C.1.length ν st sc) (hq : ab_lo 0 C pc L i st = some q) : ab_po xs C ν q (m_nx pc Lc (m_ldi Lc i sc)) := by
  unfold ab_lo at hq
  split at hq
  · rename_i e he
    cases hq
    obtain ⟨x, h1, h2⟩ := hL.ld he
    obtain ⟨y, rfl, h3⟩ := ab_Vi h2
    have e1 : m_ldi Lc i sc = some (.inl y :: sc) := by unfold m_ldi; rw [h1]
    rw [e1]
    exact ab_k_ok h hL hs h2
  · cases hq
  · cases hq
  · cases hq
theorem ab_lo_l (h : ab_cx xs C ν) (hL : ab_Ls C.1.length ν L Lc) (hs : ab_Vs C.1.length ν st sc) (hq : ab_lo 1 C pc L i st = some q) : ab_po xs C ν q (m_nx pc Lc (m_ldl Lc i sc)) := by
  unfold ab_lo at hq
  split at hq
  · cases hq
  · rename_i e he
    cases hq
    obtain ⟨x, h1, h2⟩ := hL.ld he
    obtain ⟨y, rfl, h3⟩ := ab_Vl h2
    have e1 : m_ldl Lc i sc = some (.inr (.inl y) :: sc) := by unfold m_ldl; rw [h1]
    rw [e1]
    exact ab_k_ok h hL hs h2
  · cases hq
  · cases hq
theorem ab_lo_a (h : ab_cx xs C ν) (hL : ab_Ls C.1.length ν L Lc) (hs : ab_Vs C.1.length ν st sc) (hq : ab_lo 2 C pc L i st = some q) : ab_po xs C ν q (m_nx pc Lc (m_lda Lc i sc)) := by
  unfold ab_lo at hq
  split at hq
  · cases hq
  · cases hq
  · rename_i e he
    cases hq
    obtain ⟨x, h1, h2⟩ := hL.ld he
    obtain ⟨y, rfl, h3⟩ := ab_Va h2
    have e1 : m_lda Lc i sc = some (.inr (.inr y) :: sc) := by unfold m_lda; rw [h1]
    rw [e1]
    exact ab_k_ok h hL hs h2
  · cases hq
theorem ab_si_i (h : ab_cx xs C ν) (hL : ab_Ls C.1.length ν L Lc) (hs : ab_Vs C.1.length ν st sc) (hq : ab_si 0 C pc L i st = some q) : ab_po xs C ν q (m_ny pc (m_sti Lc i sc)) := by
  unfold ab_si at hq
  split at hq
  · rename_i e st'
    cases hb : (Nat.beq 0 0 && Nat.blt i L.length) with
    | false => rw [hb] at hq; cases hq
    | true =>
      rw [hb] at hq
      cases hq
      rw [Bool.and_eq_true, Nat.blt_eq] at hb
      obtain ⟨x, s', rfl, g1, g2⟩ := ab_Vs_i hs
      have e1 : m_sti Lc i (.inl x :: s') = some (m_sto Lc i (.inl x), s') := if_pos (by rw [hL.1]; exact hb.2)
      rw [e1]
      exact ⟨ν, _, s', rfl, ab_up.rf h, hL.sto (x := .inl x) g1, g2⟩
  · cases hq
  · cases hq
  · cases hq
theorem ab_si_l (h : ab_cx xs C ν) (hL : ab_Ls C.1.length ν L Lc) (hs : ab_Vs C.1.length ν st sc) (hq : ab_si 1 C pc L i st = some q) : ab_po xs C ν q (m_ny pc (m_stl Lc i sc)) := by
  unfold ab_si at hq
  split at hq
  · cases hq
  · rename_i e st'
    cases hb : (Nat.beq 1 1 && Nat.blt (i + 1) L.length) with
    | false => rw [hb] at hq; cases hq
    | true =>
      rw [hb] at hq
      cases hq
      rw [Bool.and_eq_true, Nat.blt_eq] at hb
      obtain ⟨x, s', rfl, g1, g2⟩ := ab_Vs_l hs
      have e1 : m_stl Lc i (.inr (.inl x) :: s') = some (m_sto2 Lc i (.inr (.inl x)), s') := if_pos (by rw [hL.1]; exact hb.2)
      rw [e1]
      exact ⟨ν, _, s', rfl, ab_up.rf h, hL.sto2 (x := .inr (.inl x)) g1, g2⟩
  · cases hq
  · cases hq
theorem ab_si_a (h : ab_cx xs C ν) (hL : ab_Ls C.1.length ν L Lc) (hs : ab_Vs C.1.length ν st sc) (hq : ab_si 2 C pc L i st = some q) : ab_po xs C ν q (m_ny pc (m_sta Lc i sc)) := by
  unfold ab_si at hq
  split at hq
  · cases hq
  · cases hq
  · rename_i e st'
    cases hb : (Nat.beq 2 2 && Nat.blt i L.length) with
    | false => rw [hb] at hq; cases hq
    | true =>
      rw [hb] at hq
      cases hq
      rw [Bool.and_eq_true, Nat.blt_eq] at hb
      obtain ⟨x, s', rfl, g1, g2⟩ := ab_Vs_a hs
      have e1 : m_sta Lc i (.inr (.inr x) :: s') = some (m_sto Lc i (.inr (.inr x)), s') := if_pos (by rw [hL.1]; exact hb.2)
      rw [e1]
      exact ⟨ν, _, s', rfl, ab_up.rf h, hL.sto (x := .inr (.inr x)) g1, g2⟩
  · cases hq
theorem ab_n32_ok {x : Int64} {e : ab_E} (h : ab_cx xs C ν) (he : ab_I C.1.length ν e x.toInt) : ab_ok xs C ν (ab_n32 C e) x.toInt32.toInt := by
  unfold ab_n32
  have b1 := ab_iv_ok h.1 he
  cases hb : (ab_le (-2147483648) (ab_iv C.1 e).1 && ab_le (ab_iv C.1 e).2 2147483647) with
  | true =>
    rw [Bool.and_eq_true, ab_le_ok, ab_le_ok] at hb
    rw [ab_i32_of (by omega) (by omega)]
    exact ab_ok.rf h he
  | false => exact ab_fr_ok h (ab_r32 _).1 (ab_r32 _).2
theorem ab_xor_ok {x y : Int32} (hx : 0 ≤ x.toInt) (hy : 0 ≤ y.toInt) : 0 ≤ (x ^^^ y).toInt := by
  have h1 : x.toBitVec.msb = false := by rw [BitVec.msb_eq_toInt]; exact decide_eq_false (by show ¬ x.toInt < 0; omega)
  have h2 : y.toBitVec.msb = false := by rw [BitVec.msb_eq_toInt]; exact decide_eq_false (by show ¬ y.toInt < 0; omega)
  have h3 : (x ^^^ y).toBitVec.msb = false := by
    show (x.toBitVec ^^^ y.toBitVec).msb = false
    rw [BitVec.msb_xor, h1, h2]; rfl
  rw [BitVec.msb_eq_toInt] at h3
  have h4 := of_decide_eq_false h3
  have h5 : ¬ (x ^^^ y).toInt < 0 := h4
  omega
set_option maxHeartbeats 4000000 in
theorem ab_pu_ok (h : ab_cx xs C ν) (hL : ab_Ls C.1.length ν L Lc) (hs : ab_Vs C.1.length ν st sc) (hq : ab_pu r pc C L st = some q) : m_cond r sc = none ∧ ab_po xs C ν q (m_pure r pc Lc sc) := by
  obtain ⟨ig, ln, ra, rb, rz, rp⟩ := r
  unfold ab_pu at hq
  dsimp only at hq
  split at hq
  · -- aconst_null
    cases hq
    exact ⟨rfl, ab_k_ok (x := .inr (.inr none)) h hL hs ⟨h.2.1, h.2.1, by show ν 0 + 0 = 0; rw [h.1.1]; rfl⟩⟩
  · -- iconst
    rename_i z
    cases hb : ab_c32 z with
    | false => rw [hb] at hq; cases hq
    | true =>
      rw [hb] at hq
      cases hq
      exact ⟨rfl, ab_k_ok (x := .inl (Int32.ofInt z)) h hL hs (by show ab_I _ _ _ _; rw [ab_ofI (ab_c32_ok hb)]; exact ab_con h)⟩
  · -- bipush
    rename_i z
    cases hb : (ab_le (-128) z && ab_le z 127) with
    | false => rw [hb] at hq; cases hq
    | true =>
      rw [hb] at hq
      cases hq
      rw [Bool.and_eq_true, ab_le_ok, ab_le_ok] at hb
      exact ⟨rfl, ab_k_ok (x := .inl (Int8.ofInt z).toInt32) h hL hs (by show ab_I _ _ _ _; rw [ab_of8 hb]; exact ab_con h)⟩
  · -- sipush
    rename_i z
    cases hb : (ab_le (-32768) z && ab_le z 32767) with
    | false => rw [hb] at hq; cases hq
    | true =>
      rw [hb] at hq
      cases hq
      rw [Bool.and_eq_true, ab_le_ok, ab_le_ok] at hb
      exact ⟨rfl, ab_k_ok (x := .inl (Int16.ofInt z).toInt32) h hL hs (by show ab_I _ _ _ _; rw [ab_of16 hb]; exact ab_con h)⟩
  · -- lconst
    rename_i z
    cases hq
    exact ⟨rfl, ab_k_ok (x := .inr (.inl (Int64.ofNat (z : Nat)))) h hL hs (by show ab_I _ _ _ _; rw [Int64.toInt_ofNat_of_lt (by have := z.isLt; omega)]; exact ab_con h)⟩
  · -- ldc
    cases hb : (!(Nat.beq ra 1) && ab_c32 rz) with
    | false => rw [hb] at hq; cases hq
    | true =>
      rw [hb] at hq
      cases hq
      rw [Bool.and_eq_true, Bool.not_eq_true'] at hb
      have hne : ¬ ra = 1 := fun z => by rw [z] at hb; cases hb.1
      refine ⟨rfl, ?_⟩
      show ab_po xs C ν _ (if ra = 1 then none else some (pc + 2, Lc, .inl (Int32.ofInt rz) :: sc))
      rw [if_neg hne]
      exact ab_k_ok h hL hs (by show ab_I _ _ _ _; rw [ab_ofI (ab_c32_ok hb.2)]; exact ab_con h)
  · -- ldc_w
    cases hb : (!(Nat.beq ra 1) && ab_c32 rz) with
    | false => rw [hb] at hq; cases hq
    | true =>
      rw [hb] at hq
      cases hq
      rw [Bool.and_eq_true, Bool.not_eq_true'] at hb
      have hne : ¬ ra = 1 := fun z => by rw [z] at hb; cases hb.1
      refine ⟨rfl, ?_⟩
      show ab_po xs C ν _ (if ra = 1 then none else some (pc + 3, Lc, .inl (Int32.ofInt rz) :: sc))
      rw [if_neg hne]
      exact ab_k_ok h hL hs (by show ab_I _ _ _ _; rw [ab_ofI (ab_c32_ok hb.2)]; exact ab_con h)
  · -- ldc2_w
    cases hb : ab_c64 rz with
    | false => rw [hb] at hq; cases hq
    | true =>
      rw [hb] at hq
      cases hq
      exact ⟨rfl, ab_k_ok (x := .inr (.inl (Int64.ofInt rz))) h hL hs (by show ab_I _ _ _ _; rw [ab_ofL64 (ab_c64_ok hb)]; exact ab_con h)⟩
  · exact ⟨rfl, ab_lo_i h hL hs hq⟩
  · exact ⟨rfl, ab_lo_i h hL hs hq⟩
  · exact ⟨rfl, ab_lo_l h hL hs hq⟩
  · exact ⟨rfl, ab_lo_l h hL hs hq⟩
  · exact ⟨rfl, ab_lo_a h hL hs hq⟩
  · exact ⟨rfl, ab_lo_a h hL hs hq⟩
  · exact ⟨rfl, ab_si_i h hL hs hq⟩
  · exact ⟨rfl, ab_si_i h hL hs hq⟩
  · exact ⟨rfl, ab_si_l h hL hs hq⟩
  · exact ⟨rfl, ab_si_l h hL hs hq⟩
  · exact ⟨rfl, ab_si_a h hL hs hq⟩
  · exact ⟨rfl, ab_si_a h hL hs hq⟩
  · -- iinc
    rename_i i z
    split at hq
    · rename_i e he
      cases hb : ab_c32 z with
      | false => rw [hb] at hq; cases hq
      | true =>
        rw [hb] at hq
        cases hq
        obtain ⟨x, h1, h2⟩ := hL.ld he
        obtain ⟨y, rfl, h3⟩ := ab_Vi h2
        have hz := ab_ofI (ab_c32_ok hb)
        obtain ⟨ν', u, g⟩ := ab_add_ok (m := -2147483648) (M := 2147483647) h h3 (f := (0, z)) (y := z) (ab_con h) (z := (y + Int32.ofInt z).toInt) (fun a1 a2 => (ab_i32_add (x := y) (y := Int32.ofInt z) (by rw [hz]; exact a1) (by rw [hz]; exact a2)).trans (by rw [hz])) (ab_r32 _)
        have e1 : m_pure (.iinc i z, ln, ra, rb, rz, rp) pc Lc sc = some (pc + 3, m_sto Lc i (.inl (y + Int32.ofInt z)), sc) := by
          show (match m_ld Lc i with | some (.inl x) => if i < Lc.length then some (pc + 3, m_sto Lc i (.inl (x + Int32.ofInt z)), sc) else none | _ => none) = _
          rw [h1]
          exact if_pos (m_ld_lt h1)
        refine ⟨rfl, ?_⟩
        rw [e1]
        exact ⟨ν', _, sc, rfl, u, (hL.ex u.2.1 u.2.2).sto (x := .inl _) g, hs.ex u.2.1 u.2.2⟩
    · cases hq
  · -- iadd
    split at hq
    · obtain ⟨y, s1, rfl, g1, g2⟩ := ab_Vs_i hs
      obtain ⟨x, s2, rfl, g3, g4⟩ := ab_Vs_i g2
      exact ⟨rfl, ab_pi_ok (z := x + y) hL g4 (ab_add_ok h g3 g1 (fun a1 a2 => ab_i32_add (by omega) (by omega)) (ab_r32 _)) hq⟩
    · cases hq
  · -- isub
    split at hq
    · obtain ⟨y, s1, rfl, g1, g2⟩ := ab_Vs_i hs
      obtain ⟨x, s2, rfl, g3, g4⟩ := ab_Vs_i g2
      exact ⟨rfl, ab_pi_ok (z := x - y) hL g4 (ab_sub_ok h g3 g1 (fun a1 a2 => ab_i32_sub (by omega) (by omega)) (ab_r32 _)) hq⟩
    · cases hq
  · -- imul
    split at hq
    · obtain ⟨y, s1, rfl, g1, g2⟩ := ab_Vs_i hs
      obtain ⟨x, s2, rfl, g3, g4⟩ := ab_Vs_i g2
      exact ⟨rfl, ab_pi_ok (z := x * y) hL g4 (ab_mul_ok h g3 g1 (ab_r32 _) (ab_r32 _) (fun a1 a2 => ab_i32_mul (by omega) (by omega)) (ab_r32 _)) hq⟩
    · cases hq
  · -- idiv
    split at hq
    · rename_i f e st'
      cases hb : ab_le 1 (ab_iv C.1 f).1 with
      | false => rw [hb] at hq; cases hq
      | true =>
        rw [hb] at hq
        rw [ab_le_ok] at hb
        obtain ⟨y, s1, rfl, g1, g2⟩ := ab_Vs_i hs
        obtain ⟨x, s2, rfl, g3, g4⟩ := ab_Vs_i g2
        have hy := ab_iv_ok h.1 g1
        have hne : ¬ y = 0 := fun z => by rw [z] at hy; have : Int32.toInt 0 = 0 := rfl; omega
        refine ⟨rfl, ?_⟩
        show ab_po xs C ν q (if y = 0 then none else some (pc + 1, Lc, .inl (x / y) :: s2))
        rw [if_neg hne]
        exact ab_pi_ok (z := x / y) hL g4 (ab_div_ok h g3 g1 (by omega) (ab_i32_div (by omega))) hq
    · cases hq
  · -- irem
    split at hq
    · rename_i f e st'
      cases hb : ab_le 1 (ab_iv C.1 f).1 with
      | false => rw [hb] at hq; cases hq
      | true =>
        rw [hb] at hq
        rw [ab_le_ok] at hb
        obtain ⟨y, s1, rfl, g1, g2⟩ := ab_Vs_i hs
        obtain ⟨x, s2, rfl, g3, g4⟩ := ab_Vs_i g2
        have hy := ab_iv_ok h.1 g1
        have hne : ¬ y = 0 := fun z => by rw [z] at hy; have : Int32.toInt 0 = 0 := rfl; omega
        refine ⟨rfl, ?_⟩
        show ab_po xs C ν q (if y = 0 then none else some (pc + 1, Lc, .inl (x - x / y * y) :: s2))
        rw [if_neg hne]
        exact ab_pi_ok (z := x - x / y * y) hL g4 (ab_rem_ok h g3 g1 (by omega) (ab_i32_rem (by omega))) hq
    · cases hq
  · -- iand
    split at hq
    · rename_i f e st'
      cases hb : (Nat.beq f.1 0 && (ab_le f.2 63 && ab_le 63 f.2)) with
      | false => rw [hb] at hq; cases hq
      | true =>
        rw [hb] at hq
        simp only [Bool.and_eq_true, ab_le_ok] at hb
        obtain ⟨y, s1, rfl, g1, g2⟩ := ab_Vs_i hs
        obtain ⟨x, s2, rfl, g3, g4⟩ := ab_Vs_i g2
        have hf := Nat.eq_of_beq_eq_true hb.1
        have hy : y.toInt = 63 := by rw [g1.2, hf, h.1.1]; omega
        have hy2 : y = 63 := Int32.toInt_inj.mp hy
        subst hy2
        obtain ⟨j, hj, hm⟩ := pk_andE x (m := 63) 6 (by decide)
        have hm2 : (x &&& 63).toInt = (j : Int) := by rw [hm, nI_toInt (by omega)]
        exact ⟨rfl, ab_pi_ok (z := x &&& 63) hL g4 (ab_fr_ok h (by omega) (by omega)) hq⟩
    · cases hq
  · -- ixor
    split at hq
    · rename_i f e st'
      obtain ⟨y, s1, rfl, g1, g2⟩ := ab_Vs_i hs
      obtain ⟨x, s2, rfl, g3, g4⟩ := ab_Vs_i g2
      cases hb : (ab_le 0 (ab_iv C.1 e).1 && ab_le 0 (ab_iv C.1 f).1) with
      | false =>
        rw [hb] at hq
        exact ⟨rfl, ab_pi_ok (z := x ^^^ y) hL g4 (ab_fr_ok h (ab_r32 _).1 (ab_r32 _).2) hq⟩
      | true =>
        rw [hb] at hq
        rw [Bool.and_eq_true, ab_le_ok, ab_le_ok] at hb
        have hy := ab_iv_ok h.1 g1
        have hx := ab_iv_ok h.1 g3
        exact ⟨rfl, ab_pi_ok (z := x ^^^ y) hL g4 (ab_fr_ok h (ab_xor_ok (by omega) (by omega)) (ab_r32 _).2) hq⟩
    · cases hq
  · -- ineg
    split at hq
    · obtain ⟨x, s2, rfl, g3, g4⟩ := ab_Vs_i hs
      exact ⟨rfl, ab_pi_ok (z := -x) hL g4 (ab_neg_ok h g3 (fun a1 a2 => ab_i32_neg (by omega) (by omega)) (ab_r32 _)) hq⟩
    · cases hq
  · -- ladd
    split at hq
    · obtain ⟨y, s1, rfl, g1, g2⟩ := ab_Vs_l hs
      obtain ⟨x, s2, rfl, g3, g4⟩ := ab_Vs_l g2
      exact ⟨rfl, ab_pl_ok (z := x + y) hL g4 (ab_add_ok h g3 g1 (fun a1 a2 => ab_i64_add (by omega) (by omega)) (ab_r64 _)) hq⟩
    · cases hq
  · -- lsub
    split at hq
    · obtain ⟨y, s1, rfl, g1, g2⟩ := ab_Vs_l hs
      obtain ⟨x, s2, rfl, g3, g4⟩ := ab_Vs_l g2
      exact ⟨rfl, ab_pl_ok (z := x - y) hL g4 (ab_sub_ok h g3 g1 (fun a1 a2 => ab_i64_sub (by omega) (by omega)) (ab_r64 _)) hq⟩
    · cases hq
  · -- lmul
    split at hq
    · obtain ⟨y, s1, rfl, g1, g2⟩ := ab_Vs_l hs
      obtain ⟨x, s2, rfl, g3, g4⟩ := ab_Vs_l g2
      exact ⟨rfl, ab_pl_ok (z := x * y) hL g4 (ab_mul_ok h g3 g1 (ab_r64 _) (ab_r64 _) (fun a1 a2 => ab_i64_mul (by omega) (by omega)) (ab_r64 _)) hq⟩
    · cases hq
  · -- ldiv
    split at hq
    · rename_i f e st'
      cases hb : ab_le 1 (ab_iv C.1 f).1 with
      | false => rw [hb] at hq; cases hq
      | true =>
        rw [hb] at hq
        rw [ab_le_ok] at hb
        obtain ⟨y, s1, rfl, g1, g2⟩ := ab_Vs_l hs
        obtain ⟨x, s2, rfl, g3, g4⟩ := ab_Vs_l g2
        have hy := ab_iv_ok h.1 g1
        have hne : ¬ y = 0 := fun z => by rw [z] at hy; have : Int64.toInt 0 = 0 := rfl; omega
        refine ⟨rfl, ?_⟩
        show ab_po xs C ν q (if y = 0 then none else some (pc + 1, Lc, .inr (.inl (x / y)) :: s2))
        rw [if_neg hne]
        exact ab_pl_ok (z := x / y) hL g4 (ab_div_ok h g3 g1 (by omega) (ab_i64_div (by omega))) hq
    · cases hq
  · -- lrem
    split at hq
    · rename_i f e st'
      cases hb : ab_le 1 (ab_iv C.1 f).1 with
      | false => rw [hb] at hq; cases hq
      | true =>
        rw [hb] at hq
        rw [ab_le_ok] at hb
        obtain ⟨y, s1, rfl, g1, g2⟩ := ab_Vs_l hs
        obtain ⟨x, s2, rfl, g3, g4⟩ := ab_Vs_l g2
        have hy := ab_iv_ok h.1 g1
        have hne : ¬ y = 0 := fun z => by rw [z] at hy; have : Int64.toInt 0 = 0 := rfl; omega
        refine ⟨rfl, ?_⟩
        show ab_po xs C ν q (if y = 0 then none else some (pc + 1, Lc, .inr (.inl (x - x / y * y)) :: s2))
        rw [if_neg hne]
        exact ab_pl_ok (z := x - x / y * y) hL g4 (ab_rem_ok h g3 g1 (by omega) (ab_i64_rem (by omega))) hq
    · cases hq
  · -- lneg
    split at hq
    · obtain ⟨x, s2, rfl, g3, g4⟩ := ab_Vs_l hs
      exact ⟨rfl, ab_pl_ok (z := -x) hL g4 (ab_neg_ok h g3 (fun a1 a2 => ab_i64_neg (by omega) (by omega)) (ab_r64 _)) hq⟩
    · cases hq
  · -- lcmp
    split at hq
    · rename_i f e st'
      cases hq
      obtain ⟨y, s1, rfl, g1, g2⟩ := ab_Vs_l hs
      obtain ⟨x, s2, rfl, g3, g4⟩ := ab_Vs_l g2
      exact ⟨rfl, ab_k_ok (x := .inl (lg_cmp x y)) h hL g4 ⟨x, y, rfl, g3, g1⟩⟩
    · cases hq
  · -- i2l
    split at hq
    · rename_i e st'
      cases hq
      obtain ⟨x, s2, rfl, g3, g4⟩ := ab_Vs_i hs
      exact ⟨rfl, ab_k_ok (x := .inr (.inl x.toInt64)) h hL g4 (by show ab_I _ _ _ _; rw [Int32.toInt_toInt64]; exact g3)⟩
    · cases hq
  · -- l2i
    split at hq
    · obtain ⟨x, s2, rfl, g3, g4⟩ := ab_Vs_l hs
      exact ⟨rfl, ab_pi_ok (z := x.toInt32) hL g4 (ab_n32_ok h g3) hq⟩
    · cases hq
  · -- dup
    split at hq
    · cases hq
      obtain ⟨x, s2, rfl, g3, g4⟩ := ab_Vs_i hs
      exact ⟨rfl, ν, Lc, .inl x :: .inl x :: s2, rfl, ab_up.rf h, hL, g3, g3, g4⟩
    · cases hq
      obtain ⟨x, s2, rfl, g3, g4⟩ := ab_Vs_a hs
      exact ⟨rfl, ν, Lc, .inr (.inr x) :: .inr (.inr x) :: s2, rfl, ab_up.rf h, hL, g3, g3, g4⟩
    · cases hq
  · -- dup2
    split at hq
    · cases hq
      obtain ⟨x, s2, rfl, g3, g4⟩ := ab_Vs_l hs
      exact ⟨rfl, ν, Lc, .inr (.inl x) :: .inr (.inl x) :: s2, rfl, ab_up.rf h, hL, g3, g3, g4⟩
    · cases hq
      obtain ⟨y, s1, rfl, g1, g2⟩ := ab_Vs_i hs
      obtain ⟨x, s2, rfl, g3, g4⟩ := ab_Vs_a g2
      exact ⟨rfl, ν, Lc, .inl y :: .inr (.inr x) :: .inl y :: .inr (.inr x) :: s2, rfl, ab_up.rf h, hL, g1, g3, g1, g3, g4⟩
    · cases hq
  · -- pop
    split at hq
    · cases hq
      obtain ⟨x, s2, rfl, g3, g4⟩ := ab_Vs_i hs
      exact ⟨rfl, ν, Lc, s2, rfl, ab_up.rf h, hL, g4⟩
    · cases hq
      obtain ⟨x, s2, rfl, g3, g4⟩ := ab_Vs_a hs
      exact ⟨rfl, ν, Lc, s2, rfl, ab_up.rf h, hL, g4⟩
    · cases hq
  · -- pop2
    split at hq
    · cases hq
      obtain ⟨x, s2, rfl, g3, g4⟩ := ab_Vs_l hs
      exact ⟨rfl, ν, Lc, s2, rfl, ab_up.rf h, hL, g4⟩
    · cases hq
  · -- goto
    cases hq
    exact ⟨rfl, ν, Lc, sc, rfl, ab_up.rf h, hL, hs⟩
  · cases hq
end AB9
