/-! locals; instructions that take neither the heap nor a branch -/
def ab_Ls (n : Nat) (ν : ab_N) (L : List (Option ab_V)) (Lc : List (Option mV)) : Prop := Lc.length = L.length ∧ ∀ i v, L[i]? = some (some v) → ∃ x, m_ld Lc i = some x ∧ ab_Vr n ν v x
def ab_ld (L : List (Option ab_V)) (i : Nat) : Option ab_V := match L[i]? with
  | some (some v) => some v
  | _ => none
def ab_clr (L : List (Option ab_V)) (i : Nat) : List (Option ab_V) := match i with
  | 0 => L
  | j + 1 => match ab_ld L j with
    | some (.inr (.inl _)) => L.set j none
    | _ => L
def ab_sto (L : List (Option ab_V)) (i : Nat) (v : ab_V) : List (Option ab_V) := (ab_clr L i).set i (some v)
def ab_sto2 (L : List (Option ab_V)) (i : Nat) (v : ab_V) : List (Option ab_V) := (ab_sto L i v).set (i + 1) none
section AB7
variable {n n' : Nat} {ν ν' : ab_N} {L : List (Option ab_V)} {Lc : List (Option mV)} {i : Nat} {v : ab_V} {x : mV}
theorem ab_Ls.ex (h : ab_Ls n ν L Lc) (g : ab_ex n ν ν') (hn : n ≤ n') : ab_Ls n' ν' L Lc :=
  ⟨h.1, fun i v hv => by obtain ⟨x, h1, h2⟩ := h.2 i v hv; exact ⟨x, h1, h2.ex g hn⟩⟩
theorem ab_ld_at (h : ab_ld L i = some v) : L[i]? = some (some v) := by
  unfold ab_ld at h
  split at h
  · rename_i w hw
    cases h
    exact hw
  · cases h
theorem ab_Ls.ld (h : ab_Ls n ν L Lc) (hv : ab_ld L i = some v) : ∃ x, m_ld Lc i = some x ∧ ab_Vr n ν v x := h.2 i v (ab_ld_at hv)
theorem m_ld_ne {Lc : List (Option mV)} {i j : Nat} {o : Option mV} (h : j ≠ i) : m_ld (Lc.set i o) j = m_ld Lc j := by
  unfold m_ld
  rw [List.getElem?_set_ne (Ne.symm h)]
theorem m_ld_self {Lc : List (Option mV)} {i : Nat} {x : mV} (h : i < Lc.length) : m_ld (Lc.set i (some x)) i = some x := by
  unfold m_ld
  rw [List.getElem?_set_self h]
theorem m_ld_lt {Lc : List (Option mV)} {i : Nat} {x : mV} (h : m_ld Lc i = some x) : i < Lc.length := by
  unfold m_ld at h
  cases hq : Lc[i]? with
  | none => rw [hq] at h; cases h
  | some o => exact (List.getElem?_eq_some_iff.mp hq).1
theorem ab_Ls.clr (h : ab_Ls n ν L Lc) : ab_Ls n ν (ab_clr L i) (m_clr Lc i) := by
  cases i with
  | zero => exact h
  | succ j =>
    have hc : ∀ {k : Nat} {y : mV}, (k ≠ j ∨ ∀ z, m_ld Lc j ≠ some (.inr (.inl z))) → m_ld Lc k = some y → m_ld (m_clr Lc (j + 1)) k = some y := by
      intro k y hk hy
      unfold m_clr
      dsimp only
      split
      · rename_i z hz
        rcases hk with hk | hk
        · rw [m_ld_ne hk]; exact hy
        · exact absurd hz (hk z)
      · exact hy
    have hlen : (m_clr Lc (j + 1)).length = Lc.length := m_clr_len _ _
    unfold ab_clr
    dsimp only
    split
    · rename_i e he
      refine ⟨by rw [hlen, List.length_set]; exact h.1, fun k v hv => ?_⟩
      have hk : k ≠ j := by
        intro e1
        subst e1
        have hlt : k < L.length := (List.getElem?_eq_some_iff.mp (ab_ld_at he)).1
        rw [List.getElem?_set_self hlt] at hv
        cases hv
      rw [List.getElem?_set_ne (Ne.symm hk)] at hv
      obtain ⟨x, h1, h2⟩ := h.2 k v hv
      exact ⟨x, hc (Or.inl hk) h1, h2⟩
    · rename_i hne
      refine ⟨by rw [hlen]; exact h.1, fun k v hv => ?_⟩
      obtain ⟨x, h1, h2⟩ := h.2 k v hv
      refine ⟨x, hc ?_ h1, h2⟩
      by_cases hk : k = j
      · subst hk
        refine Or.inr (fun z hz => ?_)
        rw [h1] at hz
        cases hz
        have hl : ab_ld L k = some v := by unfold ab_ld; rw [hv]
        rcases v with a | a | a | a
        · exact h2.elim
        · exact hne a hl
        · exact h2.elim
        · exact h2.elim
      · exact Or.inl hk
theorem ab_Ls.set (h : ab_Ls n ν L Lc) (hv : ab_Vr n ν v x) : ab_Ls n ν (L.set i (some v)) (Lc.set i (some x)) := by
  refine ⟨by rw [List.length_set, List.length_set]; exact h.1, fun k w hw => ?_⟩
  by_cases hk : k = i
  · subst hk
    have hlt : k < (L.set k (some v)).length := (List.getElem?_eq_some_iff.mp hw).1
    rw [List.length_set] at hlt
    rw [List.getElem?_set_self hlt] at hw
    cases hw
    exact ⟨x, m_ld_self (by rw [h.1]; exact hlt), hv⟩
  · rw [List.getElem?_set_ne (Ne.symm hk)] at hw
    obtain ⟨y, h1, h2⟩ := h.2 k w hw
    exact ⟨y, by rw [m_ld_ne hk]; exact h1, h2⟩
theorem ab_Ls.setN {o : Option mV} (h : ab_Ls n ν L Lc) : ab_Ls n ν (L.set i none) (Lc.set i o) := by
  refine ⟨by rw [List.length_set, List.length_set]; exact h.1, fun k w hw => ?_⟩
  by_cases hk : k = i
  · subst hk
    have hlt : k < (L.set k none).length := (List.getElem?_eq_some_iff.mp hw).1
    rw [List.length_set] at hlt
    rw [List.getElem?_set_self hlt] at hw
    cases hw
  · rw [List.getElem?_set_ne (Ne.symm hk)] at hw
    obtain ⟨y, h1, h2⟩ := h.2 k w hw
    exact ⟨y, by rw [m_ld_ne hk]; exact h1, h2⟩
theorem ab_Ls.sto (h : ab_Ls n ν L Lc) (hv : ab_Vr n ν v x) : ab_Ls n ν (ab_sto L i v) (m_sto Lc i x) := h.clr.set hv
theorem ab_Ls.sto2 (h : ab_Ls n ν L Lc) (hv : ab_Vr n ν v x) : ab_Ls n ν (ab_sto2 L i v) (m_sto2 Lc i x) := (h.sto hv).setN
end AB7
def ab_nx (C : ab_C) (pc : Nat) (L : List (Option ab_V)) (st : List ab_V) : Option (ab_C × Nat × List (Option ab_V) × List ab_V) := some (C, pc, L, st)
def ab_c64 (z : Int) : Bool := ab_le (-4611686018427387904) z && ab_le z 4611686018427387904
def ab_c32 (z : Int) : Bool := ab_le (-2147483648) z && ab_le z 2147483647
def ab_a32 (C : ab_C) (e f : ab_E) : ab_C × ab_E := ab_add (-2147483648) 2147483647 C e f
def ab_n32 (C : ab_C) (e : ab_E) : ab_C × ab_E := bif ab_le (-2147483648) (ab_iv C.1 e).1 && ab_le (ab_iv C.1 e).2 2147483647 then (C, e) else ab_fr C (-2147483648) 2147483647
def ab_pi (C : ab_C × ab_E) (pc : Nat) (L : List (Option ab_V)) (st : List ab_V) : Option (ab_C × Nat × List (Option ab_V) × List ab_V) := some (C.1, pc + 1, L, .inl C.2 :: st)
def ab_pl (C : ab_C × ab_E) (pc : Nat) (L : List (Option ab_V)) (st : List ab_V) : Option (ab_C × Nat × List (Option ab_V) × List ab_V) := some (C.1, pc + 1, L, .inr (.inl C.2) :: st)
def ab_lo (k : Nat) (C : ab_C) (pc : Nat) (L : List (Option ab_V)) (i : Nat) (st : List ab_V) : Option (ab_C × Nat × List (Option ab_V) × List ab_V) := match ab_ld L i with
  | some (.inl e) => bif Nat.beq k 0 then some (C, pc, L, .inl e :: st) else none
  | some (.inr (.inl e)) => bif Nat.beq k 1 then some (C, pc, L, .inr (.inl e) :: st) else none
  | some (.inr (.inr (.inl z))) => bif Nat.beq k 2 then some (C, pc, L, .inr (.inr (.inl z)) :: st) else none
  | _ => none
def ab_si (k : Nat) (C : ab_C) (pc : Nat) (L : List (Option ab_V)) (i : Nat) (st : List ab_V) : Option (ab_C × Nat × List (Option ab_V) × List ab_V) := match st with
  | .inl e :: st => bif Nat.beq k 0 && Nat.blt i L.length then some (C, pc, ab_sto L i (.inl e), st) else none
  | .inr (.inl e) :: st => bif Nat.beq k 1 && Nat.blt (i + 1) L.length then some (C, pc, ab_sto2 L i (.inr (.inl e)), st) else none
  | .inr (.inr (.inl z)) :: st => bif Nat.beq k 2 && Nat.blt i L.length then some (C, pc, ab_sto L i (.inr (.inr (.inl z))), st) else none
  | _ => none
def ab_pu (r : mRow) (pc : Nat) (C : ab_C) (L : List (Option ab_V)) (st : List ab_V) : Option (ab_C × Nat × List (Option ab_V) × List ab_V) := match r.1 with
  | .aconst_null => some (C, pc + 1, L, .inr (.inr (.inl (0, (0, 0), (0, 0)))) :: st)
  | .iconst z => bif ab_c32 z then some (C, pc + 1, L, .inl (0, z) :: st) else none
  | .bipush z => bif ab_le (-128) z && ab_le z 127 then some (C, pc + 2, L, .inl (0, z) :: st) else none
  | .sipush z => bif ab_le (-32768) z && ab_le z 32767 then some (C, pc + 3, L, .inl (0, z) :: st) else none
  | .lconst z => some (C, pc + 1, L, .inr (.inl (0, ((z : Nat) : Int))) :: st)
  | .ldc _ => bif !(Nat.beq r.2.2.1 1) && ab_c32 r.2.2.2.2.1 then some (C, pc + 2, L, .inl (0, r.2.2.2.2.1) :: st) else none
  | .ldc_w _ => bif !(Nat.beq r.2.2.1 1) && ab_c32 r.2.2.2.2.1 then some (C, pc + 3, L, .inl (0, r.2.2.2.2.1) :: st) else none
  | .ldc2_w _ => bif ab_c64 r.2.2.2.2.1 then some (C, pc + 3, L, .inr (.inl (0, r.2.2.2.2.1)) :: st) else none
  | .iload i => ab_lo 0 C (pc + 2) L i st
  | .iload_n i => ab_lo 0 C (pc + 1) L i st
  | .lload i => ab_lo 1 C (pc + 2) L i st
  | .lload_n i => ab_lo 1 C (pc + 1) L i st
  | .aload i => ab_lo 2 C (pc + 2) L i st
  | .aload_n i => ab_lo 2 C (pc + 1) L i st
  | .istore i => ab_si 0 C (pc + 2) L i st
  | .istore_n i => ab_si 0 C (pc + 1) L i st
  | .lstore i => ab_si 1 C (pc + 2) L i st
  | .lstore_n i => ab_si 1 C (pc + 1) L i st
  | .astore i => ab_si 2 C (pc + 2) L i st
  | .astore_n i => ab_si 2 C (pc + 1) L i st
  | .iinc i z => match ab_ld L i with
    | some (.inl e) => bif ab_c32 z then some ((ab_a32 C e (0, z)).1, pc + 3, ab_sto L i (.inl (ab_a32 C e (0, z)).2), st) else none
    | _ => none
  | .iadd => match st with
    | .inl f :: .inl e :: st => ab_pi (ab_a32 C e f) pc L st
    | _ => none
  | .isub => match st with
    | .inl f :: .inl e :: st => ab_pi (ab_sub (-2147483648) 2147483647 C e f) pc L st
    | _ => none
  | .imul => match st with
    | .inl f :: .inl e :: st => ab_pi (ab_mul (-2147483648) 2147483647 C e f) pc L st
    | _ => none
  | .idiv => match st with
    | .inl f :: .inl e :: st => bif ab_le 1 (ab_iv C.1 f).1 then ab_pi (ab_div C e f) pc L st else none
    | _ => none
  | .irem => match st with
    | .inl f :: .inl e :: st => bif ab_le 1 (ab_iv C.1 f).1 then ab_pi (ab_rem C e f) pc L st else none
    | _ => none
  | .iand => match st with
    | .inl f :: .inl _ :: st => bif Nat.beq f.1 0 && (ab_le f.2 63 && ab_le 63 f.2) then ab_pi (ab_fr C 0 63) pc L st else none
    | _ => none
  | .ixor => match st with
    | .inl f :: .inl e :: st => bif ab_le 0 (ab_iv C.1 e).1 && ab_le 0 (ab_iv C.1 f).1 then ab_pi (ab_fr C 0 2147483647) pc L st else ab_pi (ab_fr C (-2147483648) 2147483647) pc L st
    | _ => none
  | .ineg => match st with
    | .inl e :: st => ab_pi (ab_neg (-2147483648) 2147483647 C e) pc L st
    | _ => none
  | .ladd => match st with
    | .inr (.inl f) :: .inr (.inl e) :: st => ab_pl (ab_add (-9223372036854775808) 9223372036854775807 C e f) pc L st
    | _ => none
  | .lsub => match st with
    | .inr (.inl f) :: .inr (.inl e) :: st => ab_pl (ab_sub (-9223372036854775808) 9223372036854775807 C e f) pc L st
    | _ => none
  | .lmul => match st with
    | .inr (.inl f) :: .inr (.inl e) :: st => ab_pl (ab_mul (-9223372036854775808) 9223372036854775807 C e f) pc L st
    | _ => none
  | .ldiv => match st with
    | .inr (.inl f) :: .inr (.inl e) :: st => bif ab_le 1 (ab_iv C.1 f).1 then ab_pl (ab_div C e f) pc L st else none
    | _ => none
  | .lrem => match st with
    | .inr (.inl f) :: .inr (.inl e) :: st => bif ab_le 1 (ab_iv C.1 f).1 then ab_pl (ab_rem C e f) pc L st else none
    | _ => none
  | .lneg => match st with
    | .inr (.inl e) :: st => ab_pl (ab_neg (-9223372036854775808) 9223372036854775807 C e) pc L st
    | _ => none
  | .lcmp => match st with
    | .inr (.inl f) :: .inr (.inl e) :: st => some (C, pc + 1, L, .inr (.inr (.inr (e, f))) :: st)
    | _ => none
  | .i2l => match st with
    | .inl e :: st => some (C, pc + 1, L, .inr (.inl e) :: st)
    | _ => none
  | .l2i => match st with
    | .inr (.inl e) :: st => ab_pi (ab_n32 C e) pc L st
    | _ => none
  | .dup => match st with
    | .inl e :: st => some (C, pc + 1, L, .inl e :: .inl e :: st)
    | .inr (.inr (.inl z)) :: st => some (C, pc + 1, L, .inr (.inr (.inl z)) :: .inr (.inr (.inl z)) :: st)
    | _ => none
  | .dup2 => match st with
    | .inr (.inl e) :: st => some (C, pc + 1, L, .inr (.inl e) :: .inr (.inl e) :: st)
    | .inl e :: .inr (.inr (.inl z)) :: st => some (C, pc + 1, L, .inl e :: .inr (.inr (.inl z)) :: .inl e :: .inr (.inr (.inl z)) :: st)
    | _ => none
  | .pop => match st with
    | .inl _ :: st => some (C, pc + 1, L, st)
    | .inr (.inr (.inl _)) :: st => some (C, pc + 1, L, st)
    | _ => none
  | .pop2 => match st with
    | .inr (.inl _) :: st => some (C, pc + 1, L, st)
    | _ => none
  | .goto _ => some (C, r.2.2.1, L, st)
  | _ => none
section AB8
variable {xs : ab_X} {C : ab_C} {ν : ab_N} {L : List (Option ab_V)} {Lc : List (Option mV)} {st : List ab_V} {sc : List mV} {pc : Nat} {r : mRow} {q : ab_C × Nat × List (Option ab_V) × List ab_V}
/-- what an instruction leaves, beside the model's -/
def ab_po (xs : ab_X) (C : ab_C) (ν : ab_N) (q : ab_C × Nat × List (Option ab_V) × List ab_V) (o : Option (Nat × List (Option mV) × List mV)) : Prop := ∃ ν' Lc' sc', o = some (q.2.1, Lc', sc') ∧ ab_up xs C ν q.1 ν' ∧ ab_Ls q.1.1.length ν' q.2.2.1 Lc' ∧ ab_Vs q.1.1.length ν' q.2.2.2 sc'
theorem ab_r32 (x : Int32) : -2147483648 ≤ x.toInt ∧ x.toInt ≤ 2147483647 := ⟨Int32.le_toInt x, by have := Int32.toInt_lt x; omega⟩
theorem ab_r64 (x : Int64) : -9223372036854775808 ≤ x.toInt ∧ x.toInt ≤ 9223372036854775807 := ⟨Int64.le_toInt x, by have := Int64.toInt_lt x; omega⟩
theorem ab_pi_ok {z : Int32} {c : ab_C × ab_E} (hL : ab_Ls C.1.length ν L Lc) (hs : ab_Vs C.1.length ν st sc) (ho : ab_ok xs C ν c z.toInt) (hq : ab_pi c pc L st = some q) : ab_po xs C ν q (some (pc + 1, Lc, .inl z :: sc)) := by
  cases hq
  obtain ⟨ν', u, g⟩ := ho
  exact ⟨ν', Lc, .inl z :: sc, rfl, u, hL.ex u.2.1 u.2.2, g, hs.ex u.2.1 u.2.2⟩
theorem ab_pl_ok {z : Int64} {c : ab_C × ab_E} (hL : ab_Ls C.1.length ν L Lc) (hs : ab_Vs C.1.length ν st sc) (ho : ab_ok xs C ν c z.toInt) (hq : ab_pl c pc L st = some q) : ab_po xs C ν q (some (pc + 1, Lc, .inr (.inl z) :: sc)) := by
  cases hq
  obtain ⟨ν', u, g⟩ := ho
  exact ⟨ν', Lc, .inr (.inl z) :: sc, rfl, u, hL.ex u.2.1 u.2.2, g, hs.ex u.2.1 u.2.2⟩
theorem ab_k_ok {x : mV} {v : ab_V} (h : ab_cx xs C ν) (hL : ab_Ls C.1.length ν L Lc) (hs : ab_Vs C.1.length ν st sc) (hv : ab_Vr C.1.length ν v x) : ab_po xs C ν (C, pc, L, v :: st) (some (pc, Lc, x :: sc)) := ⟨ν, Lc, x :: sc, rfl, ab_up.rf h, hL, hv, hs⟩
theorem ab_c32_ok {z : Int} (h : ab_c32 z = true) : -2147483648 ≤ z ∧ z ≤ 2147483647 := by
  unfold ab_c32 at h
  rwa [Bool.and_eq_true, ab_le_ok, ab_le_ok] at h
theorem ab_ofI {z : Int} (h : -2147483648 ≤ z ∧ z ≤ 2147483647) : (Int32.ofInt z).toInt = z := Int32.toInt_ofInt_of_le (by omega) (by omega)
theorem ab_c64_ok {z : Int} (h : ab_c64 z = true) : -4611686018427387904 ≤ z ∧ z ≤ 4611686018427387904 := by
  unfold ab_c64 at h
  rwa [Bool.and_eq_true, ab_le_ok, ab_le_ok] at h
theorem ab_ofL64 {z : Int} (h : -4611686018427387904 ≤ z ∧ z ≤ 4611686018427387904) : (Int64.ofInt z).toInt = z := Int64.toInt_ofInt_of_le (by omega) (by omega)
theorem ab_ofL {z : Int} (h : -2147483648 ≤ z ∧ z ≤ 2147483647) : (Int64.ofInt z).toInt = z := Int64.toInt_ofInt_of_le (by omega) (by omega)
theorem ab_of8 {z : Int} (h : -128 ≤ z ∧ z ≤ 127) : ((Int8.ofInt z).toInt32).toInt = z := by
  rw [Int8.toInt_toInt32, Int8.toInt_ofInt_of_le (by omega) (by omega)]
theorem ab_of16 {z : Int} (h : -32768 ≤ z ∧ z ≤ 32767) : ((Int16.ofInt z).toInt32).toInt = z := by
  rw [Int16.toInt_toInt32, Int16.toInt_ofInt_of_le (by omega) (by omega)]
end AB8
