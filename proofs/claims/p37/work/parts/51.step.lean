/-! one step of the second analysis -/
abbrev ac_S : Type := ab_C × Nat × List (Option ab_V) × List ab_V × ac_H × Nat × Nat
abbrev ac_Q : Type := ab_C × (Option ab_V ⊕ Nat) × ac_H
def ac_alen (K : ac_Kd) (c : Nat) (p : Int × Int) : Option Nat := match K.2[c]? with
  | some l => (match l.find? (fun q => ab_le (q.1 : Int) p.1 && ab_le p.2 (q.2.1 : Int)) with
    | some q => some q.2.2
    | none => none)
  | none => none
def ac_ix (K : ac_Kd) (C : ab_C) (c : Nat) (z : Nat × ab_E × ab_E) (e : ab_E) : Bool := Nat.beq z.1 c && (ab_nn C z && (match ac_alen K c (ab_iv C.1 z.2.1) with
  | some len => ab_leq C (0, 0) e && ab_leq C (e.1, e.2 + 1) (0, (len : Int))
  | none => false))
section ACA
variable {xs : ab_X} {C : ab_C} {ν : ab_N} {kp : ac_Kp} {σ0 σ : mS} {H : ac_H} {e f : ab_E} {n : Nat}
theorem ac_alen_ok {K : ac_Kd} {c i len : Nat} {p : Int × Int} (hp : ac_lens K σ) (h : ac_alen K c p = some len) (h1 : p.1 ≤ (i : Int)) (h2 : (i : Int) ≤ p.2) : σ.2.1 c i = len := by
  unfold ac_alen at h
  cases hl : K.2[c]? with
  | none => rw [hl] at h; cases h
  | some l =>
    rw [hl] at h
    dsimp only at h
    cases hq : l.find? (fun q => ab_le (q.1 : Int) p.1 && ab_le p.2 (q.2.1 : Int)) with
    | none => rw [hq] at h; cases h
    | some q =>
      rw [hq] at h
      cases h
      have g1 := List.mem_of_find?_eq_some hq
      have g2 := List.find?_some hq
      simp only [Bool.and_eq_true, ab_le_ok] at g2
      exact (hp c l hl q g1 i (by omega) (by omega)).2
theorem ac_ix_ok {K : ac_Kd} {c : Nat} {z : Nat × ab_E × ab_E} {r : mR} {x : Int32} (h : ab_cx xs C ν) (hp : ac_lens K σ) (hz : ab_R C.1.length ν z r) (he : ab_I C.1.length ν e x.toInt) (hi : ac_ix K C c z e = true) :
    ∃ p, r = some p ∧ p.1 = c ∧ ab_I C.1.length ν z.2.1 (p.2 : Int) ∧ vp_in x (σ.2.1 c p.2) ∧ ab_I C.1.length ν e (x.toNatClampNeg : Int) := by
  unfold ac_ix at hi
  rw [Bool.and_eq_true, Bool.and_eq_true] at hi
  obtain ⟨i1, i2, i3⟩ := hi
  obtain ⟨p, rfl, h1, h2⟩ := ab_R_some h hz i2
  cases hl : ac_alen K c (ab_iv C.1 z.2.1) with
  | none => rw [hl] at i3; cases i3
  | some len =>
    rw [hl] at i3
    dsimp only at i3
    rw [Bool.and_eq_true] at i3
    have b := ab_iv_ok h.1 h2
    have e1 := ac_alen_ok hp hl b.1 b.2
    have a1 := ab_leq_ok h (ab_con h) he i3.1
    have a2 := ab_leq_ok1 h he (ab_con h) i3.2
    exact ⟨p, rfl, h1.trans (Nat.eq_of_beq_eq_true i1), h2, vp_in_iff.mpr ⟨a1, by rw [e1]; exact a2⟩, by rw [ab_clamp a1]; exact he⟩
end ACA
def ac_rem0 (C : ab_C) (e f : ab_E) : Bool := ab_le 1 (ab_iv C.1 f).1 && (ab_le (ab_iv C.1 e).2 0 && ab_le (ab_iv C.1 e).1 (-1))
def ac_xor0 (C : ab_C) (e f : ab_E) : Bool := (ab_le (ab_iv C.1 e).2 (-1) && ab_le 0 (ab_iv C.1 f).1) || (ab_le 0 (ab_iv C.1 e).1 && ab_le (ab_iv C.1 f).2 (-1))
def ac_pu (r : mRow) (pc : Nat) (C : ab_C) (L : List (Option ab_V)) (st : List ab_V) : Option (ab_C × Nat × List (Option ab_V) × List ab_V) := match r.1 with
  | .irem => (match st with
    | .inl f :: .inl e :: st' => bif ac_rem0 C e f then ab_pi (ab_fr C (1 - (ab_iv C.1 f).2) 0) pc L st' else ab_pu r pc C L st
    | _ => none)
  | .ldiv => (match st with
    | .inr (.inl f) :: .inr (.inl _) :: st' => bif ab_le (ab_iv C.1 f).2 (-1) then ab_pl (ab_fr C (-9223372036854775808) 9223372036854775807) pc L st' else ab_pu r pc C L st
    | _ => none)
  | .ixor => (match st with
    | .inl f :: .inl e :: st' => bif ac_xor0 C e f then ab_pi (ab_fr C (-2147483648) (-1)) pc L st' else ab_pu r pc C L st
    | _ => none)
  | _ => ab_pu r pc C L st
theorem ac_msb {x : Int32} : x.toBitVec.msb = decide (x.toInt < 0) := by rw [BitVec.msb_eq_toInt]; rfl
theorem ac_xor_ok {x y : Int32} (h : (x.toInt < 0 ∧ 0 ≤ y.toInt) ∨ (0 ≤ x.toInt ∧ y.toInt < 0)) : (x ^^^ y).toInt < 0 := by
  have e1 : (x ^^^ y).toBitVec.msb = true := by
    show (x.toBitVec ^^^ y.toBitVec).msb = true
    rw [BitVec.msb_xor, ac_msb, ac_msb]
    rcases h with ⟨h1, h2⟩ | ⟨h1, h2⟩
    · rw [decide_eq_true h1, decide_eq_false (by omega)]; rfl
    · rw [decide_eq_true h2, decide_eq_false (by omega)]; rfl
  rw [ac_msb] at e1
  exact of_decide_eq_true e1
theorem ac_pu_ok {xs : ab_X} {C : ab_C} {ν : ab_N} {L : List (Option ab_V)} {Lc : List (Option mV)} {st : List ab_V} {sc : List mV} {pc : Nat} {r : mRow} {q : ab_C × Nat × List (Option ab_V) × List ab_V} (h : ab_cx xs C ν) (hL : ab_Ls C.1.length ν L Lc) (hs : ab_Vs C.1.length ν st sc) (hq : ac_pu r pc C L st = some q) : m_cond r sc = none ∧ ab_po xs C ν q (m_pure r pc Lc sc) := by
  obtain ⟨ig, ln, ra, rb, rz, rp⟩ := r
  unfold ac_pu at hq
  dsimp only at hq
  split at hq
  · split at hq
    · rename_i f e st'
      cases hb : ac_rem0 C e f with
      | false => rw [hb] at hq; exact ab_pu_ok h hL hs hq
      | true =>
        rw [hb] at hq
        unfold ac_rem0 at hb
        simp only [Bool.and_eq_true, ab_le_ok] at hb
        obtain ⟨y, s1, rfl, g1, g2⟩ := ab_Vs_i hs
        obtain ⟨x, s2, rfl, g3, g4⟩ := ab_Vs_i g2
        have hy := ab_iv_ok h.1 g1
        have hx := ab_iv_ok h.1 g3
        have hne : ¬ y = 0 := fun z => by rw [z] at hy; have : Int32.toInt 0 = 0 := rfl; omega
        refine ⟨rfl, ?_⟩
        show ab_po xs C ν q (if y = 0 then none else some (pc + 1, Lc, .inl (x - x / y * y) :: s2))
        rw [if_neg hne]
        have t := ab_tmod_np (x := x.toInt) (y := y.toInt) (by omega) (by omega)
        exact ab_pi_ok (z := x - x / y * y) hL g4 (by
          have e9 := ab_i32_rem (x := x) (y := y) (by omega)
          exact ab_fr_ok h (by omega) (by omega)) hq
    · cases hq
  · split at hq
    · rename_i f e st'
      cases hb : ab_le (ab_iv C.1 f).2 (-1) with
      | false => rw [hb] at hq; exact ab_pu_ok h hL hs hq
      | true =>
        rw [hb] at hq
        rw [ab_le_ok] at hb
        obtain ⟨y, s1, rfl, g1, g2⟩ := ab_Vs_l hs
        obtain ⟨x, s2, rfl, g3, g4⟩ := ab_Vs_l g2
        have hy := ab_iv_ok h.1 g1
        have hne : ¬ y = 0 := fun z => by rw [z] at hy; have : Int64.toInt 0 = 0 := rfl; omega
        refine ⟨rfl, ?_⟩
        show ab_po xs C ν q (if y = 0 then none else some (pc + 1, Lc, .inr (.inl (x / y)) :: s2))
        rw [if_neg hne]
        exact ab_pl_ok (z := x / y) hL g4 (ab_fr_ok h (ab_r64 _).1 (ab_r64 _).2) hq
    · cases hq
  · split at hq
    · rename_i f e st'
      cases hb : ac_xor0 C e f with
      | false => rw [hb] at hq; exact ab_pu_ok h hL hs hq
      | true =>
        rw [hb] at hq
        unfold ac_xor0 at hb
        simp only [Bool.or_eq_true, Bool.and_eq_true, ab_le_ok] at hb
        obtain ⟨y, s1, rfl, g1, g2⟩ := ab_Vs_i hs
        obtain ⟨x, s2, rfl, g3, g4⟩ := ab_Vs_i g2
        have hy := ab_iv_ok h.1 g1
        have hx := ab_iv_ok h.1 g3
        have t : (x ^^^ y).toInt < 0 := ac_xor_ok (by omega)
        exact ⟨rfl, ab_pi_ok (z := x ^^^ y) hL g4 (ab_fr_ok h (ab_r32 _).1 (by omega)) hq⟩
    · cases hq
  · exact ab_pu_ok h hL hs hq
abbrev ac_Wt : Type := List ac_S ⊕ ac_Q ⊕ (Nat × List ab_V × List ab_V)
def ac_1 (C : ab_C) (pc : Nat) (L : List (Option ab_V)) (st : List ab_V) (H : ac_H) (k n : Nat) : Option ac_Wt := some (.inl [(C, pc, L, st, H, k, n)])
def ac_get (kp : ac_Kp) (r : mRow) (pc : Nat) (C : ab_C) (L : List (Option ab_V)) (st : List ab_V) (H : ac_H) (k n : Nat) : Option ac_Wt := match st with
  | .inr (.inr (.inl z)) :: st => bif Nat.beq z.1 r.2.2.1 && ab_nn C z then (match ac_rd kp C H r.2.2.1 z.2.1 (0, (r.2.2.2.1 : Int)) with
      | some q => ac_1 q.1 (pc + 3) L (q.2.1 :: st) q.2.2 k n
      | none => none) else none
  | _ => none
def ac_putf (kp : ac_Kp) (r : mRow) (pc : Nat) (C : ab_C) (L : List (Option ab_V)) (st : List ab_V) (H : ac_H) (k n : Nat) : Option ac_Wt := match st with
  | v :: .inr (.inr (.inl z)) :: st => bif Nat.beq z.1 r.2.2.1 && (ab_nn C z && ab_tp C r.2.2.1 r.2.2.2.1 v) then (match ac_wr kp C H r.2.2.1 z.2.1 (0, (r.2.2.2.1 : Int)) v with
      | some H' => ac_1 C (pc + 3) L st H' k n
      | none => none) else none
  | _ => none
def ac_len (kp : ac_Kp) (ms : Bool) (pc : Nat) (C : ab_C) (L : List (Option ab_V)) (st : List ab_V) (H : ac_H) (k n : Nat) : Option ac_Wt := match st with
  | .inr (.inr (.inl z)) :: st => bif ab_nn C z then (bif Nat.beq z.1 98 then (bif ms then ac_1 C (pc + 1) L (.inl (1, 0) :: st) H k n else none) else
      bif Nat.ble 13 z.1 && Nat.ble z.1 21 then (match ac_alen kp.1 z.1 (ab_iv C.1 z.2.1) with
        | some len => bif Nat.blt len 2147483648 then ac_1 C (pc + 1) L (.inl (0, (len : Int)) :: st) H k n else none
        | none => none) else none) else none
  | _ => none
def ac_ald (kp : ac_Kp) (c : Nat) (pc : Nat) (C : ab_C) (L : List (Option ab_V)) (st : List ab_V) (H : ac_H) (k n : Nat) : Option ac_Wt := match st with
  | .inl e :: .inr (.inr (.inl z)) :: st => bif ac_ix kp.1 C c z e then (match ac_rd kp C H c z.2.1 e with
      | some q => ac_1 q.1 (pc + 1) L (q.2.1 :: st) q.2.2 k n
      | none => none) else none
  | _ => none
def ac_ials (kp : ac_Kp) (ms : Bool) (pc : Nat) (C : ab_C) (L : List (Option ab_V)) (st : List ab_V) (H : ac_H) (k n : Nat) : Option ac_Wt := match st with
  | .inl e :: .inr (.inr (.inl z)) :: st' => bif Nat.beq z.1 98 then (bif ms && (ab_nn C z && (ab_leq C (0, 0) e && ab_leq C (e.1, e.2 + 1) (1, 0))) then ac_1 (ab_xc C e).1 (pc + 1) L (.inl (ab_xc C e).2 :: st') H k n else none) else ac_ald kp 13 pc C L st H k n
  | _ => none
def ac_aldq (kp : ac_Kp) (pc : Nat) (C : ab_C) (L : List (Option ab_V)) (st : List ab_V) (H : ac_H) (k n : Nat) : Option ac_Wt := match st with
  | .inl _ :: .inr (.inr (.inl z)) :: _ => bif Nat.ble 16 z.1 && Nat.ble z.1 21 then ac_ald kp z.1 pc C L st H k n else none
  | _ => none
def ac_ast (kp : ac_Kp) (c : Nat) (pc : Nat) (C : ab_C) (L : List (Option ab_V)) (st : List ab_V) (H : ac_H) (k n : Nat) : Option ac_Wt := match st with
  | v :: .inl e :: .inr (.inr (.inl z)) :: st => bif ac_ix kp.1 C c z e && ab_tp C c 0 v then (match ac_wr kp C H c z.2.1 e v with
      | some H' => ac_1 C (pc + 1) L st H' k n
      | none => none) else none
  | _ => none
def ac_astq (kp : ac_Kp) (pc : Nat) (C : ab_C) (L : List (Option ab_V)) (st : List ab_V) (H : ac_H) (k n : Nat) : Option ac_Wt := match st with
  | .inr (.inr (.inl d)) :: .inl _ :: .inr (.inr (.inl z)) :: _ => bif Nat.ble 16 z.1 && (Nat.ble z.1 20 && (ab_nn C d && Nat.beq d.1 (m_el z.1))) then ac_ast kp z.1 pc C L st H k n else none
  | _ => none
def ac_newo (kp : ac_Kp) (R : Room) (nL mc ms : Nat) (r : mRow) (pc : Nat) (C : ab_C) (L : List (Option ab_V)) (st : List ab_V) (H : ac_H) (k n : Nat) : Option ac_Wt :=
  bif Nat.blt r.2.2.1 13 then (bif Nat.beq r.2.2.1 1 && ab_rm R (k + 1) (n + m_nf 1) then (match H.1 with
    | some e => (match ac_nw kp C H e with
      | some H' => ac_1 C (pc + 3) L (.inr (.inr (.inl (1, e, (0, 1)))) :: st) H' (k + 1) (n + m_nf 1)
      | none => none)
    | none => none) else none)
  else bif Nat.beq L.length nL && (Nat.blt 5 R.frames && (Nat.ble (ab_sum st + 82) R.locals && (ab_rm R (k + 1) (n + 6) && (Nat.ble (k + 1) mc && Nat.ble (n + 6) ms)))) then some (.inr (.inl (C, .inr (r.2.2.1 - 100), H))) else none
def ac_callV (R : Room) (y : mMt) (r : mRow) (C : ab_C) (st : List ab_V) (k n : Nat) : Option ac_Wt := match st.drop r.2.2.2.1 with
  | .inr (.inr (.inl z)) :: st' => bif Nat.beq z.1 (m_p r 5) && (ab_nn C z && (Nat.beq (st.take r.2.2.2.1).length r.2.2.2.1 && (Nat.ble (ab_sum st') 8 && ab_rm R (k + y.2.2.2.2.1.cells) (n + y.2.2.2.2.1.slots)))) then some (.inr (.inr (r.2.2.1, .inr (.inr (.inl z)) :: (st.take r.2.2.2.1).reverse, st'))) else none
  | _ => none
def ac_callS (R : Room) (y : mMt) (r : mRow) (st : List ab_V) (k n : Nat) : Option ac_Wt :=
  bif Nat.beq (st.take r.2.2.2.1).length r.2.2.2.1 && (Nat.ble (ab_sum (st.drop r.2.2.2.1)) 8 && ab_rm R (k + y.2.2.2.2.1.cells) (n + y.2.2.2.2.1.slots)) then some (.inr (.inr (r.2.2.1, (st.take r.2.2.2.1).reverse, st.drop r.2.2.2.1))) else none
def ac_math (R : Room) (a pc : Nat) (C : ab_C) (L : List (Option ab_V)) (st : List ab_V) (H : ac_H) (k n : Nat) : Option ac_Wt := match a, st with
  | 1000, .inl f :: .inl e :: st => bif Nat.ble (ab_sum st + 13) R.locals then ac_1 (ab_max C e f).1 (pc + 3) L (.inl (ab_max C e f).2 :: st) H k n else none
  | 1001, .inl f :: .inl e :: st => bif Nat.ble (ab_sum st + 13) R.locals then ac_1 (ab_min C e f).1 (pc + 3) L (.inl (ab_min C e f).2 :: st) H k n else none
  | 1002, .inl e :: st => bif Nat.ble (ab_sum st + 13) R.locals then ac_1 (ab_abs C e).1 (pc + 3) L (.inl (ab_abs C e).2 :: st) H k n else none
  | 1003, .inr (.inl f) :: .inr (.inl e) :: st => bif Nat.ble (ab_sum st + 15) R.locals then ac_1 (ab_max C e f).1 (pc + 3) L (.inr (.inl (ab_max C e f).2) :: st) H k n else none
  | 1004, .inr (.inl f) :: .inr (.inl e) :: st => bif Nat.ble (ab_sum st + 15) R.locals then ac_1 (ab_min C e f).1 (pc + 3) L (.inr (.inl (ab_min C e f).2) :: st) H k n else none
  | _, _ => none
def ac_obj (R : Room) (pc : Nat) (C : ab_C) (L : List (Option ab_V)) (st : List ab_V) (H : ac_H) (k n : Nat) : Option ac_Wt := match st with
  | .inr (.inr (.inl z)) :: st => bif ab_nn C z && Nat.ble (ab_sum st + 12) R.locals then ac_1 C (pc + 3) L st H k n else none
  | _ => none
def ac_iret (rt : Option FieldType) (C : ab_C) (st : List ab_V) (H : ac_H) : Option ac_Wt := match st with
  | [.inl e] => bif Nat.beq (ab_rt rt) 1 || (Nat.beq (ab_rt rt) 2 && (ab_le 0 (ab_iv C.1 e).1 && ab_le (ab_iv C.1 e).2 1)) then some (.inr (.inl (C, .inl (some (.inl e)), H))) else none
  | _ => none
def ac_lret (rt : Option FieldType) (C : ab_C) (st : List ab_V) (H : ac_H) : Option ac_Wt := match st with
  | [.inr (.inl e)] => bif Nat.beq (ab_rt rt) 3 then some (.inr (.inl (C, .inl (some (.inr (.inl e))), H))) else none
  | _ => none
def ac_aret (rt : Option FieldType) (C : ab_C) (st : List ab_V) (H : ac_H) : Option ac_Wt := match st with
  | [.inr (.inr (.inl z))] => bif Nat.beq (ab_rt rt) 4 then some (.inr (.inl (C, .inl (some (.inr (.inr (.inl z)))), H))) else none
  | _ => none
def ac_vret (rt : Option FieldType) (C : ab_C) (st : List ab_V) (H : ac_H) : Option ac_Wt := match st with
  | [] => bif Nat.beq (ab_rt rt) 0 then some (.inr (.inl (C, .inl none, H))) else none
  | _ => none
/-- a table of places -/
def ac_tb (C : ab_C) (pc : Nat) (L : List (Option ab_V)) (st : List ab_V) (H : ac_H) (k n : Nat) (e : ab_E) (lo : Int) : List Int → List ac_S
  | [] => []
  | o :: t => bif ab_le (ab_iv C.1 e).1 lo && ab_le lo (ab_iv C.1 e).2 then (ab_asm C .eq e (0, lo), ((pc : Int) + o).toNat, L, st, H, k, n) :: ac_tb C pc L st H k n e (lo + 1) t else ac_tb C pc L st H k n e (lo + 1) t
def ac_sw (d lo hi : Int) (offs : Array Int) (pc : Nat) (C : ab_C) (L : List (Option ab_V)) (st : List ab_V) (H : ac_H) (k n : Nat) : Option ac_Wt := match st with
  | .inl e :: st => bif ab_le (hi + 1) (lo + (offs.size : Int)) then some (.inl (ac_tb C pc L st H k n e lo offs.toList ++ (bif ab_le lo (ab_iv C.1 e).1 && ab_le (ab_iv C.1 e).2 hi then [] else [(C, ((pc : Int) + d).toNat, L, st, H, k, n)]))) else none
  | _ => none
def ac_bare (r : mRow) (pc : Nat) (C : ab_C) (L : List (Option ab_V)) (st : List ab_V) (H : ac_H) (k n : Nat) : Option ac_Wt := match ab_br r C st with
  | some q => (match q.1 with
    | some true => ac_1 C r.2.2.1 L q.2.2.2 H k n
    | some false => ac_1 C (pc + 3) L q.2.2.2 H k n
    | none => some (.inl [(q.2.1, r.2.2.1, L, q.2.2.2, H, k, n), (q.2.2.1, pc + 3, L, q.2.2.2, H, k, n)]))
  | none => match ac_pu r pc C L st with
    | some q => ac_1 q.1 q.2.1 q.2.2.1 q.2.2.2 H k n
    | none => none
def ac_stp (kp : ac_Kp) (ms : Bool) (y : mMt) (rows : List (Nat × mRow)) (pc : Nat) (C : ab_C) (L : List (Option ab_V)) (st : List ab_V) (H : ac_H) (k n : Nat) : Option ac_Wt := match m_at rows pc with
  | none => none
  | some r => match r.1 with
    | .getfield _ => ac_get kp r pc C L st H k n
    | .putfield _ => ac_putf kp r pc C L st H k n
    | .arraylength => ac_len kp ms pc C L st H k n
    | .iaload => ac_ials kp ms pc C L st H k n
    | .laload => ac_ald kp 14 pc C L st H k n
    | .baload => ac_ald kp 15 pc C L st H k n
    | .aaload => ac_aldq kp pc C L st H k n
    | .iastore => ac_ast kp 13 pc C L st H k n
    | .lastore => ac_ast kp 14 pc C L st H k n
    | .bastore => none
    | .aastore => ac_astq kp pc C L st H k n
    | .new _ => ac_newo kp y.2.2.2.2.1 y.2.2.1 y.2.2.2.2.1.cells y.2.2.2.2.1.slots r pc C L st H k n
    | .newarray _ => none
    | .anewarray _ => none
    | .multianewarray _ _ => none
    | .invokevirtual _ => bif Nat.beq L.length y.2.2.1 then (match m_mt[r.2.2.1]? with
      | some y' => ac_callV y.2.2.2.2.1 y' r C st k n
      | none => none) else none
    | .invokespecial _ => bif Nat.beq L.length y.2.2.1 then (bif Nat.beq r.2.2.1 2000 then ac_obj y.2.2.2.2.1 pc C L st H k n else match m_mt[r.2.2.1]? with
      | some y' => ac_callV y.2.2.2.2.1 y' r C st k n
      | none => none) else none
    | .invokestatic _ => bif Nat.beq L.length y.2.2.1 && ab_rm y.2.2.2.2.1 k n then (bif Nat.ble 1000 r.2.2.1 then ac_math y.2.2.2.2.1 r.2.2.1 pc C L st H k n else match m_mt[r.2.2.1]? with
      | some y' => ac_callS y.2.2.2.2.1 y' r st k n
      | none => none) else none
    | .ireturn => bif ab_rm y.2.2.2.2.1 k n then ac_iret y.2.2.2.1 C st H else none
    | .lreturn => bif ab_rm y.2.2.2.2.1 k n then ac_lret y.2.2.2.1 C st H else none
    | .areturn => bif ab_rm y.2.2.2.2.1 k n then ac_aret y.2.2.2.1 C st H else none
    | .return_ => bif ab_rm y.2.2.2.2.1 k n then ac_vret y.2.2.2.1 C st H else none
    | .tableswitch d lo hi offs => ac_sw d lo hi offs pc C L st H k n
    | _ => ac_bare r pc C L st H k n
section ACB
variable {xs : ab_X} {C : ab_C} {ν : ab_N} {kp : ac_Kp} {σ0 : mS} {H : ac_H} {σ : mS} {L : List (Option ab_V)} {Lc : List (Option mV)} {st : List ab_V} {sc : List mV} {pc k n : Nat} {r : mRow} {o : ac_Wt} {K : Nat → List (Option mV) → List mV → mS → Nat → Nat → Prop} {Q : mX → mS → Prop} {CP : Nat → List mV → List mV → Prop}
def ac_kq (kp : ac_Kp) (σ0 : mS) (xs : ab_X) (C : ab_C) (ν : ab_N) (K : Nat → List (Option mV) → List mV → mS → Nat → Nat → Prop) (q : ac_S) : Prop := ∀ ν' Lc' sc' σ', ab_up xs C ν q.1 ν' → ab_Ls q.1.1.length ν' q.2.2.1 Lc' → ab_Vs q.1.1.length ν' q.2.2.2.1 sc' → ac_hp kp σ0 q.1.1.length ν' q.2.2.2.2.1 σ' → K q.2.1 Lc' sc' σ' q.2.2.2.2.2.1 q.2.2.2.2.2.2
/-- what a step owes: CP says how calls go on -/
def ac_sem (kp : ac_Kp) (σ0 : mS) (xs : ab_X) (C : ab_C) (ν : ab_N) (K : Nat → List (Option mV) → List mV → mS → Nat → Nat → Prop) (Q : mX → mS → Prop) (CP : Nat → List mV → List mV → Prop) (o : ac_Wt) : Prop := match o with
  | .inl nx => ∀ q ∈ nx, ac_kq kp σ0 xs C ν K q
  | .inr (.inl e) => ∀ ν' x σ', ab_up xs C ν e.1 ν' → ab_xo e.1.1.length ν' e.2.1 x → ac_hp kp σ0 e.1.1.length ν' e.2.2 σ' → Q x σ'
  | .inr (.inr c) => ∀ avs sc', ab_Vs C.1.length ν c.2.1 avs → ab_Vs C.1.length ν c.2.2 sc' → CP c.1 avs sc'
theorem ac_1_ok {C' : ab_C} {pc' k' n' : Nat} {L' : List (Option ab_V)} {st' : List ab_V} {H' : ac_H} {ν' : ab_N} {Lc' : List (Option mV)} {sc' : List mV} {σ' : mS} (hh : ac_1 C' pc' L' st' H' k' n' = some o) (hs : ac_sem kp σ0 xs C ν K Q CP o) (u : ab_up xs C ν C' ν') (hL : ab_Ls C'.1.length ν' L' Lc') (hst : ab_Vs C'.1.length ν' st' sc') (hp : ac_hp kp σ0 C'.1.length ν' H' σ') : K pc' Lc' sc' σ' k' n' := by
  cases hh
  exact hs _ List.mem_cons_self ν' Lc' sc' σ' u hL hst hp
theorem ac_get_ok (h : ab_cx xs C ν) (hL : ab_Ls C.1.length ν L Lc) (hst : ab_Vs C.1.length ν st sc) (hp : ac_hp kp σ0 C.1.length ν H σ) (hh : ac_get kp r pc C L st H k n = some o) (hs : ac_sem kp σ0 xs C ν K Q CP o) : m_s_get r σ sc (fun st => K (pc + 3) Lc st σ k n) := by
  unfold ac_get at hh
  split at hh
  · rename_i z st'
    cases hb : (Nat.beq z.1 r.2.2.1 && ab_nn C z) with
    | false => rw [hb] at hh; cases hh
    | true =>
    rw [hb] at hh
    rw [Bool.and_eq_true] at hb
    dsimp only [cond_true] at hh
    obtain ⟨y, s', rfl, g1, g2⟩ := ab_Vs_a hst
    obtain ⟨p, rfl, h1, h2⟩ := ab_R_some h g1 hb.2
    cases hr : ac_rd kp C H r.2.2.1 z.2.1 (0, (r.2.2.2.1 : Int)) with
    | none => rw [hr] at hh; cases hh
    | some q =>
      rw [hr] at hh
      obtain ⟨ν', u, g, g9⟩ := ac_rd_ok h hp h2 (ab_con h) hr
      refine ⟨h1.trans (Nat.eq_of_beq_eq_true hb.1), ?_⟩
      exact ac_1_ok hh hs u (hL.ex u.2.1 u.2.2) ⟨g, g2.ex u.2.1 u.2.2⟩ g9
  · cases hh
theorem ac_putf_ok (h : ab_cx xs C ν) (hL : ab_Ls C.1.length ν L Lc) (hst : ab_Vs C.1.length ν st sc) (hp : ac_hp kp σ0 C.1.length ν H σ) (hh : ac_putf kp r pc C L st H k n = some o) (hs : ac_sem kp σ0 xs C ν K Q CP o) : m_s_put r σ sc (fun st σ => K (pc + 3) Lc st σ k n) := by
  unfold ac_putf at hh
  split at hh
  · rename_i v z st'
    cases hb : (Nat.beq z.1 r.2.2.1 && (ab_nn C z && ab_tp C r.2.2.1 r.2.2.2.1 v)) with
    | false => rw [hb] at hh; cases hh
    | true =>
    rw [hb] at hh
    rw [Bool.and_eq_true, Bool.and_eq_true] at hb
    dsimp only [cond_true] at hh
    obtain ⟨x, s1, rfl, g1, g2⟩ := ab_Vs_c hst
    obtain ⟨y, s', rfl, g3, g4⟩ := ab_Vs_a g2
    obtain ⟨p, rfl, h1, h2⟩ := ab_R_some h g3 hb.2.1
    cases hr : ac_wr kp C H r.2.2.1 z.2.1 (0, (r.2.2.2.1 : Int)) v with
    | none => rw [hr] at hh; cases hh
    | some H' =>
      rw [hr] at hh
      have ht := ab_tp_ok h g1 hb.2.2
      exact ⟨h1.trans (Nat.eq_of_beq_eq_true hb.1), ht, ac_1_ok hh hs (ab_up.rf h) hL g4 (ac_wr_ok h hp h2 (ab_con h) g1 ht hr)⟩
  · cases hh
theorem ac_len_ok {ms : Bool} {xs0 : ab_X} (hx0 : ms = true → xs0 = xs) (hxl : ab_xl ms xs C ν) (h : ab_cx xs C ν) (hL : ab_Ls C.1.length ν L Lc) (hst : ab_Vs C.1.length ν st sc) (hp : ac_hp kp σ0 C.1.length ν H σ) (hh : ac_len kp ms pc C L st H k n = some o) (hs : ac_sem kp σ0 xs C ν K Q CP o) :
    bif m_isx sc 0 then m_s_xlen xs0 sc (fun st => K (pc + 1) Lc st σ k n) else m_s_len σ sc (fun st => K (pc + 1) Lc st σ k n) := by
  unfold ac_len at hh
  split at hh
  · rename_i z st'
    cases hb : ab_nn C z with
    | false => rw [hb] at hh; cases hh
    | true =>
    rw [hb] at hh
    dsimp only [cond_true] at hh
    obtain ⟨y, s', rfl, g1, g2⟩ := ab_Vs_a hst
    obtain ⟨p, rfl, h1, h2⟩ := ab_R_some h g1 hb
    rw [ab_isx (i := 0) (s' := s') (st' := .inr (.inr (some p)) :: s') rfl h1]
    cases hc : Nat.beq z.1 98 with
    | true =>
      rw [hc] at hh
      dsimp only [cond_true] at hh ⊢
      cases hm : ms with
      | false => rw [hm] at hh; cases hh
      | true =>
        rw [hm] at hh
        obtain ⟨w, e1, e2, e3⟩ := hxl hm
        rw [hx0 hm, e1]
        have e4 : ab_I C.1.length ν (1, 0) (Int32.ofNat w.1).toInt := by rw [ab_ofN e2]; exact e3
        exact ⟨e2, ac_1_ok hh hs (ab_up.rf h) hL ⟨e4, g2⟩ hp⟩
    | false =>
      rw [hc] at hh
      dsimp only [cond_false] at hh ⊢
      cases hd : (Nat.ble 13 z.1 && Nat.ble z.1 21) with
      | false => rw [hd] at hh; cases hh
      | true =>
      rw [hd] at hh
      rw [Bool.and_eq_true, Nat.ble_eq, Nat.ble_eq] at hd
      dsimp only [cond_true] at hh
      cases hl : ac_alen kp.1 z.1 (ab_iv C.1 z.2.1) with
      | none => rw [hl] at hh; cases hh
      | some len =>
        rw [hl] at hh
        dsimp only at hh
        cases he : Nat.blt len 2147483648 with
        | false => rw [he] at hh; cases hh
        | true =>
          rw [he] at hh
          rw [Nat.blt_eq] at he
          have b := ab_iv_ok h.1 h2
          have e1 := ac_alen_ok hp.1.2.1 hl b.1 b.2
          rw [← h1] at e1 hd
          refine ⟨hd, ?_⟩
          show K (pc + 1) Lc (.inl (Int32.ofNat (σ.2.1 p.1 p.2)) :: s') σ k n
          rw [e1]
          have e4 : ab_I C.1.length ν (0, (len : Int)) (Int32.ofNat len).toInt := by rw [ab_ofN he]; exact ab_con h
          exact ac_1_ok hh hs (ab_up.rf h) hL ⟨e4, g2⟩ hp
  · cases hh
theorem ac_ald_ok {c : Nat} (h : ab_cx xs C ν) (hL : ab_Ls C.1.length ν L Lc) (hst : ab_Vs C.1.length ν st sc) (hp : ac_hp kp σ0 C.1.length ν H σ) (hh : ac_ald kp c pc C L st H k n = some o) (hs : ac_sem kp σ0 xs C ν K Q CP o) : m_s_ald c σ sc (fun st => K (pc + 1) Lc st σ k n) := by
  unfold ac_ald at hh
  split at hh
  · rename_i e z st'
    cases hb : ac_ix kp.1 C c z e with
    | false => rw [hb] at hh; cases hh
    | true =>
    rw [hb] at hh
    dsimp only [cond_true] at hh
    obtain ⟨x, s1, rfl, g1, g2⟩ := ab_Vs_i hst
    obtain ⟨y, s', rfl, g3, g4⟩ := ab_Vs_a g2
    obtain ⟨p, rfl, h1, h2, h3, h4⟩ := ac_ix_ok h hp.1.2.1 g3 g1 hb
    cases hr : ac_rd kp C H c z.2.1 e with
    | none => rw [hr] at hh; cases hh
    | some q =>
      rw [hr] at hh
      obtain ⟨ν', u, g, g9⟩ := ac_rd_ok h hp h2 h4 hr
      exact ⟨h1, h3, ac_1_ok hh hs u (hL.ex u.2.1 u.2.2) ⟨g, g4.ex u.2.1 u.2.2⟩ g9⟩
  · cases hh
theorem ac_ials_ok {ms : Bool} {xs0 : ab_X} (hx0 : ms = true → xs0 = xs) (hxl : ab_xl ms xs C ν) (h : ab_cx xs C ν) (hL : ab_Ls C.1.length ν L Lc) (hst : ab_Vs C.1.length ν st sc) (hp : ac_hp kp σ0 C.1.length ν H σ) (hh : ac_ials kp ms pc C L st H k n = some o) (hs : ac_sem kp σ0 xs C ν K Q CP o) :
    bif m_isx sc 1 then m_s_xld xs0 sc (fun st => K (pc + 1) Lc st σ k n) else m_s_ald 13 σ sc (fun st => K (pc + 1) Lc st σ k n) := by
  unfold ac_ials at hh
  split at hh
  · rename_i e z st'
    cases hc : Nat.beq z.1 98 with
    | true =>
      rw [hc] at hh
      dsimp only [cond_true] at hh
      cases hb : (ms && (ab_nn C z && (ab_leq C (0, 0) e && ab_leq C (e.1, e.2 + 1) (1, 0)))) with
      | false => rw [hb] at hh; cases hh
      | true =>
        rw [hb] at hh
        rw [Bool.and_eq_true, Bool.and_eq_true, Bool.and_eq_true] at hb
        obtain ⟨b1, b2, b3, b4⟩ := hb
        obtain ⟨x, s1, rfl, g1, g2⟩ := ab_Vs_i hst
        obtain ⟨y, s', rfl, g3, g4⟩ := ab_Vs_a g2
        obtain ⟨p, rfl, h1, h2⟩ := ab_R_some h g3 b2
        rw [ab_isx (i := 1) (s' := s') (st' := .inl x :: .inr (.inr (some p)) :: s') rfl h1, hc]
        obtain ⟨w, e1, e2, e3⟩ := hxl b1
        rw [hx0 b1, e1]
        have a1 := ab_leq_ok h (ab_con h) g1 b3
        have a2 := ab_leq_ok1 h g1 e3 b4
        have e5 : ab_I C.1.length ν e (x.toNatClampNeg : Int) := by rw [ab_clamp a1]; exact g1
        obtain ⟨ν', u, g⟩ := ab_xc_ok h e1 e5
        exact ⟨vp_in_iff.mpr ⟨a1, a2⟩, ac_1_ok hh hs u (hL.ex u.2.1 u.2.2) ⟨g, g4.ex u.2.1 u.2.2⟩ (hp.ex u.2.1 u.2.2)⟩
    | false =>
      rw [hc] at hh
      dsimp only [cond_false] at hh
      have hst0 := hst
      obtain ⟨x, s1, rfl, g1, g2⟩ := ab_Vs_i hst
      obtain ⟨y, s', rfl, g3, g4⟩ := ab_Vs_a g2
      have hn : m_isx (.inl x :: .inr (.inr y) :: s') 1 = false := by
        cases y with
        | none => rfl
        | some p =>
          rw [ab_isx (i := 1) (s' := s') (st' := .inl x :: .inr (.inr (some p)) :: s') rfl g3.2.2.2.1]
          exact hc
      rw [hn]
      exact ac_ald_ok h hL hst0 hp hh hs
  · cases hh
theorem ac_aldq_ok (h : ab_cx xs C ν) (hL : ab_Ls C.1.length ν L Lc) (hst : ab_Vs C.1.length ν st sc) (hp : ac_hp kp σ0 C.1.length ν H σ) (hh : ac_aldq kp pc C L st H k n = some o) (hs : ac_sem kp σ0 xs C ν K Q CP o) : m_s_aldq σ sc (fun st => K (pc + 1) Lc st σ k n) := by
  unfold ac_aldq at hh
  split at hh
  · rename_i e z st'
    cases hb : (Nat.ble 16 z.1 && Nat.ble z.1 21) with
    | false => rw [hb] at hh; cases hh
    | true =>
      rw [hb] at hh
      rw [Bool.and_eq_true, Nat.ble_eq, Nat.ble_eq] at hb
      have g := ac_ald_ok h hL hst hp hh hs
      obtain ⟨x, s1, rfl, g1, g2⟩ := ab_Vs_i hst
      obtain ⟨y, s', rfl, g3, g4⟩ := ab_Vs_a g2
      cases y with
      | none => exact g.elim
      | some p =>
        obtain ⟨a1, a2, a3⟩ := g
        rw [← a1] at a2 a3 hb
        exact ⟨hb, a2, a3⟩
  · cases hh
theorem ac_ast_ok {c : Nat} (hc : 13 ≤ c) (h : ab_cx xs C ν) (hL : ab_Ls C.1.length ν L Lc) (hst : ab_Vs C.1.length ν st sc) (hp : ac_hp kp σ0 C.1.length ν H σ) (hh : ac_ast kp c pc C L st H k n = some o) (hs : ac_sem kp σ0 xs C ν K Q CP o) :
    ∃ v x p s', sc = v :: .inl x :: .inr (.inr (some p)) :: s' ∧ p.1 = c ∧ m_tp (m_ty c 0) v ∧ vp_in x (σ.2.1 c p.2) ∧ K (pc + 1) Lc s' (m_set σ c p.2 x.toNatClampNeg v) k n := by
  unfold ac_ast at hh
  split at hh
  · rename_i v e z st'
    cases hb : (ac_ix kp.1 C c z e && ab_tp C c 0 v) with
    | false => rw [hb] at hh; cases hh
    | true =>
    rw [hb] at hh
    rw [Bool.and_eq_true] at hb
    dsimp only [cond_true] at hh
    obtain ⟨w, s0, rfl, g5, g6⟩ := ab_Vs_c hst
    obtain ⟨x, s1, rfl, g1, g2⟩ := ab_Vs_i g6
    obtain ⟨y, s', rfl, g3, g4⟩ := ab_Vs_a g2
    obtain ⟨p, rfl, h1, h2, h3, h4⟩ := ac_ix_ok h hp.1.2.1 g3 g1 hb.1
    cases hr : ac_wr kp C H c z.2.1 e v with
    | none => rw [hr] at hh; cases hh
    | some H' =>
      rw [hr] at hh
      have ht := ab_tp_ok h g5 hb.2
      exact ⟨w, x, p, s', rfl, h1, ht, h3, ac_1_ok hh hs (ab_up.rf h) hL g4 (ac_wr_ok h hp h2 h4 g5 (by rw [m_ty_c hc]; exact ht) hr)⟩
  · cases hh
end ACB
