/-! one step of the analysis: what comes next, an end, or a call -/
def ab_eE (e f : ab_E) : Bool := Nat.beq e.1 f.1 && (ab_le e.2 f.2 && ab_le f.2 e.2)
theorem ab_eE_ok {e f : ab_E} (h : ab_eE e f = true) : e = f := by
  unfold ab_eE at h
  simp only [Bool.and_eq_true, ab_le_ok] at h
  exact Prod.ext (Nat.eq_of_beq_eq_true h.1) (by omega)
abbrev ab_W : Type := List ab_S ⊕ ab_Q ⊕ (Nat × List ab_V × List ab_V)
def ab_1 (C : ab_C) (pc : Nat) (L : List (Option ab_V)) (st : List ab_V) (H : ab_H) (k n : Nat) : Option ab_W := some (.inl [(C, pc, L, st, H, k, n)])
def ab_get (r : mRow) (pc : Nat) (C : ab_C) (L : List (Option ab_V)) (st : List ab_V) (H : ab_H) (k n : Nat) : Option ab_W := match st with
  | .inr (.inr (.inl z)) :: st => bif Nat.beq z.1 r.2.2.1 && ab_nn C z then (match ab_rd C H r.2.2.1 z.2.1 (0, (r.2.2.2.1 : Int)) with
      | some q => ab_1 q.1 (pc + 3) L (q.2 :: st) H k n
      | none => none) else none
  | _ => none
def ab_putf (r : mRow) (pc : Nat) (C : ab_C) (L : List (Option ab_V)) (st : List ab_V) (H : ab_H) (k n : Nat) : Option ab_W := match st with
  | v :: .inr (.inr (.inl z)) :: st => bif Nat.beq z.1 r.2.2.1 && (ab_nn C z && ab_tp C r.2.2.1 r.2.2.2.1 v) then (match ab_wr C H r.2.2.1 z.2.1 (0, (r.2.2.2.1 : Int)) v with
      | some H' => ab_1 C (pc + 3) L st H' k n
      | none => none) else none
  | _ => none
def ab_len (ms : Bool) (pc : Nat) (C : ab_C) (L : List (Option ab_V)) (st : List ab_V) (H : ab_H) (k n : Nat) : Option ab_W := match st with
  | .inr (.inr (.inl z)) :: st => bif ab_nn C z then (bif Nat.beq z.1 98 then (bif ms then ab_1 C (pc + 1) L (.inl (1, 0) :: st) H k n else none) else
      bif Nat.ble 13 z.1 && Nat.ble z.1 21 then (match ab_alen H z.1 (ab_iv C.1 z.2.1) with
        | some len => bif Nat.blt len 2147483648 then ab_1 C (pc + 1) L (.inl (0, (len : Int)) :: st) H k n else none
        | none => none) else none) else none
  | _ => none
def ab_ald (c : Nat) (pc : Nat) (C : ab_C) (L : List (Option ab_V)) (st : List ab_V) (H : ab_H) (k n : Nat) : Option ab_W := match st with
  | .inl e :: .inr (.inr (.inl z)) :: st => bif ab_ix C H c z e then (match ab_rd C H c z.2.1 e with
      | some q => ab_1 q.1 (pc + 1) L (q.2 :: st) H k n
      | none => none) else none
  | _ => none
def ab_ials (ms : Bool) (pc : Nat) (C : ab_C) (L : List (Option ab_V)) (st : List ab_V) (H : ab_H) (k n : Nat) : Option ab_W := match st with
  | .inl e :: .inr (.inr (.inl z)) :: st' => bif Nat.beq z.1 98 then (bif ms && (ab_nn C z && (ab_leq C (0, 0) e && ab_leq C (e.1, e.2 + 1) (1, 0))) then ab_1 (ab_xc C e).1 (pc + 1) L (.inl (ab_xc C e).2 :: st') H k n else none) else ab_ald 13 pc C L st H k n
  | _ => none
def ab_aldq (pc : Nat) (C : ab_C) (L : List (Option ab_V)) (st : List ab_V) (H : ab_H) (k n : Nat) : Option ab_W := match st with
  | .inl _ :: .inr (.inr (.inl z)) :: _ => bif Nat.ble 16 z.1 && Nat.ble z.1 21 then ab_ald z.1 pc C L st H k n else none
  | _ => none
def ab_ast (c : Nat) (pc : Nat) (C : ab_C) (L : List (Option ab_V)) (st : List ab_V) (H : ab_H) (k n : Nat) : Option ab_W := match st with
  | v :: .inl e :: .inr (.inr (.inl z)) :: st => bif ab_ix C H c z e && ab_tp C c 0 v then (match ab_wr C H c z.2.1 e v with
      | some H' => ab_1 C (pc + 1) L st H' k n
      | none => none) else none
  | _ => none
def ab_astq (pc : Nat) (C : ab_C) (L : List (Option ab_V)) (st : List ab_V) (H : ab_H) (k n : Nat) : Option ab_W := match st with
  | .inr (.inr (.inl d)) :: .inl _ :: .inr (.inr (.inl z)) :: _ => bif Nat.ble 16 z.1 && (Nat.ble z.1 20 && (ab_nn C d && Nat.beq d.1 (m_el z.1))) then ab_ast z.1 pc C L st H k n else none
  | _ => none
def ab_newo (R : Room) (nL mc ms : Nat) (r : mRow) (pc : Nat) (C : ab_C) (L : List (Option ab_V)) (st : List ab_V) (H : ab_H) (k n : Nat) : Option ab_W :=
  bif Nat.blt r.2.2.1 13 then (match ab_cnt H r.2.2.1 with
    | some e => bif ab_rm R (k + 1) (n + m_nf r.2.2.1) then ab_1 C (pc + 3) L (.inr (.inr (.inl (r.2.2.1, e, (0, 1)))) :: st) (ab_nw C H r.2.2.1 0 false e) (k + 1) (n + m_nf r.2.2.1) else none
    | none => none)
  else bif Nat.beq L.length nL && (Nat.blt 5 R.frames && (Nat.ble (ab_sum st + 82) R.locals && (ab_rm R (k + 1) (n + 6) && (Nat.ble (k + 1) mc && Nat.ble (n + 6) ms)))) then some (.inr (.inl (C, .inr (r.2.2.1 - 100), H))) else none
def ab_newa (R : Room) (r : mRow) (d pc : Nat) (C : ab_C) (L : List (Option ab_V)) (st : List ab_V) (H : ab_H) (k n : Nat) : Option ab_W := match st with
  | .inl e :: st => bif Nat.beq e.1 0 && (ab_le 0 e.2 && (ab_le e.2 1000000 && (ab_rm R (k + 1) (n + e.2.toNat) && Nat.ble 13 r.2.2.1))) then (match ab_cnt H r.2.2.1 with
      | some f => ab_1 C (pc + d) L (.inr (.inr (.inl (r.2.2.1, f, (0, 1)))) :: st) (ab_nw C H r.2.2.1 e.2.toNat true f) (k + 1) (n + e.2.toNat)
      | none => none) else none
  | _ => none
def ab_mnB (x o : Nat) (c hi : Nat) : Bool := !(Nat.beq c 13 && Nat.ble x hi) && !(Nat.beq c 21 && Nat.ble o hi)
/-- the heap behind new int[4][3] -/
def ab_mnH (H : ab_H) (x o : Nat) : ab_H :=
  (H.1.map (fun q => bif Nat.beq q.1 13 then (q.1, (q.2.1, q.2.2 + 4)) else bif Nat.beq q.1 21 then (q.1, (q.2.1, q.2.2 + 1)) else q), (13, x, x + 3, 3) :: (21, o, o, 4) :: H.2.1,
   (13, x, x + 3, 0, 2, (0, 0, 0, 0, 0, 0)) :: (21, o, o, 0, 0, (2, 13, (x : Int), (x : Int), 1, 1)) :: (21, o, o, 1, 1, (2, 13, ((x + 1 : Nat) : Int), ((x + 1 : Nat) : Int), 1, 1)) :: (21, o, o, 2, 2, (2, 13, ((x + 2 : Nat) : Int), ((x + 2 : Nat) : Int), 1, 1)) :: (21, o, o, 3, 3, (2, 13, ((x + 3 : Nat) : Int), ((x + 3 : Nat) : Int), 1, 1)) :: (21, o, o, 0, 3, (2, 13, (x : Int), ((x + 3 : Nat) : Int), 1, 1)) :: H.2.2.1, H.2.2.2)
def ab_mna (R : Room) (pc : Nat) (C : ab_C) (L : List (Option ab_V)) (st : List ab_V) (H : ab_H) (k n : Nat) : Option ab_W := match st with
  | .inl f :: .inl e :: st => bif ab_eE f (0, 3) && (ab_eE e (0, 4) && ab_rm R (k + 5) (n + 16)) then (match ab_cnt H 13, ab_cnt H 21 with
    | some b, some o => bif Nat.beq b.1 0 && (Nat.beq o.1 0 && (H.2.1.all (fun q => ab_mnB b.2.toNat o.2.toNat q.1 q.2.2.1) && (H.2.2.1.all (fun g => ab_mnB b.2.toNat o.2.toNat g.1 g.2.2.1) && H.2.2.2.all (fun q => ab_mnB b.2.toNat o.2.toNat q.1 q.2.1)))) then ab_1 C (pc + 4) L (.inr (.inr (.inl (21, o, (0, 1)))) :: st) (ab_mnH H b.2.toNat o.2.toNat) (k + 5) (n + 16) else none
    | _, _ => none) else none
  | _ => none
def ab_callV (R : Room) (y : mMt) (r : mRow) (C : ab_C) (st : List ab_V) (k n : Nat) : Option ab_W := match st.drop r.2.2.2.1 with
  | .inr (.inr (.inl z)) :: st' => bif Nat.beq z.1 (m_p r 5) && (ab_nn C z && (Nat.beq (st.take r.2.2.2.1).length r.2.2.2.1 && (Nat.ble (ab_sum st') 8 && ab_rm R (k + y.2.2.2.2.1.cells) (n + y.2.2.2.2.1.slots)))) then some (.inr (.inr (r.2.2.1, .inr (.inr (.inl z)) :: (st.take r.2.2.2.1).reverse, st'))) else none
  | _ => none
def ab_callS (R : Room) (y : mMt) (r : mRow) (st : List ab_V) (k n : Nat) : Option ab_W :=
  bif Nat.beq (st.take r.2.2.2.1).length r.2.2.2.1 && (Nat.ble (ab_sum (st.drop r.2.2.2.1)) 8 && ab_rm R (k + y.2.2.2.2.1.cells) (n + y.2.2.2.2.1.slots)) then some (.inr (.inr (r.2.2.1, (st.take r.2.2.2.1).reverse, st.drop r.2.2.2.1))) else none
def ab_math (R : Room) (a pc : Nat) (C : ab_C) (L : List (Option ab_V)) (st : List ab_V) (H : ab_H) (k n : Nat) : Option ab_W := match a, st with
  | 1000, .inl f :: .inl e :: st => bif Nat.ble (ab_sum st + 13) R.locals then ab_1 (ab_max C e f).1 (pc + 3) L (.inl (ab_max C e f).2 :: st) H k n else none
  | 1001, .inl f :: .inl e :: st => bif Nat.ble (ab_sum st + 13) R.locals then ab_1 (ab_min C e f).1 (pc + 3) L (.inl (ab_min C e f).2 :: st) H k n else none
  | 1002, .inl e :: st => bif Nat.ble (ab_sum st + 13) R.locals then ab_1 (ab_abs C e).1 (pc + 3) L (.inl (ab_abs C e).2 :: st) H k n else none
  | 1003, .inr (.inl f) :: .inr (.inl e) :: st => bif Nat.ble (ab_sum st + 15) R.locals then ab_1 (ab_max C e f).1 (pc + 3) L (.inr (.inl (ab_max C e f).2) :: st) H k n else none
  | 1004, .inr (.inl f) :: .inr (.inl e) :: st => bif Nat.ble (ab_sum st + 15) R.locals then ab_1 (ab_min C e f).1 (pc + 3) L (.inr (.inl (ab_min C e f).2) :: st) H k n else none
  | _, _ => none
def ab_obj (R : Room) (pc : Nat) (C : ab_C) (L : List (Option ab_V)) (st : List ab_V) (H : ab_H) (k n : Nat) : Option ab_W := match st with
  | .inr (.inr (.inl z)) :: st => bif ab_nn C z && Nat.ble (ab_sum st + 12) R.locals then ab_1 C (pc + 3) L st H k n else none
  | _ => none
/-- what a method returns: 0 nothing, 1 int, 2 boolean, 3 long, 4 a reference -/
def ab_rt (rt : Option FieldType) : Nat := match rt with
  | none => 0
  | some .int => 1
  | some .boolean => 2
  | some .long => 3
  | some (.object _) => 4
  | some (.array _) => 4
  | _ => 5
def ab_iret (rt : Option FieldType) (C : ab_C) (st : List ab_V) (H : ab_H) : Option ab_W := match st with
  | [.inl e] => bif Nat.beq (ab_rt rt) 1 || (Nat.beq (ab_rt rt) 2 && (ab_le 0 (ab_iv C.1 e).1 && ab_le (ab_iv C.1 e).2 1)) then some (.inr (.inl (C, .inl (some (.inl e)), H))) else none
  | _ => none
def ab_lret (rt : Option FieldType) (C : ab_C) (st : List ab_V) (H : ab_H) : Option ab_W := match st with
  | [.inr (.inl e)] => bif Nat.beq (ab_rt rt) 3 then some (.inr (.inl (C, .inl (some (.inr (.inl e))), H))) else none
  | _ => none
def ab_aret (rt : Option FieldType) (C : ab_C) (st : List ab_V) (H : ab_H) : Option ab_W := match st with
  | [.inr (.inr (.inl z))] => bif Nat.beq (ab_rt rt) 4 then some (.inr (.inl (C, .inl (some (.inr (.inr (.inl z)))), H))) else none
  | _ => none
def ab_vret (rt : Option FieldType) (C : ab_C) (st : List ab_V) (H : ab_H) : Option ab_W := match st with
  | [] => bif Nat.beq (ab_rt rt) 0 then some (.inr (.inl (C, .inl none, H))) else none
  | _ => none
/-- a table of places -/
def ab_tb (C : ab_C) (pc : Nat) (L : List (Option ab_V)) (st : List ab_V) (H : ab_H) (k n : Nat) (e : ab_E) (lo : Int) : List Int → List ab_S
  | [] => []
  | o :: t => bif ab_le (ab_iv C.1 e).1 lo && ab_le lo (ab_iv C.1 e).2 then (ab_asm C .eq e (0, lo), ((pc : Int) + o).toNat, L, st, H, k, n) :: ab_tb C pc L st H k n e (lo + 1) t else ab_tb C pc L st H k n e (lo + 1) t
def ab_sw (d lo hi : Int) (offs : Array Int) (pc : Nat) (C : ab_C) (L : List (Option ab_V)) (st : List ab_V) (H : ab_H) (k n : Nat) : Option ab_W := match st with
  | .inl e :: st => bif ab_le (hi + 1) (lo + (offs.size : Int)) then some (.inl (ab_tb C pc L st H k n e lo offs.toList ++ (bif ab_le lo (ab_iv C.1 e).1 && ab_le (ab_iv C.1 e).2 hi then [] else [(C, ((pc : Int) + d).toNat, L, st, H, k, n)]))) else none
  | _ => none
def ab_bare (r : mRow) (pc : Nat) (C : ab_C) (L : List (Option ab_V)) (st : List ab_V) (H : ab_H) (k n : Nat) : Option ab_W := match ab_br r C st with
  | some q => (match q.1 with
    | some true => ab_1 C r.2.2.1 L q.2.2.2 H k n
    | some false => ab_1 C (pc + 3) L q.2.2.2 H k n
    | none => some (.inl [(q.2.1, r.2.2.1, L, q.2.2.2, H, k, n), (q.2.2.1, pc + 3, L, q.2.2.2, H, k, n)]))
  | none => match ab_pu r pc C L st with
    | some q => ab_1 q.1 q.2.1 q.2.2.1 q.2.2.2 H k n
    | none => none
def ab_stp (ms : Bool) (y : mMt) (rows : List (Nat × mRow)) (pc : Nat) (C : ab_C) (L : List (Option ab_V)) (st : List ab_V) (H : ab_H) (k n : Nat) : Option ab_W := match m_at rows pc with
  | none => none
  | some r => match r.1 with
    | .getfield _ => ab_get r pc C L st H k n
    | .putfield _ => ab_putf r pc C L st H k n
    | .arraylength => ab_len ms pc C L st H k n
    | .iaload => ab_ials ms pc C L st H k n
    | .laload => ab_ald 14 pc C L st H k n
    | .baload => ab_ald 15 pc C L st H k n
    | .aaload => ab_aldq pc C L st H k n
    | .iastore => ab_ast 13 pc C L st H k n
    | .lastore => ab_ast 14 pc C L st H k n
    | .bastore => none
    | .aastore => ab_astq pc C L st H k n
    | .new _ => ab_newo y.2.2.2.2.1 y.2.2.1 y.2.2.2.2.1.cells y.2.2.2.2.1.slots r pc C L st H k n
    | .newarray _ => ab_newa y.2.2.2.2.1 r 2 pc C L st H k n
    | .anewarray _ => ab_newa y.2.2.2.2.1 r 3 pc C L st H k n
    | .multianewarray _ _ => ab_mna y.2.2.2.2.1 pc C L st H k n
    | .invokevirtual _ => bif Nat.beq L.length y.2.2.1 then (match m_mt[r.2.2.1]? with
      | some y' => ab_callV y.2.2.2.2.1 y' r C st k n
      | none => none) else none
    | .invokespecial _ => bif Nat.beq L.length y.2.2.1 then (bif Nat.beq r.2.2.1 2000 then ab_obj y.2.2.2.2.1 pc C L st H k n else match m_mt[r.2.2.1]? with
      | some y' => ab_callV y.2.2.2.2.1 y' r C st k n
      | none => none) else none
    | .invokestatic _ => bif Nat.beq L.length y.2.2.1 && ab_rm y.2.2.2.2.1 k n then (bif Nat.ble 1000 r.2.2.1 then ab_math y.2.2.2.2.1 r.2.2.1 pc C L st H k n else match m_mt[r.2.2.1]? with
      | some y' => ab_callS y.2.2.2.2.1 y' r st k n
      | none => none) else none
    | .ireturn => bif ab_rm y.2.2.2.2.1 k n then ab_iret y.2.2.2.1 C st H else none
    | .lreturn => bif ab_rm y.2.2.2.2.1 k n then ab_lret y.2.2.2.1 C st H else none
    | .areturn => bif ab_rm y.2.2.2.2.1 k n then ab_aret y.2.2.2.1 C st H else none
    | .return_ => bif ab_rm y.2.2.2.2.1 k n then ab_vret y.2.2.2.1 C st H else none
    | .tableswitch d lo hi offs => ab_sw d lo hi offs pc C L st H k n
    | _ => ab_bare r pc C L st H k n
section ABB
variable {xs : ab_X} {C : ab_C} {ν : ab_N} {H : ab_H} {σ : mS} {L : List (Option ab_V)} {Lc : List (Option mV)} {st : List ab_V} {sc : List mV} {pc k n : Nat} {r : mRow} {o : ab_W} {K : Nat → List (Option mV) → List mV → mS → Nat → Nat → Prop} {Q : mX → mS → Prop} {CP : Nat → List mV → List mV → Prop}
def ab_kq (xs : ab_X) (C : ab_C) (ν : ab_N) (K : Nat → List (Option mV) → List mV → mS → Nat → Nat → Prop) (q : ab_S) : Prop := ∀ ν' Lc' sc' σ', ab_up xs C ν q.1 ν' → ab_Ls q.1.1.length ν' q.2.2.1 Lc' → ab_Vs q.1.1.length ν' q.2.2.2.1 sc' → ab_hp q.1.1.length ν' q.2.2.2.2.1 σ' → K q.2.1 Lc' sc' σ' q.2.2.2.2.2.1 q.2.2.2.2.2.2
/-- what a step owes: CP says how calls go on -/
def ab_sem (xs : ab_X) (C : ab_C) (ν : ab_N) (K : Nat → List (Option mV) → List mV → mS → Nat → Nat → Prop) (Q : mX → mS → Prop) (CP : Nat → List mV → List mV → Prop) (o : ab_W) : Prop := match o with
  | .inl nx => ∀ q ∈ nx, ab_kq xs C ν K q
  | .inr (.inl e) => ∀ ν' x σ', ab_up xs C ν e.1 ν' → ab_xo e.1.1.length ν' e.2.1 x → ab_hp e.1.1.length ν' e.2.2 σ' → Q x σ'
  | .inr (.inr c) => ∀ avs sc', ab_Vs C.1.length ν c.2.1 avs → ab_Vs C.1.length ν c.2.2 sc' → CP c.1 avs sc'
theorem ab_1_ok {C' : ab_C} {pc' k' n' : Nat} {L' : List (Option ab_V)} {st' : List ab_V} {H' : ab_H} {ν' : ab_N} {Lc' : List (Option mV)} {sc' : List mV} {σ' : mS} (hh : ab_1 C' pc' L' st' H' k' n' = some o) (hs : ab_sem xs C ν K Q CP o) (u : ab_up xs C ν C' ν') (hL : ab_Ls C'.1.length ν' L' Lc') (hst : ab_Vs C'.1.length ν' st' sc') (hp : ab_hp C'.1.length ν' H' σ') : K pc' Lc' sc' σ' k' n' := by
  cases hh
  exact hs _ List.mem_cons_self ν' Lc' sc' σ' u hL hst hp
theorem ab_get_ok (h : ab_cx xs C ν) (hL : ab_Ls C.1.length ν L Lc) (hst : ab_Vs C.1.length ν st sc) (hp : ab_hp C.1.length ν H σ) (hh : ab_get r pc C L st H k n = some o) (hs : ab_sem xs C ν K Q CP o) : m_s_get r σ sc (fun st => K (pc + 3) Lc st σ k n) := by
  unfold ab_get at hh
  split at hh
  · rename_i z st'
    cases hb : (Nat.beq z.1 r.2.2.1 && ab_nn C z) with
    | false => rw [hb] at hh; cases hh
    | true =>
    rw [hb] at hh
    rw [Bool.and_eq_true] at hb
    dsimp only [cond_true] at hh
    obtain ⟨y, s', rfl, g1, g2⟩ := ab_Vs_a hst
    obtain ⟨p, rfl, h1, h2⟩ := ab_R_some h g1 hb.2
    cases hr : ab_rd C H r.2.2.1 z.2.1 (0, (r.2.2.2.1 : Int)) with
    | none => rw [hr] at hh; cases hh
    | some q =>
      rw [hr] at hh
      obtain ⟨ν', u, g⟩ := ab_rd_ok h hp h2 (ab_con h) hr
      refine ⟨h1.trans (Nat.eq_of_beq_eq_true hb.1), ?_⟩
      exact ab_1_ok hh hs u (hL.ex u.2.1 u.2.2) ⟨g, g2.ex u.2.1 u.2.2⟩ (hp.ex u.2.1 u.2.2)
  · cases hh
theorem ab_putf_ok (h : ab_cx xs C ν) (hL : ab_Ls C.1.length ν L Lc) (hst : ab_Vs C.1.length ν st sc) (hp : ab_hp C.1.length ν H σ) (hh : ab_putf r pc C L st H k n = some o) (hs : ab_sem xs C ν K Q CP o) : m_s_put r σ sc (fun st σ => K (pc + 3) Lc st σ k n) := by
  unfold ab_putf at hh
  split at hh
  · rename_i v z st'
    cases hb : (Nat.beq z.1 r.2.2.1 && (ab_nn C z && ab_tp C r.2.2.1 r.2.2.2.1 v)) with
    | false => rw [hb] at hh; cases hh
    | true =>
    rw [hb] at hh
    rw [Bool.and_eq_true, Bool.and_eq_true] at hb
    dsimp only [cond_true] at hh
    obtain ⟨x, s1, rfl, g1, g2⟩ := ab_Vs_c hst
    obtain ⟨y, s', rfl, g3, g4⟩ := ab_Vs_a g2
    obtain ⟨p, rfl, h1, h2⟩ := ab_R_some h g3 hb.2.1
    cases hr : ab_wr C H r.2.2.1 z.2.1 (0, (r.2.2.2.1 : Int)) v with
    | none => rw [hr] at hh; cases hh
    | some H' =>
      rw [hr] at hh
      have ht := ab_tp_ok h g1 hb.2.2
      exact ⟨h1.trans (Nat.eq_of_beq_eq_true hb.1), ht, ab_1_ok hh hs (ab_up.rf h) hL g4 (ab_wr_ok h hp h2 (ab_con h) g1 ht hr)⟩
  · cases hh
theorem ab_isx {z : Nat × ab_E × ab_E} {p : Nat × Nat} {s' : List mV} {st' : List mV} {i : Nat} (hd : st'.drop i = .inr (.inr (some p)) :: s') (h1 : p.1 = z.1) : m_isx st' i = Nat.beq z.1 98 := by
  unfold m_isx
  rw [hd]
  show Nat.beq p.1 98 = _
  rw [h1]
theorem ab_ofN {len : Nat} (h : len < 2147483648) : (Int32.ofNat len).toInt = (len : Int) := nI_toInt h
/-- the length of the script is the second unknown -/
def ab_xl (ms : Bool) (xs : ab_X) (C : ab_C) (ν : ab_N) : Prop := ms = true → ∃ z, xs = some z ∧ z.1 < 2147483648 ∧ ab_I C.1.length ν (1, 0) (z.1 : Int)
theorem ab_len_ok {ms : Bool} {xs0 : ab_X} (hx0 : ms = true → xs0 = xs) (hxl : ab_xl ms xs C ν) (h : ab_cx xs C ν) (hL : ab_Ls C.1.length ν L Lc) (hst : ab_Vs C.1.length ν st sc) (hp : ab_hp C.1.length ν H σ) (hh : ab_len ms pc C L st H k n = some o) (hs : ab_sem xs C ν K Q CP o) :
    bif m_isx sc 0 then m_s_xlen xs0 sc (fun st => K (pc + 1) Lc st σ k n) else m_s_len σ sc (fun st => K (pc + 1) Lc st σ k n) := by
  unfold ab_len at hh
  split at hh
  · rename_i z st'
    cases hb : ab_nn C z with
    | false => rw [hb] at hh; cases hh
    | true =>
    rw [hb] at hh
    dsimp only [cond_true] at hh
    obtain ⟨y, s', rfl, g1, g2⟩ := ab_Vs_a hst
    obtain ⟨p, rfl, h1, h2⟩ := ab_R_some h g1 hb
    rw [ab_isx (i := 0) (s' := s') (st' := .inr (.inr (some p)) :: s') rfl h1]
    cases hc : Nat.beq z.1 98 with
    | true =>
      rw [hc] at hh
      dsimp only [cond_true] at hh ⊢
      cases hm : ms with
      | false => rw [hm] at hh; cases hh
      | true =>
        rw [hm] at hh
        obtain ⟨w, e1, e2, e3⟩ := hxl hm
        rw [hx0 hm, e1]
        have e4 : ab_I C.1.length ν (1, 0) (Int32.ofNat w.1).toInt := by rw [ab_ofN e2]; exact e3
        exact ⟨e2, ab_1_ok hh hs (ab_up.rf h) hL ⟨e4, g2⟩ hp⟩
    | false =>
      rw [hc] at hh
      dsimp only [cond_false] at hh ⊢
      cases hd : (Nat.ble 13 z.1 && Nat.ble z.1 21) with
      | false => rw [hd] at hh; cases hh
      | true =>
      rw [hd] at hh
      rw [Bool.and_eq_true, Nat.ble_eq, Nat.ble_eq] at hd
      dsimp only [cond_true] at hh
      cases hl : ab_alen H z.1 (ab_iv C.1 z.2.1) with
      | none => rw [hl] at hh; cases hh
      | some len =>
        rw [hl] at hh
        dsimp only at hh
        cases he : Nat.blt len 2147483648 with
        | false => rw [he] at hh; cases hh
        | true =>
          rw [he] at hh
          rw [Nat.blt_eq] at he
          have b := ab_iv_ok h.1 h2
          have e1 := ab_alen_ok hp hl b.1 b.2
          rw [← h1] at e1 hd
          refine ⟨hd, ?_⟩
          show K (pc + 1) Lc (.inl (Int32.ofNat (σ.2.1 p.1 p.2)) :: s') σ k n
          rw [e1]
          have e4 : ab_I C.1.length ν (0, (len : Int)) (Int32.ofNat len).toInt := by rw [ab_ofN he]; exact ab_con h
          exact ab_1_ok hh hs (ab_up.rf h) hL ⟨e4, g2⟩ hp
  · cases hh
theorem ab_ald_ok {c : Nat} (h : ab_cx xs C ν) (hL : ab_Ls C.1.length ν L Lc) (hst : ab_Vs C.1.length ν st sc) (hp : ab_hp C.1.length ν H σ) (hh : ab_ald c pc C L st H k n = some o) (hs : ab_sem xs C ν K Q CP o) : m_s_ald c σ sc (fun st => K (pc + 1) Lc st σ k n) := by
  unfold ab_ald at hh
  split at hh
  · rename_i e z st'
    cases hb : ab_ix C H c z e with
    | false => rw [hb] at hh; cases hh
    | true =>
    rw [hb] at hh
    dsimp only [cond_true] at hh
    obtain ⟨x, s1, rfl, g1, g2⟩ := ab_Vs_i hst
    obtain ⟨y, s', rfl, g3, g4⟩ := ab_Vs_a g2
    obtain ⟨p, rfl, h1, h2, h3, h4⟩ := ab_ix_ok h hp g3 g1 hb
    cases hr : ab_rd C H c z.2.1 e with
    | none => rw [hr] at hh; cases hh
    | some q =>
      rw [hr] at hh
      obtain ⟨ν', u, g⟩ := ab_rd_ok h hp h2 h4 hr
      exact ⟨h1, h3, ab_1_ok hh hs u (hL.ex u.2.1 u.2.2) ⟨g, g4.ex u.2.1 u.2.2⟩ (hp.ex u.2.1 u.2.2)⟩
  · cases hh
theorem ab_ials_ok {ms : Bool} {xs0 : ab_X} (hx0 : ms = true → xs0 = xs) (hxl : ab_xl ms xs C ν) (h : ab_cx xs C ν) (hL : ab_Ls C.1.length ν L Lc) (hst : ab_Vs C.1.length ν st sc) (hp : ab_hp C.1.length ν H σ) (hh : ab_ials ms pc C L st H k n = some o) (hs : ab_sem xs C ν K Q CP o) :
    bif m_isx sc 1 then m_s_xld xs0 sc (fun st => K (pc + 1) Lc st σ k n) else m_s_ald 13 σ sc (fun st => K (pc + 1) Lc st σ k n) := by
  unfold ab_ials at hh
  split at hh
  · rename_i e z st'
    cases hc : Nat.beq z.1 98 with
    | true =>
      rw [hc] at hh
      dsimp only [cond_true] at hh
      cases hb : (ms && (ab_nn C z && (ab_leq C (0, 0) e && ab_leq C (e.1, e.2 + 1) (1, 0)))) with
      | false => rw [hb] at hh; cases hh
      | true =>
        rw [hb] at hh
        rw [Bool.and_eq_true, Bool.and_eq_true, Bool.and_eq_true] at hb
        obtain ⟨b1, b2, b3, b4⟩ := hb
        obtain ⟨x, s1, rfl, g1, g2⟩ := ab_Vs_i hst
        obtain ⟨y, s', rfl, g3, g4⟩ := ab_Vs_a g2
        obtain ⟨p, rfl, h1, h2⟩ := ab_R_some h g3 b2
        rw [ab_isx (i := 1) (s' := s') (st' := .inl x :: .inr (.inr (some p)) :: s') rfl h1, hc]
        obtain ⟨w, e1, e2, e3⟩ := hxl b1
        rw [hx0 b1, e1]
        have a1 := ab_leq_ok h (ab_con h) g1 b3
        have a2 := ab_leq_ok1 h g1 e3 b4
        have e5 : ab_I C.1.length ν e (x.toNatClampNeg : Int) := by rw [ab_clamp a1]; exact g1
        obtain ⟨ν', u, g⟩ := ab_xc_ok h e1 e5
        exact ⟨vp_in_iff.mpr ⟨a1, a2⟩, ab_1_ok hh hs u (hL.ex u.2.1 u.2.2) ⟨g, g4.ex u.2.1 u.2.2⟩ (hp.ex u.2.1 u.2.2)⟩
    | false =>
      rw [hc] at hh
      dsimp only [cond_false] at hh
      have hst0 := hst
      obtain ⟨x, s1, rfl, g1, g2⟩ := ab_Vs_i hst
      obtain ⟨y, s', rfl, g3, g4⟩ := ab_Vs_a g2
      have hn : m_isx (.inl x :: .inr (.inr y) :: s') 1 = false := by
        cases y with
        | none => rfl
        | some p =>
          rw [ab_isx (i := 1) (s' := s') (st' := .inl x :: .inr (.inr (some p)) :: s') rfl g3.2.2.2.1]
          exact hc
      rw [hn]
      exact ab_ald_ok h hL hst0 hp hh hs
  · cases hh
theorem ab_aldq_ok (h : ab_cx xs C ν) (hL : ab_Ls C.1.length ν L Lc) (hst : ab_Vs C.1.length ν st sc) (hp : ab_hp C.1.length ν H σ) (hh : ab_aldq pc C L st H k n = some o) (hs : ab_sem xs C ν K Q CP o) : m_s_aldq σ sc (fun st => K (pc + 1) Lc st σ k n) := by
  unfold ab_aldq at hh
  split at hh
  · rename_i e z st'
    cases hb : (Nat.ble 16 z.1 && Nat.ble z.1 21) with
    | false => rw [hb] at hh; cases hh
    | true =>
      rw [hb] at hh
      rw [Bool.and_eq_true, Nat.ble_eq, Nat.ble_eq] at hb
      have g := ab_ald_ok h hL hst hp hh hs
      obtain ⟨x, s1, rfl, g1, g2⟩ := ab_Vs_i hst
      obtain ⟨y, s', rfl, g3, g4⟩ := ab_Vs_a g2
      cases y with
      | none => exact g.elim
      | some p =>
        obtain ⟨a1, a2, a3⟩ := g
        rw [← a1] at a2 a3 hb
        exact ⟨hb, a2, a3⟩
  · cases hh
theorem m_ty_c {c : Nat} (hc : 13 ≤ c) (k : Nat) : m_ty c k = m_ty c 0 := by
  have h0 : m_tys[c]? = none := List.getElem?_eq_none (by show 13 ≤ c; exact hc)
  unfold m_ty
  rw [h0]
theorem ab_ast_ok {c : Nat} (hc : 13 ≤ c) (h : ab_cx xs C ν) (hL : ab_Ls C.1.length ν L Lc) (hst : ab_Vs C.1.length ν st sc) (hp : ab_hp C.1.length ν H σ) (hh : ab_ast c pc C L st H k n = some o) (hs : ab_sem xs C ν K Q CP o) :
    ∃ v x p s', sc = v :: .inl x :: .inr (.inr (some p)) :: s' ∧ p.1 = c ∧ m_tp (m_ty c 0) v ∧ vp_in x (σ.2.1 c p.2) ∧ K (pc + 1) Lc s' (m_set σ c p.2 x.toNatClampNeg v) k n := by
  unfold ab_ast at hh
  split at hh
  · rename_i v e z st'
    cases hb : (ab_ix C H c z e && ab_tp C c 0 v) with
    | false => rw [hb] at hh; cases hh
    | true =>
    rw [hb] at hh
    rw [Bool.and_eq_true] at hb
    dsimp only [cond_true] at hh
    obtain ⟨w, s0, rfl, g5, g6⟩ := ab_Vs_c hst
    obtain ⟨x, s1, rfl, g1, g2⟩ := ab_Vs_i g6
    obtain ⟨y, s', rfl, g3, g4⟩ := ab_Vs_a g2
    obtain ⟨p, rfl, h1, h2, h3, h4⟩ := ab_ix_ok h hp g3 g1 hb.1
    cases hr : ab_wr C H c z.2.1 e v with
    | none => rw [hr] at hh; cases hh
    | some H' =>
      rw [hr] at hh
      have ht := ab_tp_ok h g5 hb.2
      exact ⟨w, x, p, s', rfl, h1, ht, h3, ab_1_ok hh hs (ab_up.rf h) hL g4 (ab_wr_ok h hp h2 h4 g5 (by rw [m_ty_c hc]; exact ht) hr)⟩
  · cases hh
end ABB
