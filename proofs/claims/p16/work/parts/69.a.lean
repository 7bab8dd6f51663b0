/-! the turns' stretches by computing -/
def ac_segA (q : Nat × Nat) : Bool := ac_seg ac_CA q.1 q.2 (2, 0) 1 0
def ac_segB (q : Nat × Nat) : Bool := ac_seg ac_CB q.2 23 (2, 8) 0 60000
def ac_idB (es : List ab_E) : Bool := (List.range 14).all (fun j => ab_eE (ac_ge es j) (j, 0))
def ac_ok0 (z : ac_Z) : Bool := match z with
  | .inl e => (match e.2.1 with
    | .inl (some (.inl v)) => ab_eE v (0, 1)
    | _ => false)
  | .inr S => ac_tgs.any (Nat.beq S.2.1) && (match ac_esT S (2, 0) with
    | none => false
    | some es => ac_can S es ac_TT0 && (ac_idB es && (ab_leq S.1 (2, 8) (1, 0) && (ab_le (ab_iv S.1.1 (2, 0)).2 4088 && (Nat.beq S.2.2.2.2.2.1 0 && Nat.beq S.2.2.2.2.2.2 0)))))
def ac_c0 (j pc : Nat) : Bool := Nat.beq j 999 && ac_tgs.any (Nat.beq pc)
def ac_spA (w : Int × Int) (k : Nat) (v : Int) : ab_C := (((ac_BA.set (8 + k) (v, v)).set (11 + k) (1, ac_p5 v)) ++ [w], [(2, 1, -8)], [((2, 1), (14, 0))])
def ac_sp2 (B : ab_Bx) (k v : Nat) (w : Int × Int) : ab_C := ((((B.set (8 + k) ((v : Int), (v : Int))).set (11 + k) (1, ac_p5 (v : Int))) ++ [((k : Int), (k : Int))]) ++ [w], [(2, 1, -8)], [((2, 1), (14, 0)), ((2, 2), (15, 0))])
def ac_segS (C : ab_C) : Bool := ac_seg C 848 23 (2, 8) 1 60000
def ac_T0 : List (Option ab_V) × List ac_O := (ac_LT, ac_OT)
def ac_T5 (k : Nat) : List (Option ab_V) × List ac_O := (ac_LT.set 5 (some (.inl (0, 0))), (14, (0, 22), (0, 0), .inr (.inl (8 + k, 1))) :: ac_OT.map (fun o => bif Nat.beq o.1 8 && ab_eE o.2.1 (0, (k : Int)) then (o.1, o.2.1, o.2.2.1, .inl (8 + k, 1)) else o))
def ac_s5A (q : Nat × Nat) : Bool := ac_segG (ac_sp2 ac_BA q.1 q.2 (2, 5)) ac_T0 848 867 (ac_T5 q.1) (2, 0) 1 0 true
def ac_s5B (q : Nat × Nat) : Bool := ac_segG (ac_sp2 ac_BB q.1 q.2 (2, 5)) (ac_T5 q.1) 867 23 ac_T0 (2, 8) 0 60000 false
theorem ac_s0 : ac_allZ (ac_gT ac_c0 true 999 ac_mainT [] (ac_TS ac_CH 23)) ac_ok0 = true := by decide +kernel
theorem ac_sR : ac_seg ac_CA 1491 23 (2, 8) 1 60000 = true := by decide +kernel
