/-! the turns' stretches by computing -/
def ac_segA (q : Nat × Nat) : Bool := ac_seg ac_CA q.1 q.2 (2, 0) 1 0
def ac_segB (q : Nat × Nat) : Bool := ac_seg ac_CB q.2 23 (2, 8) 0 60000
def ac_idB (es : List ab_E) : Bool := (List.range 14).all (fun j => ab_eE (ac_ge es j) (j, 0))
def ac_ok0 (z : ac_Z) : Bool := match z with
  | .inl e => (match e.2.1 with
    | .inl (some (.inl v)) => ab_eE v (0, 1)
    | _ => false)
  | .inr S => ac_tgs.any (Nat.beq S.2.1) && (match ac_esT S (2, 0) with
    | none => false
    | some es => ac_can S es ac_TT0 && (ac_idB es && (ab_leq S.1 (2, 8) (1, 0) && (ab_le (ab_iv S.1.1 (2, 0)).2 4088 && (Nat.beq S.2.2.2.2.2.1 0 && Nat.beq S.2.2.2.2.2.2 0)))))
def ac_c0 (j pc : Nat) : Bool := Nat.beq j 999 && ac_tgs.any (Nat.beq pc)
def ac_spB (w : Int × Int) (k : Nat) (v : Int) : ab_C := (((ac_BB.set (8 + k) (v, v)).set (11 + k) (1, ac_p5 v)) ++ [w], [(2, 1, -8)], [((2, 1), (14, 0))])
def ac_segS (C : ab_C) : Bool := ac_seg C 867 23 (2, 8) 0 60000
theorem ac_s0 : ac_allZ (ac_gT ac_c0 true 999 ac_mainT [] (ac_TS ac_CH 23)) ac_ok0 = true := by decide +kernel
theorem ac_sAs : ac_segA ac_sp = true := by decide +kernel
theorem ac_sR : ac_segs ac_CA 1462 [.inl (0, 1)] 23 (2, 8) 1 60000 = true := by decide +kernel
