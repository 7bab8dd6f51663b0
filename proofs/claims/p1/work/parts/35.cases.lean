/-! the cases of the law's loop -/
def ab_cutS (j pc : Nat) : Bool := Nat.beq j 999 && ab_tg.any (Nat.beq pc)
def ab_nc (_ _ : Nat) : Bool := false
def ab_outs : Option (List ab_Z) := ab_go ab_SP0 ab_LP ab_PL ab_AB ab_cutS 60 true 999 ab_main [] ab_SB
def ab_run (K : ab_H) (z : ab_Z) : Bool := match z with
  | .inl e => ab_isT (.inl e)
  | .inr S => ab_imp S.1 S.2.2.2.2.1 K && ab_fin (ab_go ab_SP0 ab_LP ab_PL ab_AB ab_nc 4000 true 999 ab_main [] (S.1, S.2.1, S.2.2.1, S.2.2.2.1, K, S.2.2.2.2.2))
def ab_nth (n : Nat) (K : ab_H) : Bool := match ab_outs with
  | some l => (match l[n]? with
    | some z => ab_run K z
    | none => false)
  | none => false
theorem ab_outs_len : (match ab_outs with | some l => Nat.beq l.length 36 | none => false) = true := by decide +kernel
