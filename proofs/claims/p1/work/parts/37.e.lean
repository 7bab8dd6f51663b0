/-! the beginning: both constructors -/
def ab_H0 : ab_H := ([(0, (0, 0)), (1, (0, 0)), (2, (0, 0)), (3, (0, 0)), (4, (0, 0)), (5, (0, 0)), (6, (0, 0)), (7, (0, 0)), (8, (0, 0)), (9, (0, 0)), (10, (0, 0)), (11, (0, 0)), (12, (0, 0)), (13, (0, 0)), (14, (0, 0)), (15, (0, 0)), (16, (0, 0)), (17, (0, 0)), (18, (0, 0)), (19, (0, 0)), (20, (0, 0)), (21, (0, 0)), (98, (0, 1))], [], [], [])
def ab_S0 : ab_S := (ab_C0, 0, [some (.inr (.inr (.inl (98, (0, 0), (0, 1))))), none, none, none, none, none, none, none], [], ab_H0, 0, 0)
def ab_cutA (j pc : Nat) : Bool := Nat.beq j 999 && Nat.beq pc 23
def ab_ckA (S : ab_S) : Bool := Nat.beq S.2.1 23 && (ab_ckL ab_L0m S.2.2.1 && (S.2.2.2.1.isEmpty && (ab_imp2 S.1 S.2.2.2.2.1 ab_HB && (Nat.beq S.2.2.2.2.2.1 414 && (Nat.beq S.2.2.2.2.2.2 251731 && Nat.beq S.1.1.length 2)))))
def ab_outA : Option (List ab_Z) := ab_go (ab_SPx [ab_eA0, ab_eA1]) ab_LP ab_PL ab_AB ab_cutA 4000 true 999 ab_main [] ab_S0
def ab_isA (z : ab_Z) : Bool := match z with
  | .inr S => ab_ckA S
  | .inl _ => false
theorem ab_stA : (match ab_outA with
  | some l => l.all ab_isA
  | none => false) = true := by decide +kernel
theorem ab_case_34 : ab_nthX (ab_SPx [ab_eB0, ab_eB1]) 34 ab_k34 = true := by decide +kernel
