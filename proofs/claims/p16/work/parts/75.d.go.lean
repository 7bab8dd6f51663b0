/-! the replay behind it -/
/-- behind the second hall's making -/
def ac_kR : ac_Kp := (ac_KB, ac_WR)
def ac_SR1 : ac_S := (ac_C1, 18, ac_LR, [], (none, [], []), 347, 4031)
def ac_okRp (z : ac_Z) : Bool := match z with
  | .inl e => (match e.2.1 with
    | .inl (some (.inl _)) => true
    | _ => false) && (match e.2.2.1 with
    | none => true
    | some _ => false)
  | .inr _ => false
theorem ac_stR1 : ac_allZ (ac_go ac_kR (ac_SPt ac_kR ac_AB_5) ac_LPB ac_PL ac_nc 4000 false 157 ac_zRp [] ac_SR1) ac_okRp = true := by decide +kernel
