/-! the second hall is made new -/
def ac_zRp : mAl := ((yX11_replays, cX11_replays, 3, some .boolean, { frames := 7, cells := 347, slots := 4031, locals := 190 }, []), rw_X11_replays, false)
theorem ac_zRp_at : m_alF[157]? = some ac_zRp := rfl
def ac_cR (j pc : Nat) : Bool := Nat.beq j 157 && Nat.beq pc 18
def ac_LR : List (Option ab_V) := [some (.inr (.inr (.inl (11, (0, 0), (0, 1))))), none, none]
def ac_SR0 : ab_S := (ab_Ce, 0, ac_LR, [], ac_HR, 0, 0)
def ac_HGB : ab_H := ([], ac_lnB, ac_rwB.map ac_nl, [])
def ac_outR : Option (List ab_Z) := ad_go (ab_SPx [ac_eB0, ac_eB1]) ac_LPn ac_PLn ac_ABt ac_cR 4000 false 157 ac_zRp [] ac_SR0
def ac_ckRp (S : ab_S) : Bool := Nat.beq S.2.1 18 && (ab_ckL ac_LR S.2.2.1 && (S.2.2.2.1.isEmpty && (ab_imp2 S.1 S.2.2.2.2.1 ac_HGB && (Nat.beq S.2.2.2.2.2.1 347 && Nat.beq S.2.2.2.2.2.2 4031))))
def ac_isR (z : ab_Z) : Bool := match z with
  | .inr S => ac_ckRp S
  | .inl _ => false
theorem ac_stR : (match ac_outR with
  | some l => l.all ac_isR
  | none => false) = true := by decide +kernel
