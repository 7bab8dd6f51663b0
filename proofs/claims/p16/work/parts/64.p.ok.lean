/-! the calls of the law's turns -/
def ac_cms : List ac_Ct := [ac_corder, ac_copen, ac_cspread]
/-- gone through where the call is of this kind -/
def ac_ex : List Nat := [61, 62, 36, 116]
def ac_exB (j : Nat) (O : List ac_O) : Bool := ac_ex.any (Nat.beq j) && O.any (fun o => Nat.beq o.1 1 && (ab_eE o.2.2.1 (0, 0) && (match o.2.2.2 with
  | .inl e => ab_eE e (0, 10)
  | _ => false)))
def ac_SPn (kp : ac_Kp) : ac_SP := fun j args C H => bif ac_exB j H.2.1 then none else ac_SPm ac_cms kp j args C H
theorem ac_SPn0_ok {l : Launch} (hl : l.stackTraces = false) (W : List ab_G) : ac_SPok l (ac_K0, W) (ac_SPm ac_cms (ac_K0, W)) := ac_SPm_ok hl (cms := ac_cms) (fun ct hct => by
  rcases List.mem_cons.mp hct with rfl | hct
  · exact ac_chm_ok hl (ac_SPl_ok hl) ac_tm_order
  rcases List.mem_cons.mp hct with rfl | hct
  · exact ac_chm_ok hl (ac_SPl_ok hl) ac_tm_open
  rcases List.mem_cons.mp hct with rfl | hct
  · exact ac_chm_ok hl (ac_SPl_ok hl) ac_tm_spread
  cases hct) W
theorem ac_SPn_ok {l : Launch} (hl : l.stackTraces = false) (W : List ab_G) : ac_SPok l (ac_K0, W) (ac_SPn (ac_K0, W)) := by
  intro j args C H outs hs
  unfold ac_SPn at hs
  cases hb : ac_exB j H.2.1 with
  | true => rw [hb] at hs; cases hs
  | false =>
    rw [hb] at hs
    exact ac_SPn0_ok hl W j args C H outs hs
