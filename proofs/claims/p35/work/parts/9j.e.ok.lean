/-! the calls of the law's turns -/
def ac_cms : List ac_Ct := [ac_corder, ac_copen, ac_cspread]
def ac_SPn (kp : ac_Kp) : ac_SP := ac_SPm ac_cms kp
theorem ac_SPn_ok {l : Launch} (hl : l.stackTraces = false) (W : List ab_G) : ac_SPok l (ac_K0, W) (ac_SPn (ac_K0, W)) := ac_SPm_ok hl (cms := ac_cms) (fun ct hct => by
  rcases List.mem_cons.mp hct with rfl | hct
  · exact ac_chm_ok hl (ac_SPl_ok hl) ac_tm_order
  rcases List.mem_cons.mp hct with rfl | hct
  · exact ac_chm_ok hl (ac_SPl_ok hl) ac_tm_open
  rcases List.mem_cons.mp hct with rfl | hct
  · exact ac_chm_ok hl (ac_SPl_ok hl) ac_tm_spread
  cases hct) W
