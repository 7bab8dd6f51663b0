/-! a stretch of main ahead of its loop, by computing -/
def n_B0 (o : ac_Z) : Bool := match o with
  | .inl _ => true
  | .inr S => v_room 400 3600 S && v_fit (some 8) 0 n_T162 18 S
def n_ck0 (gd : ar_D) (SP : ac_SP) : Bool := match v_seg gd (ac_K0, n_WX) SP n_LP n_PL (n_cut [(n_T162, 0, 0)]) 18 (ac_zR ab_main 400 3600) (some 8) n_T49 [] with
  | some outs => outs.all n_B0
  | none => false
theorem n_k49 : n_ck0 n_gd (n_SP (ac_K0, n_WX)) = true := by decide +kernel
