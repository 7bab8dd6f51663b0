/-! all contracts of the second tables hold -/
theorem ac_oB_1 {l : Launch} (hl : l.stackTraces = false) : ∀ ct ∈ ac_AB_1, ac_cok l ac_KB ct := by
  have new : ∀ ct ∈ ac_LB_1, ac_cok l ac_KB ct := by
    intro ct hct
    have hct : ct ∈ ac_LB_1_0 := hct
    exact ac_chk_ok hl (fun W => ac_SP0_ok l _) (List.all_eq_true.mp ac_tB_1_0 ct hct)
  exact new
theorem ac_oB_2 {l : Launch} (hl : l.stackTraces = false) : ∀ ct ∈ ac_AB_2, ac_cok l ac_KB ct := by
  have new : ∀ ct ∈ ac_LB_2, ac_cok l ac_KB ct := by
    intro ct hct
    have hct : ct ∈ ac_LB_2_0 ++ ac_LB_2_1 := hct
    rcases List.mem_append.mp hct with hct | h1
    rotate_left
    · exact ac_chk_ok hl (fun W => ac_SPt_ok (kp := (ac_KB, W)) (ac_oB_1 hl)) (List.all_eq_true.mp ac_tB_2_1 ct h1)
    exact ac_chk_ok hl (fun W => ac_SPt_ok (kp := (ac_KB, W)) (ac_oB_1 hl)) (List.all_eq_true.mp ac_tB_2_0 ct hct)
  intro ct hct
  rcases List.mem_append.mp hct with hct | hct
  · exact new ct hct
  · exact ac_oB_1 hl ct hct
theorem ac_oB_3 {l : Launch} (hl : l.stackTraces = false) : ∀ ct ∈ ac_AB_3, ac_cok l ac_KB ct := by
  have new : ∀ ct ∈ ac_LB_3, ac_cok l ac_KB ct := by
    intro ct hct
    have hct : ct ∈ ac_LB_3_0 ++ ac_LB_3_1 ++ ac_LB_3_2 := hct
    rcases List.mem_append.mp hct with hct | h2
    rotate_left
    · exact ac_chk_ok hl (fun W => ac_SPt_ok (kp := (ac_KB, W)) (ac_oB_2 hl)) (List.all_eq_true.mp ac_tB_3_2 ct h2)
    rcases List.mem_append.mp hct with hct | h1
    rotate_left
    · exact ac_chk_ok hl (fun W => ac_SPt_ok (kp := (ac_KB, W)) (ac_oB_2 hl)) (List.all_eq_true.mp ac_tB_3_1 ct h1)
    exact ac_chk_ok hl (fun W => ac_SPt_ok (kp := (ac_KB, W)) (ac_oB_2 hl)) (List.all_eq_true.mp ac_tB_3_0 ct hct)
  intro ct hct
  rcases List.mem_append.mp hct with hct | hct
  · exact new ct hct
  · exact ac_oB_2 hl ct hct
theorem ac_oB_4 {l : Launch} (hl : l.stackTraces = false) : ∀ ct ∈ ac_AB_4, ac_cok l ac_KB ct := by
  have new : ∀ ct ∈ ac_LB_4, ac_cok l ac_KB ct := by
    intro ct hct
    have hct : ct ∈ ac_LB_4_0 := hct
    exact ac_chk_ok hl (fun W => ac_SPt_ok (kp := (ac_KB, W)) (ac_oB_3 hl)) (List.all_eq_true.mp ac_tB_4_0 ct hct)
  intro ct hct
  rcases List.mem_append.mp hct with hct | hct
  · exact new ct hct
  · exact ac_oB_3 hl ct hct
theorem ac_oB_5 {l : Launch} (hl : l.stackTraces = false) : ∀ ct ∈ ac_AB_5, ac_cok l ac_KB ct := by
  have new : ∀ ct ∈ ac_LB_5, ac_cok l ac_KB ct := by
    intro ct hct
    have hct : ct ∈ ac_LB_5_0 := hct
    exact ac_chk_ok hl (fun W => ac_SPt_ok (kp := (ac_KB, W)) (ac_oB_4 hl)) (List.all_eq_true.mp ac_tB_5_0 ct hct)
  intro ct hct
  rcases List.mem_append.mp hct with hct | hct
  · exact new ct hct
  · exact ac_oB_4 hl ct hct
theorem ac_oB_6 {l : Launch} (hl : l.stackTraces = false) : ∀ ct ∈ ac_AB_6, ac_cok l ac_KB ct := by
  have new : ∀ ct ∈ ac_LB_6, ac_cok l ac_KB ct := by
    intro ct hct
    have hct : ct ∈ ac_LB_6_0 := hct
    exact ac_chk_ok hl (fun W => ac_SPt_ok (kp := (ac_KB, W)) (ac_oB_5 hl)) (List.all_eq_true.mp ac_tB_6_0 ct hct)
  intro ct hct
  rcases List.mem_append.mp hct with hct | hct
  · exact new ct hct
  · exact ac_oB_5 hl ct hct
