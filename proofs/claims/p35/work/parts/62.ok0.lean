/-! all contracts of the first tables hold -/
theorem ac_o0_1 {l : Launch} (hl : l.stackTraces = false) : ∀ ct ∈ ac_A0_1, ac_cok l ac_K0 ct := by
  have new : ∀ ct ∈ ac_L0_1, ac_cok l ac_K0 ct := by
    intro ct hct
    have hct : ct ∈ ac_L0_1_0 ++ ac_L0_1_1 ++ ac_L0_1_2 ++ ac_L0_1_3 := hct
    rcases List.mem_append.mp hct with hct | h3
    rotate_left
    · exact ac_chk_ok hl (fun W => ac_SP0_ok l _) (List.all_eq_true.mp ac_t0_1_3 ct h3)
    rcases List.mem_append.mp hct with hct | h2
    rotate_left
    · exact ac_chk_ok hl (fun W => ac_SP0_ok l _) (List.all_eq_true.mp ac_t0_1_2 ct h2)
    rcases List.mem_append.mp hct with hct | h1
    rotate_left
    · exact ac_chk_ok hl (fun W => ac_SP0_ok l _) (List.all_eq_true.mp ac_t0_1_1 ct h1)
    exact ac_chk_ok hl (fun W => ac_SP0_ok l _) (List.all_eq_true.mp ac_t0_1_0 ct hct)
  exact new
theorem ac_o0_2 {l : Launch} (hl : l.stackTraces = false) : ∀ ct ∈ ac_A0_2, ac_cok l ac_K0 ct := by
  have new : ∀ ct ∈ ac_L0_2, ac_cok l ac_K0 ct := by
    intro ct hct
    have hct : ct ∈ ac_L0_2_0 ++ ac_L0_2_1 := hct
    rcases List.mem_append.mp hct with hct | h1
    rotate_left
    · exact ac_chk_ok hl (fun W => ac_SPt_ok (kp := (ac_K0, W)) (ac_o0_1 hl)) (List.all_eq_true.mp ac_t0_2_1 ct h1)
    exact ac_chk_ok hl (fun W => ac_SPt_ok (kp := (ac_K0, W)) (ac_o0_1 hl)) (List.all_eq_true.mp ac_t0_2_0 ct hct)
  intro ct hct
  rcases List.mem_append.mp hct with hct | hct
  · exact new ct hct
  · exact ac_o0_1 hl ct hct
theorem ac_o0_3 {l : Launch} (hl : l.stackTraces = false) : ∀ ct ∈ ac_A0_3, ac_cok l ac_K0 ct := by
  have new : ∀ ct ∈ ac_L0_3, ac_cok l ac_K0 ct := by
    intro ct hct
    have hct : ct ∈ ac_L0_3_0 ++ ac_L0_3_1 := hct
    rcases List.mem_append.mp hct with hct | h1
    rotate_left
    · exact ac_chk_ok hl (fun W => ac_SPt_ok (kp := (ac_K0, W)) (ac_o0_2 hl)) (List.all_eq_true.mp ac_t0_3_1 ct h1)
    exact ac_chk_ok hl (fun W => ac_SPt_ok (kp := (ac_K0, W)) (ac_o0_2 hl)) (List.all_eq_true.mp ac_t0_3_0 ct hct)
  intro ct hct
  rcases List.mem_append.mp hct with hct | hct
  · exact new ct hct
  · exact ac_o0_2 hl ct hct
theorem ac_o0_4 {l : Launch} (hl : l.stackTraces = false) : ∀ ct ∈ ac_A0_4, ac_cok l ac_K0 ct := by
  have new : ∀ ct ∈ ac_L0_4, ac_cok l ac_K0 ct := by
    intro ct hct
    have hct : ct ∈ ac_L0_4_0 := hct
    exact ac_chk_ok hl (fun W => ac_SPt_ok (kp := (ac_K0, W)) (ac_o0_3 hl)) (List.all_eq_true.mp ac_t0_4_0 ct hct)
  intro ct hct
  rcases List.mem_append.mp hct with hct | hct
  · exact new ct hct
  · exact ac_o0_3 hl ct hct
theorem ac_o0_5 {l : Launch} (hl : l.stackTraces = false) : ∀ ct ∈ ac_A0_5, ac_cok l ac_K0 ct := by
  have new : ∀ ct ∈ ac_L0_5, ac_cok l ac_K0 ct := by
    intro ct hct
    have hct : ct ∈ ac_L0_5_0 ++ ac_L0_5_1 ++ ac_L0_5_2 := hct
    rcases List.mem_append.mp hct with hct | h2
    rotate_left
    · exact ac_chk_ok hl (fun W => ac_SPt_ok (kp := (ac_K0, W)) (ac_o0_4 hl)) (List.all_eq_true.mp ac_t0_5_2 ct h2)
    rcases List.mem_append.mp hct with hct | h1
    rotate_left
    · exact ac_chk_ok hl (fun W => ac_SPt_ok (kp := (ac_K0, W)) (ac_o0_4 hl)) (List.all_eq_true.mp ac_t0_5_1 ct h1)
    exact ac_chk_ok hl (fun W => ac_SPt_ok (kp := (ac_K0, W)) (ac_o0_4 hl)) (List.all_eq_true.mp ac_t0_5_0 ct hct)
  intro ct hct
  rcases List.mem_append.mp hct with hct | hct
  · exact new ct hct
  · exact ac_o0_4 hl ct hct
theorem ac_o0_6 {l : Launch} (hl : l.stackTraces = false) : ∀ ct ∈ ac_A0_6, ac_cok l ac_K0 ct := by
  have new : ∀ ct ∈ ac_L0_6, ac_cok l ac_K0 ct := by
    intro ct hct
    have hct : ct ∈ ac_L0_6_0 := hct
    exact ac_chk_ok hl (fun W => ac_SPt_ok (kp := (ac_K0, W)) (ac_o0_5 hl)) (List.all_eq_true.mp ac_t0_6_0 ct hct)
  intro ct hct
  rcases List.mem_append.mp hct with hct | hct
  · exact new ct hct
  · exact ac_o0_5 hl ct hct
