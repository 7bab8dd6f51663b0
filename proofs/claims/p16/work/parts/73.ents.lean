/-! the parts of a hall, made new: by computing -/
theorem ac_entA0 : ab_entB ab_SP0 ac_eA0 = true := by decide +kernel
theorem ac_entA1 : ab_entB ab_SP0 ac_eA1 = true := by decide +kernel
theorem ac_entB0 : ad_entB ab_SP0 ac_eB0 = true := by decide +kernel
theorem ac_entB1 : ad_entB ab_SP0 ac_eB1 = true := by decide +kernel
theorem ac_SPA_ok {l : Launch} (hl : l.stackTraces = false) : ab_SPok l (ab_SPx [ac_eA0, ac_eA1]) := ab_SPx_ok hl (ab_SP0_ok l) (fun e he => by
  rcases List.mem_cons.mp he with rfl | he
  · exact ac_entA0
  · rcases List.mem_cons.mp he with rfl | he
    · exact ac_entA1
    · cases he)
theorem ac_SPB_ok {l : Launch} (hl : l.stackTraces = false) : ad_SPok l (ab_SPx [ac_eB0, ac_eB1]) := ad_SPx_ok hl (ad_SP0_ok l) (fun e he => by
  rcases List.mem_cons.mp he with rfl | he
  · exact ac_entB0
  · rcases List.mem_cons.mp he with rfl | he
    · exact ac_entB1
    · cases he)
