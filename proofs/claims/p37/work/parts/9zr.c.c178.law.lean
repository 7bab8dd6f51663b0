/-! a contract of the law's level, by computing -/
def v_c178 : ac_Ct := (178, [(2, 11, 0, 0, 1, 1), (2, 13, 16, 16, 1, 1), (2, 13, 17, 17, 1, 1), (0, 0, 0, 4, 0, 0)], [], some (some (0, 0, 0, 1, 0, 0)), [0], [], none)
def v_c178_T : v_Tm := (59, [(8, (0, 0, 0, 4, 0, 0)), (0, (2, 11, 0, 0, 1, 1)), (1, (2, 13, 16, 16, 1, 1)), (2, (2, 13, 17, 17, 1, 1)), (3, (0, 0, 0, 4, 0, 0)), (4, (1, 0, (-9223372036854775808), 9223372036854775807, 0, 0)), (6, (1, 0, (-9223372036854775808), 9223372036854775807, 0, 0))])
def v_c178_R : v_Rm := ((10, 60), (6, 36), 26, 336)
theorem v_c178_t : v_ckL lw_gd ac_K0 (v_SP [] v_b2) v_LP ac_PL none v_c178 z178 v_c178_T v_c178_R = true := by decide +kernel
theorem v_c178_ok {σ0 : mS} : v_cok (v_CC σ0) ac_K0 none v_c178 := v_cok_L (v_rule σ0) v_CCm lw_gd_ok v_hG (v_SP_ok (fun _ h => by cases h) v_ob2) (z := z178) (T := v_c178_T) (R := v_c178_R) z178_at rfl (cl := 8) (lo := 0) (hi := 4) rfl (by decide +kernel) v_c178_t (by decide) (by decide)
def v_b3 : List ac_Ct := v_c178 :: v_b2
theorem v_ob3 {σ0 : mS} : ∀ ct ∈ v_b3, ar_cok (v_CC σ0) ac_K0 ct := fun ct hct => (List.mem_cons.mp hct).elim (fun e => by rw [e]; exact v_cok_ar v_c178_ok) (v_ob2 ct)
