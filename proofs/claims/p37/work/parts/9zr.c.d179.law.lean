/-! a contract of the law's level, by computing -/
def v_c179 : ac_Ct := (179, [(2, 11, 0, 0, 1, 1), (2, 13, 14, 14, 1, 1), (2, 13, 15, 15, 1, 1), (2, 13, 17, 17, 1, 1), (0, 0, 0, 59, 0, 0)], [], some (some (0, 0, 0, 1, 0, 0)), [0, 1], [], none)
def v_c179_T : v_Tm := (32, [(11, (0, 0, 0, 60, 0, 0)), (0, (2, 11, 0, 0, 1, 1)), (1, (2, 13, 14, 14, 1, 1)), (2, (2, 13, 15, 15, 1, 1)), (3, (2, 13, 17, 17, 1, 1)), (4, (0, 0, 0, 59, 0, 0)), (5, (1, 0, (-9223372036854775808), 9223372036854775807, 0, 0)), (7, (1, 0, (-9223372036854775808), 9223372036854775807, 0, 0)), (9, (0, 0, (-2147483648), 2147483647, 0, 0)), (10, (0, 0, (-2147483648), 2147483647, 0, 0))])
def v_c179_R : v_Rm := ((0, 0), (1, 6), 20, 360)
theorem v_c179_t : v_ckL lw_gd ac_K0 (v_SP [] v_b3) v_LP ac_PL none v_c179 z179 v_c179_T v_c179_R = true := by decide +kernel
theorem v_c179_ok {σ0 : mS} : v_cok (v_CC σ0) ac_K0 none v_c179 := v_cok_L (v_rule σ0) v_CCm lw_gd_ok v_hG (v_SP_ok (fun _ h => by cases h) v_ob3) (z := z179) (T := v_c179_T) (R := v_c179_R) z179_at rfl (cl := 11) (lo := 0) (hi := 60) rfl (by decide +kernel) v_c179_t (by decide) (by decide)
def v_b4 : List ac_Ct := v_c179 :: v_b3
theorem v_ob4 {σ0 : mS} : ∀ ct ∈ v_b4, ar_cok (v_CC σ0) ac_K0 ct := fun ct hct => (List.mem_cons.mp hct).elim (fun e => by rw [e]; exact v_cok_ar v_c179_ok) (v_ob3 ct)
