/-! a contract of the law's level, by computing -/
def v_c172d : ac_Ct := (172, [(2, 11, 0, 0, 1, 1), (0, 0, 19, 19, 0, 0), (0, 0, (-2147483648), 2147483647, 0, 0), (0, 0, (-2147483648), 2147483647, 0, 0), (0, 0, (-2147483648), 2147483647, 0, 0), (0, 0, (-2147483648), 2147483647, 0, 0), (0, 0, (-2147483648), 2147483647, 0, 0), (0, 0, (-2147483648), 2147483647, 0, 0), (0, 0, (-2147483648), 2147483647, 0, 0)], [], some (some (1, 0, (-9223372036854775808), 9223372036854775807, 0, 0)), [], [], none)
theorem v_c172d_t : v_ck1 lw_gd ac_K0 (v_SP [] v_b16) v_LP ac_PL none v_c172d none = true := by decide +kernel
theorem v_c172d_ok {σ0 : mS} : v_cok (v_CC σ0) ac_K0 none v_c172d := v_cok_1 (v_rule σ0) lw_gd_ok (v_SP_ok (fun _ h => by cases h) v_ob16) v_c172d_t
def v_b20 : List ac_Ct := v_c172d :: v_b16
theorem v_ob20 {σ0 : mS} : ∀ ct ∈ v_b20, ar_cok (v_CC σ0) ac_K0 ct := fun ct hct => (List.mem_cons.mp hct).elim (fun e => by rw [e]; exact v_cok_ar v_c172d_ok) (v_ob16 ct)
