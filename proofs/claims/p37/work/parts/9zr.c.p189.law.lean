/-! a contract of the law's level, by computing -/
def v_c189 : ac_Ct := (189, [(2, 11, 0, 0, 1, 1), (0, 0, 0, 59999, 0, 0), (0, 0, 0, 69999, 0, 0)], [(5, 0, 3, 2, 2, (0, 0, (-2147483648), 2147483647, 0, 0)), (9, 0, 1, 1, 1, (0, 0, (-2147483648), 2147483647, 0, 0)), (13, 6, 13, 0, 479, (0, 0, (-2147483648), 2147483647, 0, 0))], some (some (0, 0, 0, 1, 0, 0)), [0], [], none)
theorem v_c189_t : v_ck1 lw_gd ac_K0 (v_SP [] v_b6) v_LP ac_PL none v_c189 none = true := by decide +kernel
theorem v_c189_ok {σ0 : mS} : v_cok (v_CC σ0) ac_K0 none v_c189 := v_cok_1 (v_rule σ0) lw_gd_ok (v_SP_ok (fun _ h => by cases h) v_ob6) v_c189_t
def v_b16 : List ac_Ct := v_c189 :: v_b6
theorem v_ob16 {σ0 : mS} : ∀ ct ∈ v_b16, ar_cok (v_CC σ0) ac_K0 ct := fun ct hct => (List.mem_cons.mp hct).elim (fun e => by rw [e]; exact v_cok_ar v_c189_ok) (v_ob6 ct)
