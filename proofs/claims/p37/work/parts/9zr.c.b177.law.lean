/-! a contract of the law's level, by computing -/
def v_c177 : ac_Ct := (177, [(2, 11, 0, 0, 1, 1), (2, 14, 6, 6, 1, 1)], [], some (some (0, 0, 0, 1, 0, 0)), [0], [], none)
theorem v_c177_t : v_ck1 lw_gd ac_K0 (v_SP [] v_b1) v_LP ac_PL none v_c177 none = true := by decide +kernel
theorem v_c177_ok {σ0 : mS} : v_cok (v_CC σ0) ac_K0 none v_c177 := v_cok_1 (v_rule σ0) lw_gd_ok (v_SP_ok (fun _ h => by cases h) v_ob1) v_c177_t
def v_b2 : List ac_Ct := v_c177 :: v_b1
theorem v_ob2 {σ0 : mS} : ∀ ct ∈ v_b2, ar_cok (v_CC σ0) ac_K0 ct := fun ct hct => (List.mem_cons.mp hct).elim (fun e => by rw [e]; exact v_cok_ar v_c177_ok) (v_ob1 ct)
