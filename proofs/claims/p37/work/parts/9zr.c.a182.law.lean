/-! a contract of the law's level, by computing -/
def v_c182 : ac_Ct := (182, [(2, 11, 0, 0, 1, 1), (0, 0, (-2147483648), 2147483647, 0, 0)], [], some (some (0, 0, 0, 1, 0, 0)), [], [], none)
theorem v_c182_t : v_ck1 lw_gd ac_K0 (v_SP [] v_b0) v_LP ac_PL none v_c182 none = true := by decide +kernel
theorem v_c182_ok {σ0 : mS} : v_cok (v_CC σ0) ac_K0 none v_c182 := v_cok_1 (v_rule σ0) lw_gd_ok (v_SP_ok (fun _ h => by cases h) v_ob0) v_c182_t
def v_b1 : List ac_Ct := v_c182 :: v_b0
theorem v_ob1 {σ0 : mS} : ∀ ct ∈ v_b1, ar_cok (v_CC σ0) ac_K0 ct := fun ct hct => (List.mem_cons.mp hct).elim (fun e => by rw [e]; exact v_cok_ar v_c182_ok) (v_ob0 ct)
