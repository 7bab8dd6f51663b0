/-! a contract of the law's level, by computing -/
def v_c180 : ac_Ct := (180, [(2, 11, 0, 0, 1, 1), (2, 13, 15, 15, 1, 1), (2, 13, 17, 17, 1, 1)], [], some (some (0, 0, 0, 1, 0, 0)), [0], [], none)
def v_c180_T : v_Tm := (31, [(4, (0, 0, 0, 60, 0, 0)), (0, (2, 11, 0, 0, 1, 1)), (1, (2, 13, 15, 15, 1, 1)), (2, (2, 13, 17, 17, 1, 1)), (3, (0, 0, 0, 1, 0, 0))])
def v_c180_R : v_Rm := ((66, 438), (2, 12), 84, 1272)
theorem v_c180_t : v_ckL lw_gd ac_K0 (v_SP [] v_b4) v_LP ac_PL none v_c180 z180 v_c180_T v_c180_R = true := by decide +kernel
theorem v_c180_ok {σ0 : mS} : v_cok (v_CC σ0) ac_K0 none v_c180 := v_cok_L (v_rule σ0) v_CCm lw_gd_ok v_hG (v_SP_ok (fun _ h => by cases h) v_ob4) (z := z180) (T := v_c180_T) (R := v_c180_R) z180_at rfl (cl := 4) (lo := 0) (hi := 60) rfl (by decide +kernel) v_c180_t (by decide) (by decide)
def v_b5 : List ac_Ct := v_c180 :: v_b4
theorem v_ob5 {σ0 : mS} : ∀ ct ∈ v_b5, ar_cok (v_CC σ0) ac_K0 ct := fun ct hct => (List.mem_cons.mp hct).elim (fun e => by rw [e]; exact v_cok_ar v_c180_ok) (v_ob4 ct)
