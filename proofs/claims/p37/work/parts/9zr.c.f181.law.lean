/-! a contract of the law's level, by computing -/
def v_c181 : ac_Ct := (181, [(2, 11, 0, 0, 1, 1), (2, 13, 17, 17, 1, 1)], [(13, 17, 17, 3, 3, (0, 0, 0, 200, 0, 0))], some (some (0, 0, 0, 1, 0, 0)), [0, 1], [], none)
def v_c181_T : v_Tm := (20, [(3, (0, 0, 0, 200, 0, 0)), (0, (2, 11, 0, 0, 1, 1)), (1, (2, 13, 17, 17, 1, 1)), (2, (0, 0, 0, 1, 0, 0))])
def v_c181_R : v_Rm := ((0, 0), (10, 60), 100, 6900)
theorem v_c181_t : v_ckL lw_gd ac_K0 (v_SP [] v_b5) v_LP ac_PL none v_c181 z181 v_c181_T v_c181_R = true := by decide +kernel
theorem v_c181_ok {σ0 : mS} : v_cok (v_CC σ0) ac_K0 none v_c181 := v_cok_L (v_rule σ0) v_CCm lw_gd_ok v_hG (v_SP_ok (fun _ h => by cases h) v_ob5) (z := z181) (T := v_c181_T) (R := v_c181_R) z181_at rfl (cl := 3) (lo := 0) (hi := 200) rfl (by decide +kernel) v_c181_t (by decide) (by decide)
def v_b6 : List ac_Ct := v_c181 :: v_b5
theorem v_ob6 {σ0 : mS} : ∀ ct ∈ v_b6, ar_cok (v_CC σ0) ac_K0 ct := fun ct hct => (List.mem_cons.mp hct).elim (fun e => by rw [e]; exact v_cok_ar v_c181_ok) (v_ob5 ct)
