/-! all contracts of the law's level -/
def v_n : List (Nat × ac_Ct) := [(1, v_c183a), (1, v_c183b), (1, v_c184), (1, v_c185), (2, v_c186), (1, v_c187), (1, v_c188a), (1, v_c188b), (1, v_c188c), (1, v_c172a), (1, v_c172b), (1, v_c172c)]
theorem v_on {σ0 : mS} : ∀ q ∈ v_n, v_cok (v_CC σ0) ac_K0 (some q.1) q.2 := by
  intro q hq
  unfold v_n at hq
  rcases List.mem_cons.mp hq with rfl | hq
  · exact v_c183a_ok
  rcases List.mem_cons.mp hq with rfl | hq
  · exact v_c183b_ok
  rcases List.mem_cons.mp hq with rfl | hq
  · exact v_c184_ok
  rcases List.mem_cons.mp hq with rfl | hq
  · exact v_c185_ok
  rcases List.mem_cons.mp hq with rfl | hq
  · exact v_c186_ok
  rcases List.mem_cons.mp hq with rfl | hq
  · exact v_c187_ok
  rcases List.mem_cons.mp hq with rfl | hq
  · exact v_c188a_ok
  rcases List.mem_cons.mp hq with rfl | hq
  · exact v_c188b_ok
  rcases List.mem_cons.mp hq with rfl | hq
  · exact v_c188c_ok
  rcases List.mem_cons.mp hq with rfl | hq
  · exact v_c172a_ok
  rcases List.mem_cons.mp hq with rfl | hq
  · exact v_c172b_ok
  rcases List.mem_cons.mp hq with rfl | hq
  · exact v_c172c_ok
  cases hq
def v_b : List ac_Ct := v_b25
theorem v_ob {σ0 : mS} : ∀ ct ∈ v_b, ar_cok (v_CC σ0) ac_K0 ct := v_ob25
