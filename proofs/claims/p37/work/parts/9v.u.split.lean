/-! a paper is split: all of it -/
theorem mx {v : Int64} {x : Int32} (h1 : 1 ≤ x.toInt ∧ x.toInt ≤ 5) (hv : ia v.toInt ≤ 130000000) : (v + v * (x - Int32.ofInt 1).toInt64).toInt = v.toInt * x.toInt := by
  have e1 : (x - Int32.ofInt 1).toInt64.toInt = x.toInt - 1 := by rw [i64, i_dec (by omega) (by omega)]
  have b := ia_le hv
  have m : v.toInt * (x.toInt - 1) = v.toInt * x.toInt - v.toInt := by grind
  have im : ia (v.toInt * (x.toInt - 1)) ≤ 130000000 * 4 := ia_mul_le hv (le_ia (by omega) (by omega))
  have ib := ia_le im
  have e2 : (v * (x - Int32.ofInt 1).toInt64).toInt = v.toInt * (x.toInt - 1) := by rw [l_mul (by rw [e1]; omega) (by rw [e1]; omega), e1]
  rw [l_add (by rw [e2]; omega) (by rw [e2]; omega), e2, m]
  omega
theorem ia_x {v x : Int} (h : 0 ≤ x) : ia (v * x) = ia v * x := by
  rw [ia_mul]
  have : ia x = x := by rcases ia_c x with z | z <;> omega
  rw [this]
theorem sp36 {n : Int} {N ip : Nat} {x z : Int32} {σ σ14 σ20 : mS} (hs : HS σ) (hn : hN σ N) (ho : hO σ N) (h : CI n σ) (hip : ip < 3) (hx : 1 ≤ x.toInt ∧ x.toInt ≤ 5) (h5 : pv σ ip 5 ≤ 2) (hz : z.toInt = ip) (p36 : P36 σ (some (8, ip)) x σ14) (p15 : P15 σ14 z x σ20) :
    CI n σ20 ∧ hO σ20 N ∧ sm σ20 = sm σ ∧ (∀ j, ps σ20 j = if j = ip then ps σ j + ps σ j * (x - Int32.ofInt 1).toInt64 else ps σ j) ∧ pv σ20 ip 5 = pv σ ip 5 + 1 ∧ (∀ i, i ≠ ip → m_i σ20 8 i 5 = m_i σ 8 i 5) ∧ (∀ o, o < N → oi σ o 2 = ip → so x.toInt σ σ20 o) ∧ (∀ o k, o < N → oi σ o 2 ≠ ip → m_i σ20 7 o k = m_i σ 7 o k) ∧ fw_e (wl [(6, 2), (7, 4), (7, 5), (7, 6), (7, 7), (7, 8), (8, 2), (8, 3), (8, 5), (8, 6), (14, 0)]) σ σ20 ∧ ∀ i, pv σ20 i 6 = if i = ip then pv σ ip 6 * x.toInt else pv σ i 6 := by
  obtain ⟨i1, e1, σ4, F4, p4, k, hq⟩ := p36
  cases e1
  have h' := h
  obtain ⟨nn, k2, k3, k4, k5, k6, a1, a2, a3, a4, a5, a6, a7, a8, a9⟩ := h'
  obtain ⟨w1, w2, w4, w5, w6, w60, w61, w62, w63⟩ := k3 ip hip
  obtain ⟨t0, t3, ht0, c8⟩ := g116 hx.1 w2 p4
  have hs4 := HS_w hs F4 (by decide)
  have zc : (Int32.ofInt 0).toNatClampNeg = 0 := by decide
  obtain ⟨F14, s1, s2, s3⟩ := q36_s hip hs4 k _ σ4 σ14 hq (by rw [i_0]; omega) (by rw [i_0]; omega) fw_e.rf' (fun i q1 q2 => absurd q2 (by rw [zc]; omega)) (fun _ _ => rfl) (fun _ _ _ => rfl) (fun _ => rfl)
  have G14 : fw_e (wl [(6, 2), (8, 2), (8, 3), (8, 5), (8, 6), (14, 0)]) σ σ14 := (wl_mono F4 (by decide)).tr (wl_mono F14 (by decide))
  have hn14 : hN σ14 N := ⟨by rw [(G14.2 0 0 1 rfl).1]; exact hn.1, hn.2⟩
  have e7 : ∀ o k, m_i σ14 7 o k = m_i σ 7 o k := fun o k => by
    have : fwh (wl [(6, 2), (8, 2), (8, 3), (8, 5), (8, 6), (14, 0)]) 7 k = true := by unfold fwh; rfl
    exact (G14.2 7 o k this).1
  have o7 : ∀ o k, oi σ14 o k = oi σ o k := fun o k => congrArg Int32.toInt (e7 o k)
  have ob : ∀ o, o < N → 1 ≤ oi σ o 4 ∧ (0 ≤ oi σ o 5 ∧ oi σ o 5 ≤ 1000000) ∧ (0 ≤ oi σ o 6 ∧ oi σ o 6 ≤ 1000000) ∧ (0 ≤ oi σ o 7 ∧ oi σ o 7 ≤ 1000000) := fun o hoN => by
    obtain ⟨g1, g2, g3, g4, g5, g6, g7, _⟩ := ho o hoN
    have n2 := i_nat g2.1
    have u5 := g5.2 (m_i σ 7 o 2).toNatClampNeg n2.symm
    have u6 := g6.2 (m_i σ 7 o 2).toNatClampNeg n2.symm
    have g2' : (m_i σ 7 o 2).toInt < 3 := g2.2
    have f := (k3 (m_i σ 7 o 2).toNatClampNeg (by omega)).2.2.2.2
    omega
  obtain ⟨k', hq'⟩ := p15
  obtain ⟨F20, r1, r2⟩ := q15_s hn14 hx (fun o hoN => by rw [o7, o7, o7, o7]; exact ob o hoN) k' _ σ14 σ20 hq' (by rw [i_0]; omega) (by rw [i_0]; omega) fw_e.rf' (fun o _ q2 _ => absurd q2 (by rw [zc]; omega)) (fun _ _ _ => rfl)
  rw [hz] at r1 r2
  have r1' : ∀ o, o < N → oi σ o 2 = ip → so x.toInt σ σ20 o := fun o hoN q => by
    have y := r1 o hoN (by rw [o7]; exact q)
    unfold so at y ⊢
    rw [o7, o7, o7, o7] at y
    exact y
  have r2' : ∀ o k, o < N → oi σ o 2 ≠ ip → m_i σ20 7 o k = m_i σ 7 o k := fun o k hoN q => (r2 o k hoN (by rw [o7]; exact q)).trans (e7 o k)
  have F : fw_e (wl [(6, 2), (7, 4), (7, 5), (7, 6), (7, 7), (7, 8), (8, 2), (8, 3), (8, 5), (8, 6), (14, 0)]) σ σ20 := (wl_mono G14 (by decide)).tr (wl_mono F20 (by decide))
  have ee : ∀ {c i k : Nat}, fwh (wl [(6, 2), (7, 4), (7, 5), (7, 6), (7, 7), (7, 8), (8, 2), (8, 3), (8, 5), (8, 6), (14, 0)]) c k = true → m_i σ20 c i k = m_i σ c i k ∧ m_l σ20 c i k = m_l σ c i k ∧ m_r σ20 c i k = m_r σ c i k := fun h => F.2 _ _ _ h
  have d8 : ∀ i j, m_i σ20 8 i j = m_i σ4 8 i j := fun i j => by
    have q1 : fwh (wl [(7, 4), (7, 5), (7, 6), (7, 7), (7, 8)]) 8 j = true := by unfold fwh; rfl
    have q2 : fwh (wl [(6, 2), (14, 0)]) 8 j = true := by unfold fwh; rfl
    exact ((F20.2 8 i j q1).1).trans (F14.2 8 i j q2).1
  have c20 := fun i j => (d8 i j).trans (c8 i j)
  have v6 : pv σ20 ip 6 = pv σ ip 6 * x.toInt := by
    show (m_i σ20 8 ip 6).toInt = _
    rw [c20, if_neg (fun z => by cases z.2), if_neg (fun z => by cases z.2), if_pos ⟨rfl, rfl⟩]
    have m0 : 0 ≤ pv σ ip 6 * x.toInt := Int.mul_nonneg (by omega) (by omega)
    have m1 : pv σ ip 6 * x.toInt ≤ 125 * 5 := Int.mul_le_mul w63 hx.2 (by omega) (by omega)
    exact i_mul (by show _ ≤ pv σ ip 6 * x.toInt; omega) (by show pv σ ip 6 * x.toInt < _; omega)
  have v5 : pv σ20 ip 5 = pv σ ip 5 + 1 := by
    show (m_i σ20 8 ip 5).toInt = _
    rw [c20, if_neg (fun z => by cases z.2), if_neg (fun z => by cases z.2), if_neg (fun z => by cases z.2), if_pos ⟨rfl, rfl⟩]
    exact i_inc w5.1 (by have := w5.2; show (m_i σ 8 ip 5).toInt < _; have : (m_i σ 8 ip 5).toInt ≤ 3 := w5.2; omega)
  have v2 : pv σ20 ip 2 = t0.toInt := by
    show (m_i σ20 8 ip 2).toInt = _
    rw [c20, if_neg (fun z => by cases z.2), if_pos ⟨rfl, rfl⟩]
  have vo : ∀ i j, i ≠ ip → m_i σ20 8 i j = m_i σ 8 i j := fun i j q => by
    rw [c20, if_neg (fun z => q z.1), if_neg (fun z => q z.1), if_neg (fun z => q z.1), if_neg (fun z => q z.1)]
  have vo' : ∀ i j, i ≠ ip → pv σ20 i j = pv σ i j := fun i j q => congrArg Int32.toInt (vo i j q)
  have v6a : ∀ i, pv σ20 i 6 = if i = ip then pv σ ip 6 * x.toInt else pv σ i 6 := fun i => by
    by_cases q : i = ip
    · rw [if_pos q, q]; exact v6
    · rw [if_neg q]; exact vo' i 6 q
  have p14 : ∀ i j, m_l σ20 14 i j = m_l σ14 14 i j := fun i j => by
    have q1 : fwh (wl [(7, 4), (7, 5), (7, 6), (7, 7), (7, 8)]) 14 j = true := by unfold fwh; rw [if_neg (by decide)]; rfl
    exact (F20.2 14 i j q1).2.1
  have q14 : ∀ i j, m_l σ4 14 i j = m_l σ 14 i j := fun i j => by
    have q1 : fwh w116 14 j = true := by unfold fwh; rw [if_neg (by decide)]; rfl
    exact (F4.2 14 i j q1).2.1
  have ps20 : ∀ i, i < 6 → m_l σ20 14 i ip = m_l σ 14 i ip + m_l σ 14 i ip * (x - Int32.ofInt 1).toInt64 := fun i hi => by rw [p14, s1 i hi, q14]
  have pso : ∀ i j, j ≠ ip → m_l σ20 14 i j = m_l σ 14 i j := fun i j q => by rw [p14, s2 i j q, q14]
  have cash : ∀ i, m_l σ20 6 i 2 = m_l σ 6 i 2 := fun i => ((F20.2 6 i 2 rfl).2.1).trans ((s3 i).trans (F4.2 6 i 2 rfl).2.1)
  have sp := NB_sp h hip
  have pI20 : ∀ i, i < 6 → pI σ20 i ip = pI σ i ip * x.toInt := fun i hi => by
    show (m_l σ20 14 i ip).toInt = _
    rw [ps20 i hi]
    exact mx hx (by have := SP_m (σ := σ) (j := ip) hi; show ia (pI σ i ip) ≤ _; omega)
  have SP20 : SP σ20 ip = SP σ ip * x.toInt := by
    unfold SP
    rw [pI20 0 (by decide), pI20 1 (by decide), pI20 2 (by decide), pI20 3 (by decide), pI20 4 (by decide), pI20 5 (by decide), ia_x (by omega), ia_x (by omega), ia_x (by omega), ia_x (by omega), ia_x (by omega), ia_x (by omega)]
    simp only [Int.add_mul]
  have tce : tc σ20 = tc σ := congrArg Int32.toInt (ee rfl).1
  have X : x.toInt = 1 ∨ x.toInt = 2 ∨ x.toInt = 3 ∨ x.toInt = 4 ∨ x.toInt = 5 := by omega
  refine ⟨⟨nn, ⟨by rw [(ee rfl).1]; exact k2.1, fun t ht => ?_⟩, fun i hi => ?_, fl_of k4 (fun m => (ee rfl).1) (fun m => (ee rfl).1) (fun m => (ee rfl).1) (fun m => (ee rfl).2.1) (fun m j b1 b2 hj _ zz => ?_), sl_of k5 (fun m => (ee rfl).1) (fun m => (ee rfl).1) (ee rfl).2.2, by rw [(ee rfl).1, nF_of (fun m => (ee rfl).1)]; exact k6, fun j hj => ?_, by rw [CS_of cash, tce]; exact a2, fun i hi => by rw [(ee rfl).2.1]; exact a3 i hi, by rw [cc_of (fun i => (ee rfl).2.1), (ee rfl).2.1]; exact a4, fun i hi => by rw [(ee rfl).2.1]; exact a5 i hi, fun i b1 hi => by rw [(ee rfl).2.1]; exact a6 i b1 hi, by rw [(ee rfl).2.1, nSt_of (fun i => (ee rfl).1)]; exact a7, fun t ht => ?_, fun i b1 b2 => ?_⟩, fun o hoN => ?_, ?_, fun j => ?_, v5, fun i q => vo i 5 q, r1', r2', F, v6a⟩
  · rw [(ee rfl).1] at ht
    have g := k2.2 t ht
    have et : ∀ k, m_i σ20 10 t k = m_i σ 10 t k := fun k => by
      have q1 : fwh (wl [(6, 2), (7, 4), (7, 5), (7, 6), (7, 7), (7, 8), (8, 2), (8, 3), (8, 5), (8, 6), (14, 0)]) 10 k = true := by unfold fwh; rfl
      exact (ee q1).1
    unfold tOK ti at g ⊢
    simp only [et]
    obtain ⟨g0, g1, g2, g3, g4, g5, g6, ⟨r, r1, r2⟩, g9⟩ := g
    refine ⟨g0, g1, g2, g3, g4, g5, g6, ?_, g9⟩
    by_cases q : (m_i σ 10 t 0).toInt = ip
    · refine ⟨r * x.toInt, ?_, fun i hi => ?_⟩
      · have : 1 * 1 ≤ r * x.toInt := Int.mul_le_mul r1 hx.1 (by omega) (by omega)
        omega
      · have : i = ip := by omega
        rw [this, v6, r2 ip q]
        grind
    · exact ⟨r, r1, fun i hi => by rw [vo' i 6 (by omega)]; exact r2 i hi⟩
  · by_cases q : i = ip
    · have v1 : pv σ20 ip 1 = pv σ ip 1 := congrArg Int32.toInt (ee rfl).1
      have v4 : pv σ20 ip 4 = pv σ ip 4 := congrArg Int32.toInt (ee rfl).1
      rw [q, v1, v2, v4, v5, v6]
      rcases X with X | X | X | X | X <;> (rw [X]; omega)
    · rw [vo' i 1 q, vo' i 2 q, vo' i 4 q, vo' i 5 q, vo' i 6 q]
      exact k3 i hi
  · by_cases q : j = ip
    · rw [q] at zz ⊢
      rw [pI20 m b2, zz, Int.zero_mul]
    · show (m_l σ20 14 m j).toInt = 0
      rw [pso m j q]; exact zz
  · by_cases q : j = ip
    · rw [q, SP20, v6, tce]
      have := Int.mul_le_mul_of_nonneg_right (a1 ip hip) (show 0 ≤ x.toInt by omega)
      have e : pv σ ip 6 * (2000 * (tc σ + n)) * x.toInt = pv σ ip 6 * x.toInt * (2000 * (tc σ + n)) := by grind
      rw [← e]; exact this
    · rw [vo' j 6 q, tce, SP_of (fun i => pso i j q)]
      exact a1 j hj
  · rw [tce] at ht
    have y := a8 t ht
    unfold fB at y ⊢
    rw [(ee rfl).2.1, (ee rfl).2.1]; exact y
  · have y : mi6 σ20 i 6 = mi6 σ i 6 := congrArg Int32.toInt (ee rfl).1
    rw [y]; exact a9 i b1 b2
  · have g := ho o hoN
    have er : ∀ o, m_r σ20 7 o 12 = m_r σ 7 o 12 := fun o => (ee rfl).2.2
    have x1 : ∀ o, oi σ20 o 1 = oi σ o 1 := fun o => congrArg Int32.toInt (ee rfl).1
    have x2 : oi σ20 o 2 = oi σ o 2 := congrArg Int32.toInt (ee rfl).1
    have x3 : oi σ20 o 3 = oi σ o 3 := congrArg Int32.toInt (ee rfl).1
    have x9 : oi σ20 o 9 = oi σ o 9 := congrArg Int32.toInt (ee rfl).1
    have nf : nfl σ20 (m_i σ20 7 o 1) = nfl σ (m_i σ 7 o 1) := by unfold nfl; rw [(ee (c := 7) rfl).1, (ee (c := 6) rfl).1]
    unfold oOK at g ⊢
    rw [er, x1, x2, x3, x9, nf]
    simp only [x1]
    obtain ⟨g1, g2, g3, g4, g5, g6, g7, g8, g9, g10, g11, g12, g13, g14⟩ := g
    by_cases q : oi σ o 2 = ip
    · obtain ⟨y4, y5, y6, y7⟩ := r1' o hoN q
      have u5 := g5.2 ip q
      have u6 := g6.2 ip q
      have D0 : 0 ≤ oi σ o 4 / x.toInt := Int.ediv_nonneg (by omega) (by omega)
      have D1 : oi σ o 4 / x.toInt ≤ oi σ o 4 := Int.ediv_le_self _ (by omega)
      have z4 : 1 ≤ oi σ20 o 4 ∧ oi σ20 o 4 ≤ 9999 := by
        rw [y4]
        by_cases c : 1 ≤ oi σ o 4 / x.toInt
        · rw [if_pos c]; omega
        · rw [if_neg c]; omega
      have z5 : 0 ≤ oi σ20 o 5 ∧ oi σ20 o 5 ≤ 1000 * pv σ20 ip 6 := by
        rw [y5, v6]; rcases X with X | X | X | X | X <;> (rw [X]; omega)
      have z6 : 0 ≤ oi σ20 o 6 ∧ oi σ20 o 6 ≤ 1000 * pv σ20 ip 6 := by
        rw [y6, v6]; rcases X with X | X | X | X | X <;> (rw [X]; omega)
      have z7 : 0 ≤ oi σ20 o 7 ∧ oi σ20 o 7 ≤ oi σ20 o 6 := by
        rw [y7, y6]; rcases X with X | X | X | X | X <;> (rw [X]; omega)
      have z60 : oi σ o 6 = 0 → oi σ20 o 6 = 0 := fun z => by rw [y6, z, Int.zero_mul]
      have z61 : 0 < oi σ o 6 → 0 < oi σ20 o 6 := fun z => by rw [y6]; exact Int.mul_pos z (by omega)
      have z70 : oi σ o 7 = 0 → oi σ20 o 7 = 0 := fun z => by rw [y7, z, Int.zero_mul]
      have z71 : 0 < oi σ o 7 → 0 < oi σ20 o 7 := fun z => by rw [y7]; exact Int.mul_pos z (by omega)
      refine ⟨g1, g2, g3, z4, ⟨z5.1, fun i hi => ?_⟩, ⟨z6.1, fun i hi => ?_⟩, z7, g8, fun z => z60 (g9 z), fun z => z71 (g10 z), fun z => z61 (g11 z), fun z => z70 (g12 z), g13, g14⟩
      · have : i = ip := by omega
        rw [this]; exact z5.2
      · have : i = ip := by omega
        rw [this]; exact z6.2
    · have y4 : oi σ20 o 4 = oi σ o 4 := congrArg Int32.toInt (r2' o 4 hoN q)
      have y5 : oi σ20 o 5 = oi σ o 5 := congrArg Int32.toInt (r2' o 5 hoN q)
      have y6 : oi σ20 o 6 = oi σ o 6 := congrArg Int32.toInt (r2' o 6 hoN q)
      have y7 : oi σ20 o 7 = oi σ o 7 := congrArg Int32.toInt (r2' o 7 hoN q)
      rw [y4, y5, y6, y7]
      exact ⟨g1, g2, g3, g4, ⟨g5.1, fun i hi => by rw [vo' i 6 (by omega)]; exact g5.2 i hi⟩, ⟨g6.1, fun i hi => by rw [vo' i 6 (by omega)]; exact g6.2 i hi⟩, g7, g8, g9, g10, g11, g12, g13, g14⟩
  · exact sm_of (fun i k hk => by
      rcases hk with rfl | rfl | rfl
      · exact cash i
      · exact (ee rfl).2.1
      · exact (ee rfl).2.1)
  · by_cases q : j = ip
    · rw [if_pos q, q]
      unfold ps
      rw [ps20 0 (by decide), ps20 1 (by decide), ps20 2 (by decide), ps20 3 (by decide), ps20 4 (by decide), ps20 5 (by decide)]
      grind
    · rw [if_neg q]
      exact ps_of (fun i => pso i j q)
