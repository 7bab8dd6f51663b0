/-! the house sells; calls are reviewed; time passes -/
theorem s46' {n : Int} {σ σ' : mS} {w : Int64} (h : CI n σ) (hn : n + 1 ≤ 300) (p : P46 σ w σ') : CI (n + 1) σ' ∧ sm σ' = sm σ ∧ (∀ j, ps σ' j = ps σ j) ∧ fw_e (wl [(2, 9), (6, 2), (6, 3), (6, 4), (6, 10)]) σ σ' := by
  have h' := h
  obtain ⟨_, _, _, _, k5, _⟩ := h'
  rcases k5 with ⟨z, _⟩ | ⟨m, b1, b2, b3, _⟩
  · rcases p with ⟨_, _, rfl⟩ | ⟨q, e, _⟩
    · exact ⟨h.up (by omega) hn, rfl, fun _ => rfl, fw_e.rf'⟩
    · rw [z] at e; cases e
  · obtain ⟨g1, g2, g3, _, _, _, _, g8⟩ := s46 h hn b1 b2 b3 p
    exact ⟨g1, g2, g3, g8⟩
theorem f45 {n : Int} {σ σ' : mS} {x1 x2 x3 : Int32} {w : Int64} (hs : HS σ) (h : CI n σ) (hn : n + 2 ≤ 300) (h1 : 0 ≤ x1.toInt ∧ x1.toInt < 3) (h2 : 0 ≤ x2.toInt ∧ x2.toInt < 5) (h3 : 1 ≤ x3.toInt ∧ x3.toInt ≤ 9999) (hf : nfl σ x2) (p : P45 σ x1 x2 x3 w σ') : CI (n + 2) σ' ∧ sm σ' = sm σ ∧ (∀ j, ps σ' j = ps σ j) ∧ w = m_l σ 14 0 x1.toNatClampNeg ∧ pI σ' 0 x1.toNatClampNeg = 0 ∧ m_l σ' 14 (x2.toNatClampNeg + 1) x1.toNatClampNeg = m_l σ 14 (x2.toNatClampNeg + 1) x1.toNatClampNeg + w ∧ (∀ i, m_i σ' 6 i 9 = m_i σ 6 i 9) := by
  obtain ⟨v1, p1, v5, p5, h0⟩ := p
  rw [p24 p1 h1, p22 p5 h2] at h0
  have n1 := i_nat h1.1
  have n2 := i_nat h2.1
  have hk : x1.toNatClampNeg < 3 := by omega
  have hx1 : x1 = Int32.ofNat x1.toNatClampNeg := by
    apply Int32.toInt_inj.mp
    rw [i_ofNat (by omega)]; omega
  rcases h0 with ⟨z, _⟩ | ⟨q10, e10, ⟨z, _⟩ | ⟨q14, e14, v17, p17, h0⟩⟩
  · cases z
  · cases z
  cases e10; cases e14
  have ev := p90 hs (by decide) h1 p17
  have h' := h
  obtain ⟨nn, k2, k3, k4, k5, k6, a1, a2, a3, a4, a5, a6, a7, a8, a9⟩ := h'
  have core : ∀ (u : Int64) (σ22 σ28 σ34 σ37 : mS), u = v17 * x3.toInt64 → fw_e w91 σ σ22 → P91 σ 0 x1 (-v17) u σ22 → fw_e w91 σ22 σ28 → P91 σ22 (x2.toNatClampNeg + 1) x1 v17 (-u) σ28 → σ34 = m_set σ28 2 0 10 (.inr (.inl (m_l σ28 2 0 10 + (m_l σ28 8 x1.toNatClampNeg 8 - u)))) → σ37 = m_set σ34 8 x1.toNatClampNeg 8 (.inr (.inl (Int64.ofNat 0))) → (∃ v39, P92 σ37 0 v39 ∧ (((v39).toInt = (0 : Int) ∧ J45_105 v17 σ37 w σ') ∨ (¬ ((v39).toInt = (0 : Int)) ∧ ∃ v44 σ45, fw_e w46 σ37 σ45 ∧ P46 σ37 v44 σ45 ∧ J45_105 v17 σ45 w σ'))) → CI (n + 2) σ' ∧ sm σ' = sm σ ∧ (∀ j, ps σ' j = ps σ j) ∧ w = m_l σ 14 0 x1.toNatClampNeg ∧ pI σ' 0 x1.toNatClampNeg = 0 ∧ m_l σ' 14 (x2.toNatClampNeg + 1) x1.toNatClampNeg = m_l σ 14 (x2.toNatClampNeg + 1) x1.toNatClampNeg + w ∧ (∀ i, m_i σ' 6 i 9 = m_i σ 6 i 9) := by
    intro u σ22 σ28 σ34 σ37 hu F22 p22' F28 p28 e34 e37 hend
    have sp := fun {j} (hj : j < 3) => NB_sp h hj
    have cs := NB_cs h
    have spm := SP_m (σ := σ) (m := 0) (j := x1.toNatClampNeg) (by decide)
    have spk := sp hk
    have x3' := i64 x3
    have vI : v17.toInt = pI σ 0 x1.toNatClampNeg := by rw [ev]
    have im : ia (v17.toInt * x3.toInt64.toInt) ≤ 130000000 * 9999 := ia_mul_le (by rw [vI]; omega) (by rw [x3']; exact le_ia (by omega) (by omega))
    have ib := ia_le im
    have uI : u.toInt = v17.toInt * x3.toInt64.toInt := by rw [hu]; exact l_mul (by omega) (by omega)
    have iu : ia u.toInt ≤ 1299870000000 := by rw [uI]; omega
    obtain ⟨M1, M2, M3, M4, ⟨M5, M5'⟩, M6, M7, M8⟩ := mv_2 hs (by decide) (by omega) (by omega) hk hx1 hx1 ev (fun j hj => by have := sp hj; omega) (by omega) (by omega) F22 p22' F28 p28
    have F34 : fw_e (wl [(2, 10)]) σ28 σ34 := by rw [e34]; exact fw_set rfl
    have F37 : fw_e (wl [(8, 8)]) σ34 σ37 := by rw [e37]; exact fw_set rfl
    have G : fw_e (wl [(2, 10), (8, 8)]) σ28 σ37 := (wl_mono F34 (by decide)).tr (wl_mono F37 (by decide))
    have F : fw_e (wl [(2, 10), (6, 2), (8, 8), (14, 0)]) σ σ37 := (wl_mono M8 (by decide)).tr (wl_mono G (by decide))
    have ee : ∀ {c i k : Nat}, fwh (wl [(2, 10), (6, 2), (8, 8), (14, 0)]) c k = true → m_i σ37 c i k = m_i σ c i k ∧ m_l σ37 c i k = m_l σ c i k ∧ m_r σ37 c i k = m_r σ c i k := fun h => F.2 _ _ _ h
    have g14 : ∀ i j, m_l σ37 14 i j = m_l σ28 14 i j := fun i j => (G.2 14 i j (by unfold fwh; rw [if_neg (by decide)]; rfl)).2.1
    have tce : tc σ37 = tc σ := congrArg Int32.toInt (ee rfl).1
    have c10 : m_l σ28 2 0 10 = m_l σ 2 0 10 := (M8.2 2 0 10 rfl).2.1
    have c88 : ∀ j, m_l σ28 8 j 8 = m_l σ 8 j 8 := fun j => (M8.2 8 j 8 rfl).2.1
    have ac := a3 x1.toNatClampNeg hk
    have bc := ia_le ac
    have bu := ia_le iu
    have cc0 := cc_0 σ
    have bl := ia_le (x := (m_l σ 2 0 10).toInt) (b := 100000000000000 * n) (by omega)
    have i1 : (m_l σ28 8 x1.toNatClampNeg 8 - u).toInt = (m_l σ 8 x1.toNatClampNeg 8).toInt - u.toInt := by rw [c88]; exact l_sub (by omega) (by omega)
    have iL : (m_l σ37 2 0 10).toInt = (m_l σ 2 0 10).toInt + ((m_l σ 8 x1.toNatClampNeg 8).toInt - u.toInt) := by
      rw [(F37.2 2 0 10 rfl).2.1, e34, ml_sl, if_pos ⟨rfl, rfl, rfl⟩, l_add (by rw [c10, i1]; omega) (by rw [c10, i1]; omega), c10, i1]
    have l0 := l_0
    have z0 : ia (Int64.ofNat 0).toInt = 0 := by rw [l0]; rfl
    have k0 : ∀ j, m_l σ37 8 j 8 = if j = x1.toNatClampNeg then Int64.ofNat 0 else m_l σ 8 j 8 := fun j => by
      rw [e37, ml_sl]
      by_cases q : j = x1.toNatClampNeg
      · rw [if_pos q, if_pos ⟨rfl, q, rfl⟩]
      · rw [if_neg q, if_neg (fun z => q z.2.1), (F34.2 8 j 8 rfl).2.1, c88]
    have cce : cc σ37 = cc σ - ia (m_l σ 8 x1.toNatClampNeg 8).toInt := by
      unfold cc
      rw [k0, k0, k0]
      have c : x1.toNatClampNeg = 0 ∨ x1.toNatClampNeg = 1 ∨ x1.toNatClampNeg = 2 := by omega
      rcases c with c | c | c
      · rw [c, if_pos rfl, if_neg (by decide), if_neg (by decide), z0]; omega
      · rw [c, if_neg (by decide), if_pos rfl, if_neg (by decide), z0]; omega
      · rw [c, if_neg (by decide), if_neg (by decide), if_pos rfl, z0]; omega
    have cck : ia (m_l σ 8 x1.toNatClampNeg 8).toInt ≤ cc σ := by
      have q0 := ia_0 (m_l σ 8 0 8).toInt
      have q1 := ia_0 (m_l σ 8 1 8).toInt
      have q2 := ia_0 (m_l σ 8 2 8).toInt
      have c : x1.toNatClampNeg = 0 ∨ x1.toNatClampNeg = 1 ∨ x1.toNatClampNeg = 2 := by omega
      unfold cc
      rcases c with c | c | c <;> (rw [c]; omega)
    have il := ia_add (m_l σ 2 0 10).toInt ((m_l σ 8 x1.toNatClampNeg 8).toInt - u.toInt)
    have il2 := ia_add (m_l σ 8 x1.toNatClampNeg 8).toInt (-u.toInt)
    have il3 := ia_neg u.toInt
    rw [← Int.sub_eq_add_neg] at il2
    have C37 : CI (n + 1) σ37 := by
      refine ⟨⟨by omega, by omega⟩, tO_fw F k2 rfl, pO_fw F k3 rfl, fl_of k4 (fun m => (ee rfl).1) (fun m => (ee rfl).1) (fun m => (ee rfl).1) (fun m => (ee rfl).2.1) (fun m j z1 z2 z3 z4 z => ?_), sl_of k5 (fun m => (ee rfl).1) (fun m => (ee rfl).1) (ee rfl).2.2, by rw [(ee rfl).1, nF_of (fun m => (ee rfl).1)]; exact k6, fun j hj => ?_, ?_, fun i hi => ?_, ?_, fun i hi => by rw [(ee rfl).2.1]; have := a5 i hi; omega, fun i b1 hi => by rw [(ee rfl).2.1]; have := a6 i b1 hi; omega, by rw [(ee rfl).2.1, nSt_of (fun i => (ee rfl).1)]; exact a7, fun t ht' => ?_, fun i b1 b2 => ?_⟩
      · show (m_l σ37 14 m j).toInt = 0
        rw [g14, M6 m j (Or.inr ⟨by omega, fun q => ?_⟩)]
        · exact z
        · rw [q] at z4
          have z4' : (m_i σ 6 (x2.toNatClampNeg + 1) 9).toInt = 1 := z4
          unfold nfl at hf
          omega
      · have x := a1 j hj
        have y : pv σ37 j 6 = pv σ j 6 := congrArg Int32.toInt (ee rfl).1
        have z := M4 j hj
        rw [SP_fw G rfl, y, tce]
        have f1 := (k3 j hj).2.2.2.2.1
        exact Int.le_trans (Int.le_trans z x) (Int.mul_le_mul_of_nonneg_left (by omega) (by omega))
      · rw [CS_fw G rfl, tce]; omega
      · have := a3 i hi
        rw [k0]
        by_cases q : i = x1.toNatClampNeg
        · rw [if_pos q, z0]; omega
        · rw [if_neg q]; omega
      · rw [iL, cce]; omega
      · rw [tce] at ht'
        have x := a8 t ht'
        unfold fB at x ⊢
        rw [(ee rfl).2.1, (ee rfl).2.1]; exact x
      · have x : mi6 σ37 i 6 = mi6 σ i 6 := congrArg Int32.toInt (ee rfl).1
        rw [x]; have := a9 i b1 b2; omega
    have S37 : sm σ37 = sm σ := by rw [sm_fw G rfl]; exact M1
    have P37' : ∀ j, ps σ37 j = ps σ j := fun j => by rw [ps_fw G rfl]; exact M2 j
    have W0 : pI σ37 0 x1.toNatClampNeg = 0 := by show (m_l σ37 14 0 x1.toNatClampNeg).toInt = 0; rw [g14]; exact M5
    have W1 : m_l σ37 14 (x2.toNatClampNeg + 1) x1.toNatClampNeg = m_l σ 14 (x2.toNatClampNeg + 1) x1.toNatClampNeg + v17 := by rw [g14]; exact M5'
    have W9 : ∀ i, m_i σ37 6 i 9 = m_i σ 6 i 9 := fun i => (ee rfl).1
    obtain ⟨v39, _, ⟨_, q1, q2⟩ | ⟨_, v44, σ45, F45, p46, q1, q2⟩⟩ := hend
    · rw [q1, q2]
      exact ⟨C37.up (by omega) hn, S37, P37', ev, W0, W1, W9⟩
    · rw [q1, q2]
      obtain ⟨g1, g2, g3, g4⟩ := s46' C37 (by omega) p46
      have h14 : ∀ i j, m_l σ45 14 i j = m_l σ37 14 i j := fun i j => (g4.2 14 i j (by unfold fwh; rw [if_neg (by decide)]; rfl)).2.1
      refine ⟨by have e : n + 2 = n + 1 + 1 := by omega
                 rw [e]; exact g1, g2.trans S37, fun j => (g3 j).trans (P37' j), ev, ?_, by rw [h14]; exact W1, fun i => ((g4.2 6 i 9 rfl).1).trans (W9 i)⟩
      show (m_l σ45 14 0 x1.toNatClampNeg).toInt = 0
      rw [h14]; exact W0
  first
    | (obtain ⟨σ22, F22, p22', i25, e25, σ28, F28, p28, i31, e31, σ34, e34, σ37, e37, hend⟩ := h0
       cases e25; cases e31
       exact core _ σ22 σ28 σ34 σ37 rfl F22 p22' F28 p28 e34 e37 hend)
    | (obtain ⟨u, eu, σ22, F22, p22', i25, e25, σ28, F28, p28, i31, e31, σ34, e34, σ37, e37, hend⟩ := h0
       cases e25; cases e31
       exact core u σ22 σ28 σ34 σ37 eu F22 p22' F28 p28 e34 e37 hend)
