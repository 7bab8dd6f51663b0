/-! a trade is broken: bounds -/
theorem f34 {n : Int} {σ σ' : mS} {t : Nat} {x1 : Int32} (hs : HS σ) (h : CI n σ) (hn : n + 1 ≤ 300) (ht : x1.toInt = t) (ht' : (t : Int) < (m_i σ 2 0 5).toInt) (hb : nfl σ (m_i σ 10 t 3)) (hsl : nfl σ (m_i σ 10 t 4)) (p : P34 σ x1 σ') : CI (n + 1) σ' ∧ sm σ' = sm σ ∧ (∀ j, ps σ' j = ps σ j) ∧ (∀ t' k, k ≤ 8 ∨ t' ≠ t → m_i σ' 10 t' k = m_i σ 10 t' k) ∧ ti σ' t 9 = 1 ∧ fw_e (wl [(6, 2), (10, 9), (14, 0)]) σ σ' := by
  have h0 := h
  obtain ⟨nn, k2, k3, k4, k5, k6, a1, a2, a3, a4, a5, a6, a7, a8, a9⟩ := h0
  obtain ⟨L1, L2, L3, L4, F, L6⟩ := lo34 hs k2 ht ht' p
  obtain ⟨g0, g1, g2, g3, g4, g5, g6, ⟨r, r1, r2⟩, g9⟩ := k2.2 t ht'
  have g0' : 0 ≤ (m_i σ 10 t 0).toInt ∧ (m_i σ 10 t 0).toInt < 3 := g0
  have g1' : 1 ≤ (m_i σ 10 t 1).toInt ∧ (m_i σ 10 t 1).toInt ≤ 9999 := g1
  have g3' : 0 ≤ (m_i σ 10 t 3).toInt ∧ (m_i σ 10 t 3).toInt < 5 := g3
  have g4' : 0 ≤ (m_i σ 10 t 4).toInt ∧ (m_i σ 10 t 4).toInt < 5 := g4
  have n0 := i_nat (a := m_i σ 10 t 0) g0.1
  have n3 := i_nat (a := m_i σ 10 t 3) g3.1
  have n4 := i_nat (a := m_i σ 10 t 4) g4.1
  have ipl : (m_i σ 10 t 0).toNatClampNeg < 3 := by omega
  have fI := r2 (m_i σ 10 t 0).toNatClampNeg n0.symm
  have f1 := (k3 _ ipl).2.2.2.2
  have FB := a8 t ht'
  have cs := NB_cs h
  have bnd : (∀ j, j < 3 → SP σ' j ≤ SP σ j + if j = (m_i σ 10 t 0).toNatClampNeg then 2000 * pv σ (m_i σ 10 t 0).toNatClampNeg 6 else 0) ∧ CS σ' ≤ CS σ + 10000000000 := by
    have nt : x1.toNatClampNeg = t := by have := i_nat (a := x1) (by omega); omega
    obtain ⟨v1, p1, h⟩ := p
    rcases p25 k2 p1 with ⟨_, z⟩ | ⟨_, _, e1⟩
    · omega
    rw [e1, nt] at h
    rcases h with ⟨z, _⟩ | ⟨q6, e6, i9, e9, h⟩
    · cases z
    cases e6; cases e9
    rcases h with ⟨_, v12, p12, v16, p16, v20, p20, h⟩ | ⟨z, _⟩
    · rw [p24 p12 g0, p22 p16 g3, p22 p20 g4] at h
      rcases h with ⟨z, _⟩ | ⟨q25, e25, ⟨z, _⟩ | ⟨q29, e29, ⟨z, _⟩ | ⟨q33, e33, h⟩⟩⟩
      · cases z
      · cases z
      · cases z
      cases e25; cases e29; cases e33
      obtain ⟨i36, e36, n39, e39, n41, e41, i39, e39', σ42, F42, p42, i45, e45, σ48, F48, p48, σ52, e52, σ55, e55, rfl⟩ := h
      cases e36; cases e39'; cases e45
      have num := pn hs ipl
      have in3 : (Int32.ofNat (m_i σ 10 t 0).toNatClampNeg).toInt = (m_i σ 10 t 0).toNatClampNeg := i_ofNat (by omega)
      have inc : (Int32.ofNat (m_i σ 10 t 0).toNatClampNeg).toNatClampNeg = (m_i σ 10 t 0).toNatClampNeg := by have := i_nat (a := Int32.ofNat (m_i σ 10 t 0).toNatClampNeg) (by omega); omega
      have hs42 := HS_w hs F42 (by decide)
      have num2 := pn hs42 ipl
      rw [num] at p42
      rw [num2] at p48
      have f7 : m_l σ48 10 t 7 = m_l σ 10 t 7 := ((F48.2 10 t 7 rfl).2.1).trans (F42.2 10 t 7 rfl).2.1
      have f8 : m_l σ48 10 t 8 = m_l σ 10 t 8 := ((F48.2 10 t 8 rfl).2.1).trans (F42.2 10 t 8 rfl).2.1
      have f8' : m_l σ42 10 t 8 = m_l σ 10 t 8 := (F42.2 10 t 8 rfl).2.1
      have sp := NB_sp h ipl
      have g2' : 1 ≤ (m_i σ 10 t 2).toInt ∧ (m_i σ 10 t 2).toInt ≤ 1000 * ti σ t 6 := g2
      have ed : (m_i σ 8 (m_i σ 10 t 0).toNatClampNeg 6 / m_i σ 10 t 6).toInt = r := by
        rw [i_div (by have : 1 ≤ (m_i σ 8 (m_i σ 10 t 0).toNatClampNeg 6).toInt := f1.1; omega) g6]
        have e : (m_i σ 8 (m_i σ 10 t 0).toNatClampNeg 6).toInt = r * ti σ t 6 := fI
        rw [e]
        exact Int.mul_ediv_cancel r (by show ti σ t 6 ≠ 0; omega)
      have m1 : (m_i σ 10 t 2).toInt * r ≤ 1000 * pv σ (m_i σ 10 t 0).toNatClampNeg 6 := by
        rw [fI]
        have := Int.mul_le_mul_of_nonneg_right g2'.2 (show 0 ≤ r by omega)
        have e : 1000 * ti σ t 6 * r = 1000 * (r * ti σ t 6) := by grind
        omega
      have m0 : 0 ≤ (m_i σ 10 t 2).toInt * r := Int.mul_nonneg (by omega) (by omega)
      have tf : ti σ t 6 ≤ 125 := by
        have : 1 * ti σ t 6 ≤ r * ti σ t 6 := Int.mul_le_mul_of_nonneg_right r1 (by omega)
        omega
      have q39 : n39.toInt = (m_i σ 10 t 2).toInt * r := by
        rw [e39, l_mul (by rw [i64, i64, ed]; omega) (by rw [i64, i64, ed]; omega), i64, i64, ed]
      have m2 : 0 ≤ (m_i σ 10 t 1).toInt * (m_i σ 10 t 2).toInt := Int.mul_nonneg (by omega) (by omega)
      have m3 : (m_i σ 10 t 1).toInt * (m_i σ 10 t 2).toInt ≤ 9999 * 125000 := Int.mul_le_mul g1'.2 (by omega) (by omega) (by omega)
      have q41 : n41.toInt = (m_i σ 10 t 1).toInt * (m_i σ 10 t 2).toInt := by
        rw [e41, l_mul (by rw [i64, i64]; omega) (by rw [i64, i64]; omega), i64, i64]
      have b7 := FB.1
      have b8 := FB.2
      have nq : (-n39).toInt = -n39.toInt := l_neg (by omega) (by omega)
      have nv : (-n41).toInt = -n41.toInt := l_neg (by omega) (by omega)
      have u1 : (n41 + m_l σ 10 t 7).toInt = n41.toInt + (m_l σ 10 t 7).toInt := l_add (by omega) (by omega)
      have u2 : (-n41 + m_l σ42 10 t 8).toInt = -n41.toInt + (m_l σ 10 t 8).toInt := by rw [f8', l_add (by omega) (by omega), nv]
      have iu1 : ia (n41 + m_l σ 10 t 7).toInt ≤ 1300000000 := le_ia (by omega) (by omega)
      have iu2 : ia (-n41 + m_l σ42 10 t 8).toInt ≤ 1300000000 := le_ia (by omega) (by omega)
      have iq1 : ia (-n39).toInt ≤ 1000 * pv σ (m_i σ 10 t 0).toNatClampNeg 6 := le_ia (by omega) (by omega)
      have iq2 : ia n39.toInt ≤ 1000 * pv σ (m_i σ 10 t 0).toNatClampNeg 6 := le_ia (by omega) (by omega)
      have h3 : (m_i σ 10 t 3).toNatClampNeg + 1 < 6 := by omega
      have h4 : (m_i σ 10 t 4).toNatClampNeg + 1 < 6 := by omega
      have s3 := SP_m (σ := σ) (j := (m_i σ 10 t 0).toNatClampNeg) h3
      have c3 := CS_m (σ := σ) h3
      obtain ⟨A1, A2, A3, A4⟩ := t91_b hs h3 (by omega) (by omega) (by rw [inc]; omega) p42
      have s4 := SP_m (σ := σ42) (j := (m_i σ 10 t 0).toNatClampNeg) h4
      have c4 := CS_m (σ := σ42) h4
      have A2k := A2 (m_i σ 10 t 0).toNatClampNeg
      rw [inc, if_pos rfl] at A2k
      obtain ⟨B1, B2, B3, B4⟩ := t91_b hs42 h4 (by omega) (by omega) (by rw [inc]; omega) p48
      have F55 : fw_e (wl [(10, 9)]) σ52 σ' := by rw [e55]; exact fw_set rfl
      have F52 : fw_e (wl [(6, 2)]) σ48 σ52 := by rw [e52]; exact fw_set rfl
      refine ⟨fun j hj => ?_, ?_⟩
      · rw [SP_fw F55 rfl, SP_fw F52 rfl]
        have x := A2 j
        have y := B2 j
        rw [inc] at x y
        by_cases q : j = (m_i σ 10 t 0).toNatClampNeg
        · rw [if_pos q] at x y ⊢; omega
        · rw [if_neg q] at x y ⊢; omega
      · rw [CS_fw F55 rfl]
        have c0 := CS_m (σ := σ48) (m := 0) (by decide)
        have d1 : (m_l σ48 10 t 7 + m_l σ48 10 t 8).toInt = (m_l σ 10 t 7).toInt + (m_l σ 10 t 8).toInt := by rw [f7, f8]; exact l_add (by omega) (by omega)
        have b0 := ia_le (x := cI σ48 0) (b := 1000000000000000000) (by omega)
        have d2 : (m_l σ48 6 0 2 - (m_l σ48 10 t 7 + m_l σ48 10 t 8)).toInt = cI σ48 0 + -((m_l σ 10 t 7).toInt + (m_l σ 10 t 8).toInt) := by
          rw [l_sub (by rw [d1]; show _ ≤ cI σ48 0 - _; omega) (by rw [d1]; show cI σ48 0 - _ < _; omega), d1]
          show cI σ48 0 - _ = _
          omega
        have d3 := ia_add (cI σ48 0) (-((m_l σ 10 t 7).toInt + (m_l σ 10 t 8).toInt))
        have d4 : ia (-((m_l σ 10 t 7).toInt + (m_l σ 10 t 8).toInt)) ≤ 4000000 := le_ia (by omega) (by omega)
        rw [e52, CS_set (by decide), d2]
        omega
    · have : (0 : Int) < (m_i σ 10 t 6).toInt := by have : 1 ≤ (m_i σ 10 t 6).toInt := g6; omega
      exact absurd this z
  obtain ⟨bS, bC⟩ := bnd
  have e : ∀ {c i k : Nat}, fwh (wl [(6, 2), (10, 9), (14, 0)]) c k = true → m_i σ' c i k = m_i σ c i k ∧ m_l σ' c i k = m_l σ c i k ∧ m_r σ' c i k = m_r σ c i k := fun h => F.2 _ _ _ h
  have one : n + 1 - n = 1 := by omega
  refine ⟨CI_gen F h ⟨by omega, hn⟩ (fl_of k4 (fun m => (e rfl).1) (fun m => (e rfl).1) (fun m => (e rfl).1) (fun m => (e rfl).2.1) (fun m j b1 b2 hj f9 z => ?_)) ⟨by rw [(e rfl).1]; exact k2.1, fun t' q => ?_⟩ (pO_fw F k3 rfl) (fun j hj => ?_) (by rw [one]; omega) (fun m hm => by rw [(e rfl).2.1]; have := a5 m hm; omega) (fun m b1 hm => by rw [(e rfl).2.1]; have := a6 m b1 hm; omega) (fun m b1 hm => ?_) (e rfl).2.1 rfl, L1, L2, L3, L4, F⟩
  · show (m_l σ' 14 m j).toInt = 0
    rw [L6 m j (fun q => ?_) (fun q => ?_) b2]
    · exact z
    · rw [q] at f9
      have f9' : (m_i σ 6 ((m_i σ 10 t 3).toNatClampNeg + 1) 9).toInt = 1 := f9
      unfold nfl at hb
      omega
    · rw [q] at f9
      have f9' : (m_i σ 6 ((m_i σ 10 t 4).toNatClampNeg + 1) 9).toInt = 1 := f9
      unfold nfl at hsl
      omega
  · rw [(e rfl).1] at q
    have g := k2.2 t' q
    by_cases y : t' = t
    · rw [y] at g ⊢
      obtain ⟨g0, g1, g2, g3, g4, g5, g6, gr, g9⟩ := g
      have ek : ∀ k, k ≤ 8 → ti σ' t k = ti σ t k := fun k hk => congrArg Int32.toInt (L3 t k (Or.inl hk))
      have ep : ∀ i, pv σ' i 6 = pv σ i 6 := fun i => congrArg Int32.toInt (e rfl).1
      unfold tOK
      rw [ek 0 (by decide), ek 1 (by decide), ek 2 (by decide), ek 3 (by decide), ek 4 (by decide), ek 6 (by decide)]
      simp only [ep]
      exact ⟨g0, g1, g2, g3, g4, g5, g6, gr, Or.inr L4⟩
    · exact tOK_of g (fun k _ => L3 t' k (Or.inr y)) (fun i => (e rfl).1)
  · have x := bS j hj
    rw [one]
    have := (k3 j hj).2.2.2.2.1
    by_cases y : j = (m_i σ 10 t 0).toNatClampNeg
    · rw [if_pos y, ← y] at x; omega
    · rw [if_neg y] at x; omega
  · have x : mi6 σ' m 6 = mi6 σ m 6 := congrArg Int32.toInt (e rfl).1
    rw [x]; have := a9 m b1 hm; omega
