/-! the calls one by one: what is paid, set, broken, sold, settled; time -/
theorem qt {n n0 : Int} {N : Nat} {L : List (Nat × Nat)} {σ τ σ' : mS} (h : HI n0 N σ) (F : fw_e (wl L) σ τ) (C : CI (n + 2 * nF τ) τ) (h6 : 0 ≤ (m_i τ 2 0 6).toInt ∧ (m_i τ 2 0 6).toInt ≤ 4) (p : P69 τ σ') (c1 : L.all (fun q => !(hpS q.1 q.2)) = true) (c2 : ((List.range 13).all (fun k => fwh (wl L) 7 k) && (fwh (wl L) 8 6 && (fwh (wl L) 0 1 && fwh (wl L) 6 9))) = true) (c3 : fwh (wl L) 8 7 = true) : HI n N σ' ∧ fw_e (wl [(8, 7)]) τ σ' := by
  obtain ⟨hs, hn, ho, _, hm, _⟩ := h
  have s : sO σ τ := sO_of F c2
  obtain ⟨a, _, b⟩ := bh (HS_w hs F c1) (s.hN hn) (hO_s ho s) C h6 p
  exact ⟨a, b (fun i hi => by
    show (m_i τ 8 i 7).toInt = 0
    rw [(F.2 8 i 7 c3).1]; exact hm i hi)⟩
theorem k0 {n : Int} {N c : Nat} {σ σ' : mS} {w : Int64} (h : HI n N σ) (hn : n + 11 ≤ 300) (hk : (m_i σ 1 c 0).toInt = 0) (h1 : 0 ≤ (m_i σ 1 c 1).toInt ∧ (m_i σ 1 c 1).toInt < 5) (h2 : 1 ≤ (m_i σ 1 c 2).toInt ∧ (m_i σ 1 c 2).toInt ≤ 1000000) (hf : nfl σ (m_i σ 1 c 1)) (p : P61 σ (some (1, c)) w σ') : HI (n + 1) N σ' ∧ fw_e (wl [(6, 3), (8, 7)]) σ σ' ∧ sm σ' = sm σ + (m_i σ 1 c 2).toInt64 ∧ w = m_l σ' 6 ((m_i σ 1 c 1).toNatClampNeg + 1) 3 ∧ (m_i σ 1 c 2).toInt ≤ w.toInt := by
  obtain ⟨τ, A, q⟩ := d61 p
  obtain ⟨e, hw, hsm⟩ := lo29 h1 ((d63 (A.1 (by omega))).1 hk)
  have F : fw_e (wl [(6, 3)]) σ τ := by rw [e]; exact fw_set rfl
  have C := h.2.2.2.1
  obtain ⟨nn, k2, k3, k4, k5, k6, a1, a2, a3, a4, a5, a6, a7, a8, a9⟩ := C
  have b := nF_b k4
  have n1 := i_nat h1.1
  have ee : ∀ {c i k : Nat}, fwh (wl [(6, 3)]) c k = true → m_i τ c i k = m_i σ c i k ∧ m_l τ c i k = m_l σ c i k ∧ m_r τ c i k = m_r σ c i k := fun h => F.2 _ _ _ h
  have v3 : ∀ m, m_l τ 6 m 3 = if m = (m_i σ 1 c 1).toNatClampNeg + 1 then w else m_l σ 6 m 3 := fun m => by
    rw [e, ml_sl]
    by_cases y : m = (m_i σ 1 c 1).toNatClampNeg + 1
    · rw [if_pos ⟨rfl, y, rfl⟩, if_pos y, hw]
    · rw [if_neg (fun z => y z.2.1), if_neg y]
  have old := a6 ((m_i σ 1 c 1).toNatClampNeg + 1) (by omega) (by omega)
  have wv : w.toInt = (m_l σ 6 ((m_i σ 1 c 1).toNatClampNeg + 1) 3).toInt + (m_i σ 1 c 2).toInt := by
    rw [hw, l_add (by rw [i64]; omega) (by rw [i64]; omega), i64]
  have nFe : nF τ = nF σ := nF_of (fun m => (ee rfl).1)
  have p14 : ∀ i j, m_l τ 14 i j = m_l σ 14 i j := fun i j => (F.2 14 i j (by unfold fwh; rw [if_neg (by decide)]; rfl)).2.1
  have v6 : ∀ m k, mi6 τ m k = mi6 σ m k := fun m k => by
    have : m_i τ 6 m k = m_i σ 6 m k := by rw [e, mi_sl]
    exact congrArg Int32.toInt this
  have CI' : CI (n + 1 + 2 * nF τ) τ := by
    rw [nFe]
    refine CI_gen F h.2.2.2.1 ⟨by omega, by omega⟩ (fun m m1 m6 => ?_) (tO_fw F k2 rfl) (pO_fw F k3 rfl) (fun j hj => ?_) ?_ (fun m hm => by rw [(ee rfl).2.1]; have := a5 m hm; omega) (fun m m1 hm => ?_) (fun m b1 hm => by rw [v6]; have := a9 m b1 hm; omega) ?_ rfl
    · obtain ⟨f1, f2, f3, f4, f5, f6, f7⟩ := k4 m m1 m6
      unfold fl1
      rw [v6, v6, v6, v3]
      refine ⟨f1, f2, f3, f4, f5, fun z j hj => by show (m_l τ 14 m j).toInt = 0; rw [p14]; exact f6 z j hj, fun z => ?_⟩
      by_cases y : m = (m_i σ 1 c 1).toNatClampNeg + 1
      · have z9 := f4 z
        rw [y] at z9
        have z9' : (m_i σ 6 ((m_i σ 1 c 1).toNatClampNeg + 1) 9).toInt = 1 := z9
        unfold nfl at hf
        omega
      · rw [if_neg y]; exact f7 z
    · rw [SP_fw F rfl]
      have := (k3 j hj).2.2.2.2.1
      have e : n + 1 + 2 * nF σ - (n + 2 * nF σ) = 1 := by omega
      rw [e]; omega
    · rw [CS_fw F rfl]; omega
    · rw [v3]
      by_cases y : m = (m_i σ 1 c 1).toNatClampNeg + 1
      · rw [if_pos y]; omega
      · rw [if_neg y]; have := a6 m m1 hm; omega
    · rw [v3, if_neg (by omega)]
  obtain ⟨H, G⟩ := qt h F CI' (by rw [(ee rfl).1]; exact h.2.2.2.2.2) q (by decide) rfl rfl
  refine ⟨H, (wl_mono F (by decide)).tr (wl_mono G (by decide)), by rw [sm_fw G rfl]; exact hsm, ?_, by omega⟩
  rw [(G.2 6 _ 3 rfl).2.1, v3, if_pos rfl]
theorem k1 {n : Int} {N c : Nat} {σ σ' : mS} {w : Int64} (h : HI n N σ) (hn : n + 11 ≤ 300) (hk : (m_i σ 1 c 0).toInt = 1) (h1 : -1 ≤ (m_i σ 1 c 1).toInt ∧ (m_i σ 1 c 1).toInt < 5) (h2 : 1 ≤ (m_i σ 1 c 2).toInt ∧ (m_i σ 1 c 2).toInt ≤ 1000000) (p : P61 σ (some (1, c)) w σ') : HI (n + 1) N σ' ∧ fw_e (wl [(6, 4), (8, 7)]) σ σ' ∧ sm σ' = sm σ + (m_i σ 1 c 2).toInt64 ∧ w = m_l σ' 6 (hx (m_i σ 1 c 1)) 4 ∧ (m_i σ 1 c 2).toInt ≤ w.toInt := by
  obtain ⟨τ, A, q⟩ := d61 p
  obtain ⟨e, hw, hsm⟩ := lo30 h1 ((d63 (A.1 (by omega))).2.1 hk)
  have F : fw_e (wl [(6, 4)]) σ τ := by rw [e]; exact fw_set rfl
  have C := h.2.2.2.1
  obtain ⟨nn, k2, k3, k4, k5, k6, a1, a2, a3, a4, a5, a6, a7, a8, a9⟩ := C
  have b := nF_b k4
  have hx6 : hx (m_i σ 1 c 1) < 6 := by
    unfold hx
    by_cases y : (m_i σ 1 c 1).toInt = -1
    · rw [if_pos y]; decide
    · rw [if_neg y]; have n1 := i_nat (a := m_i σ 1 c 1) (by omega); omega
  have ee : ∀ {c i k : Nat}, fwh (wl [(6, 4)]) c k = true → m_i τ c i k = m_i σ c i k ∧ m_l τ c i k = m_l σ c i k ∧ m_r τ c i k = m_r σ c i k := fun h => F.2 _ _ _ h
  have v4 : ∀ m, m_l τ 6 m 4 = if m = hx (m_i σ 1 c 1) then w else m_l σ 6 m 4 := fun m => by
    rw [e, ml_sl]
    by_cases y : m = hx (m_i σ 1 c 1)
    · rw [if_pos ⟨rfl, y, rfl⟩, if_pos y, hw]
    · rw [if_neg (fun z => y z.2.1), if_neg y]
  have old := a5 (hx (m_i σ 1 c 1)) hx6
  have wv : w.toInt = (m_l σ 6 (hx (m_i σ 1 c 1)) 4).toInt + (m_i σ 1 c 2).toInt := by
    rw [hw, l_add (by rw [i64]; omega) (by rw [i64]; omega), i64]
  have nFe : nF τ = nF σ := nF_of (fun m => (ee rfl).1)
  have p14 : ∀ i j, m_l τ 14 i j = m_l σ 14 i j := fun i j => (F.2 14 i j (by unfold fwh; rw [if_neg (by decide)]; rfl)).2.1
  have v6 : ∀ m k, mi6 τ m k = mi6 σ m k := fun m k => by
    have : m_i τ 6 m k = m_i σ 6 m k := by rw [e, mi_sl]
    exact congrArg Int32.toInt this
  have CI' : CI (n + 1 + 2 * nF τ) τ := by
    rw [nFe]
    refine CI_gen F h.2.2.2.1 ⟨by omega, by omega⟩ (fl_of k4 (fun m => (ee rfl).1) (fun m => (ee rfl).1) (fun m => (ee rfl).1) (fun m => (ee rfl).2.1) (fun m j _ _ _ _ z => by show (m_l τ 14 m j).toInt = 0; rw [p14]; exact z)) (tO_fw F k2 rfl) (pO_fw F k3 rfl) (fun j hj => ?_) ?_ (fun m hm => ?_) (fun m m1 hm => by rw [(ee rfl).2.1]; have := a6 m m1 hm; omega) (fun m b1 hm => by rw [v6]; have := a9 m b1 hm; omega) (ee rfl).2.1 rfl
    · rw [SP_fw F rfl]
      have := (k3 j hj).2.2.2.2.1
      have e : n + 1 + 2 * nF σ - (n + 2 * nF σ) = 1 := by omega
      rw [e]; omega
    · rw [CS_fw F rfl]; omega
    · rw [v4]
      by_cases y : m = hx (m_i σ 1 c 1)
      · rw [if_pos y]; omega
      · rw [if_neg y]; have := a5 m hm; omega
  obtain ⟨H, G⟩ := qt h F CI' (by rw [(ee rfl).1]; exact h.2.2.2.2.2) q (by decide) rfl rfl
  refine ⟨H, (wl_mono F (by decide)).tr (wl_mono G (by decide)), by rw [sm_fw G rfl]; exact hsm, ?_, by omega⟩
  rw [(G.2 6 _ 4 rfl).2.1, v4, if_pos rfl]
/-- a scenario -/
theorem k13 {n : Int} {N c k : Nat} {σ σ' : mS} {w : Int64} (h : HI n N σ) (hk : (m_i σ 1 c 0).toInt = 13) (h6 : (m_i σ 2 0 6).toInt = k) (h4 : k < 4) (p : P61 σ (some (1, c)) w σ') : HI n N σ' ∧ fw_e (wl [(2, 6), (8, 7), (13, 0)]) σ σ' ∧ (m_i σ' 2 0 6).toInt = k + 1 ∧ w.toInt = k + 1 ∧ m_i σ' 13 k 0 = m_i σ 1 c 1 ∧ m_i σ' 13 k 1 = m_i σ 1 c 2 ∧ m_i σ' 13 k 2 = m_i σ 1 c 3 ∧ (∀ i j, i ≠ k → m_i σ' 13 i j = m_i σ 13 i j) := by
  obtain ⟨τ, A, q⟩ := d61 p
  obtain ⟨v, p31, hw⟩ := (d63 (A.1 (by omega))).2.2.2.2.1 hk
  obtain ⟨g1, g2, g3, g4, g5, g6, F⟩ := lo31 h6 h4 p31
  have nFe : nF τ = nF σ := nF_of (fun m => (F.2 6 m 9 rfl).1)
  obtain ⟨H, G⟩ := qt h F (by rw [nFe]; exact CI_fw F h.2.2.2.1 rfl) (by omega) q (by decide) rfl rfl
  have g13 : ∀ i j, m_i σ' 13 i j = m_i τ 13 i j := fun i j => (G.2 13 i j (by unfold fwh; rw [if_neg (by decide)]; rfl)).1
  exact ⟨H, (wl_mono F (by decide)).tr (wl_mono G (by decide)), by rw [(G.2 2 0 6 rfl).1]; exact g2, by rw [hw, i64]; exact g1, by rw [g13]; exact g3, by rw [g13]; exact g4, by rw [g13]; exact g5, fun i j hi => by rw [g13]; exact g6 i j hi⟩
/-- a dividend -/
theorem k11 {n : Int} {N c k : Nat} {σ σ' : mS} {w : Int64} (h : HI n N σ) (hn : n + 11 ≤ 300) (hk : (m_i σ 1 c 0).toInt = 11) (h1 : (m_i σ 1 c 1).toInt = k) (hk3 : k < 3) (h2 : 0 ≤ (m_i σ 1 c 2).toInt ∧ (m_i σ 1 c 2).toInt ≤ 1000) (p : P61 σ (some (1, c)) w σ') : HI (n + 1) N σ' ∧ fw_e (wl [(6, 2), (8, 7)]) σ σ' ∧ w = dS σ k (m_i σ 1 c 2).toInt64 6 ∧ sm σ' = sm σ + ps σ k * (m_i σ 1 c 2).toInt64 := by
  obtain ⟨τ, A, q⟩ := d61 p
  have b := h.sp
  obtain ⟨C, F, hw, hsm⟩ := f37 h.1 h.2.2.2.1 (by omega) hk3 h1 h2 ((d63 (A.1 (by omega))).2.2.1 hk)
  have nFe : nF τ = nF σ := nF_of (fun m => (F.2 6 m 9 rfl).1)
  obtain ⟨H, G⟩ := qt h F (n := n + 1) (by rw [nFe]; have e : n + 1 + 2 * nF σ = n + 2 * nF σ + 1 := by omega
                                           rw [e]; exact C) (by rw [(F.2 2 0 6 rfl).1]; exact h.2.2.2.2.2) q (by decide) rfl rfl
  exact ⟨H, (wl_mono F (by decide)).tr (wl_mono G (by decide)), hw, by rw [sm_fw G rfl]; exact hsm⟩
/-- a trade is broken -/
theorem k12 {n : Int} {N c t : Nat} {σ σ' : mS} {w : Int64} (h : HI n N σ) (hn : n + 11 ≤ 300) (hk : (m_i σ 1 c 0).toInt = 12) (h1 : (m_i σ 1 c 1).toInt = t) (ht : (t : Int) < (m_i σ 2 0 5).toInt) (hb : nfl σ (m_i σ 10 t 3)) (hsl : nfl σ (m_i σ 10 t 4)) (p : P61 σ (some (1, c)) w σ') : HI (n + 1) N σ' ∧ fw_e (wl [(6, 2), (8, 7), (10, 9), (14, 0)]) σ σ' ∧ sm σ' = sm σ ∧ (∀ j, ps σ' j = ps σ j) ∧ (∀ t' k, k ≤ 8 ∨ t' ≠ t → m_i σ' 10 t' k = m_i σ 10 t' k) ∧ ti σ' t 9 = 1 := by
  obtain ⟨τ, A, q⟩ := d61 p
  have b := h.sp
  obtain ⟨C, g1, g2, g3, g4, F⟩ := f34 h.1 h.2.2.2.1 (by omega) h1 ht hb hsl ((d63 (A.1 (by omega))).2.2.2.1 hk)
  have nFe : nF τ = nF σ := nF_of (fun m => (F.2 6 m 9 rfl).1)
  obtain ⟨H, G⟩ := qt h F (n := n + 1) (by rw [nFe]; have e : n + 1 + 2 * nF σ = n + 2 * nF σ + 1 := by omega
                                           rw [e]; exact C) (by rw [(F.2 2 0 6 rfl).1]; exact h.2.2.2.2.2) q (by decide) rfl rfl
  have g10 : ∀ t k, m_i σ' 10 t k = m_i τ 10 t k := fun t k => by
    have q1 : fwh (wl [(8, 7)]) 10 k = true := by unfold fwh; rfl
    exact (G.2 10 t k q1).1
  exact ⟨H, (wl_mono F (by decide)).tr (wl_mono G (by decide)), by rw [sm_fw G rfl]; exact g1, fun j => by rw [ps_fw G rfl]; exact g2 j, fun t' k hh => by rw [g10]; exact g3 t' k hh, by show (m_i σ' 10 t 9).toInt = 1; rw [g10]; exact g4⟩
