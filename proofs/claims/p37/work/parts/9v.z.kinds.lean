/-! the house sells, a debt is settled, time passes, a split, a band, a halt -/
theorem k15 {n : Int} {N c : Nat} {σ σ' : mS} {w : Int64} (h : HI n N σ) (hn : n + 12 ≤ 300) (hk : (m_i σ 1 c 0).toInt = 15) (h1 : 0 ≤ (m_i σ 1 c 1).toInt ∧ (m_i σ 1 c 1).toInt < 3) (h2 : 0 ≤ (m_i σ 1 c 2).toInt ∧ (m_i σ 1 c 2).toInt < 5) (h3 : 1 ≤ (m_i σ 1 c 3).toInt ∧ (m_i σ 1 c 3).toInt ≤ 9999) (hf : nfl σ (m_i σ 1 c 2)) (p : P61 σ (some (1, c)) w σ') : HI (n + 2) N σ' ∧ fw_e (wl ((8, 7) :: L45)) σ σ' ∧ sm σ' = sm σ ∧ (∀ j, ps σ' j = ps σ j) ∧ w = m_l σ 14 0 (m_i σ 1 c 1).toNatClampNeg ∧ pI σ' 0 (m_i σ 1 c 1).toNatClampNeg = 0 ∧ m_l σ' 14 ((m_i σ 1 c 2).toNatClampNeg + 1) (m_i σ 1 c 1).toNatClampNeg = m_l σ 14 ((m_i σ 1 c 2).toNatClampNeg + 1) (m_i σ 1 c 1).toNatClampNeg + w ∧ (∀ i, m_i σ' 6 i 9 = m_i σ 6 i 9) := by
  obtain ⟨τ, A, q⟩ := d61 p
  have b := h.sp
  obtain ⟨p45, F⟩ := (d63 (A.1 (by omega))).2.2.2.2.2.1 hk
  obtain ⟨C, g1, g2, g3, g4, g5, g6⟩ := f45 h.1 h.2.2.2.1 (by omega) h1 h2 h3 hf p45
  have nFe : nF τ = nF σ := nF_of g6
  obtain ⟨H, G⟩ := qt h F (n := n + 2) (by rw [nFe]; have e : n + 2 + 2 * nF σ = n + 2 * nF σ + 2 := by omega
                                           rw [e]; exact C) (by rw [(F.2 2 0 6 rfl).1]; exact h.2.2.2.2.2) q (by decide) rfl rfl
  have g14 : ∀ i j, m_l σ' 14 i j = m_l τ 14 i j := fun i j => (G.2 14 i j (by unfold fwh; rw [if_neg (by decide)]; rfl)).2.1
  exact ⟨H, (wl_mono F (by decide)).tr (wl_mono G (by decide)), by rw [sm_fw G rfl]; exact g1, fun j => by rw [ps_fw G rfl]; exact g2 j, g3, by show (m_l σ' 14 _ _).toInt = 0; rw [g14]; exact g4, by rw [g14]; exact g5, fun i => ((G.2 6 i 9 rfl).1).trans (g6 i)⟩
theorem k16 {n : Int} {N c m : Nat} {σ σ' : mS} {w : Int64} (h : HI n N σ) (hn : n + 11 ≤ 300) (hk : (m_i σ 1 c 0).toInt = 16) (h1 : 1 ≤ m) (h6 : m < 6) (ht : m_r σ 2 0 9 = some (6, m)) (p : P61 σ (some (1, c)) w σ') : HI (n + 1) N σ' ∧ fw_e (wl [(2, 9), (6, 2), (6, 3), (6, 4), (6, 10), (8, 7)]) σ σ' ∧ sm σ' = sm σ ∧ (∀ j, ps σ' j = ps σ j) ∧ m_r σ' 2 0 9 = none ∧ mi6 σ' m 10 = 1 ∧ (0 ≤ w.toInt ∧ m_l σ' 6 0 3 = m_l σ 6 0 3 + w) ∧ (0 < w.toInt → (m_l σ' 6 m 2).toInt ≤ 0) := by
  obtain ⟨τ, A, q⟩ := d61 p
  have b := h.sp
  obtain ⟨C, g1, g2, g3, g4, g5, g6, F⟩ := s46 h.2.2.2.1 (by omega) h1 h6 ht ((d63 (A.1 (by omega))).2.2.2.2.2.2 hk)
  have nFe : nF τ = nF σ := nF_of (fun m => (F.2 6 m 9 rfl).1)
  obtain ⟨H, G⟩ := qt h F (n := n + 1) (by rw [nFe]; have e : n + 1 + 2 * nF σ = n + 2 * nF σ + 1 := by omega
                                           rw [e]; exact C) (by rw [(F.2 2 0 6 rfl).1]; exact h.2.2.2.2.2) q (by decide) rfl rfl
  exact ⟨H, (wl_mono F (by decide)).tr (wl_mono G (by decide)), by rw [sm_fw G rfl]; exact g1, fun j => by rw [ps_fw G rfl]; exact g2 j, ((G.2 2 0 9 rfl).2.2).trans g3, by show (m_i σ' 6 m 10).toInt = 1; rw [(G.2 6 m 10 rfl).1]; exact g4, ⟨g5.1, ((G.2 6 0 3 rfl).2.1).trans g5.2⟩, fun z => by rw [(G.2 6 m 2 rfl).2.1]; exact g6 z⟩
theorem k14 {n : Int} {N c : Nat} {σ σ' : mS} {w : Int64} (h : HI n N σ) (hn : n + 12 ≤ 300) (hk : (m_i σ 1 c 0).toInt = 14) (p : P61 σ (some (1, c)) w σ') : HI n N σ' ∧ fw_e (wl ((8, 7) :: L76)) σ σ' ∧ mO N σ σ' ∧ sm σ' = sm σ ∧ (∀ j, ps σ' j = ps σ j) ∧ (∀ i, mi6 σ i 9 = 1 → mi6 σ' i 9 = 1) ∧ w.toInt = nF σ' := by
  obtain ⟨τ, A, q⟩ := d61 p
  obtain ⟨v, p76, hw⟩ := A.2.2.2.2.2.2.2 hk
  obtain ⟨⟨t1, t2, t3, t4, t5, t6, t7⟩, F, hv⟩ := f76 h.1 h.2.1 h.2.2.1 h.2.2.2.1 (by omega) p76
  have hn' : hN τ N := ⟨by rw [(F.2 0 0 1 rfl).1]; exact h.2.1.1, h.2.1.2⟩
  obtain ⟨H, X, G⟩ := bh t1 hn' t3 t2 (by rw [(F.2 2 0 6 rfl).1]; exact h.2.2.2.2.2) q
  have G := G (fun i hi => by
    show (m_i τ 8 i 7).toInt = 0
    rw [(F.2 8 i 7 rfl).1]; exact h.2.2.2.2.1 i hi)
  refine ⟨H, (wl_mono F (by decide)).tr (wl_mono G (by decide)), t4.tr X.2.2.1, by rw [sm_fw G rfl]; exact t5, fun j => by rw [ps_fw G rfl]; exact t6 j, fun i z => ?_, ?_⟩
  · show (m_i σ' 6 i 9).toInt = 1
    rw [(G.2 6 i 9 rfl).1]; exact t7 i z
  · rw [hw, i64, hv, nF_of (fun i => (G.2 6 i 9 rfl).1)]
    exact t2.2.2.2.2.2.1
theorem k10 {n : Int} {N c ip : Nat} {σ σ' : mS} {w : Int64} (h : HI n N σ) (hk : (m_i σ 1 c 0).toInt = 10) (h1 : (m_i σ 1 c 1).toInt = ip) (hip : ip < 3) (h2 : 1 ≤ (m_i σ 1 c 2).toInt ∧ (m_i σ 1 c 2).toInt ≤ 5) (h5 : pv σ ip 5 ≤ 2) (p : P61 σ (some (1, c)) w σ') : HI n N σ' ∧ sm σ' = sm σ ∧ (∀ j, ps σ' j = if j = ip then ps σ j + ps σ j * (m_i σ 1 c 2 - Int32.ofInt 1).toInt64 else ps σ j) ∧ pv σ' ip 5 = pv σ ip 5 + 1 ∧ w.toInt = pv σ ip 5 + 1 ∧ (∀ i, i ≠ ip → m_i σ' 8 i 5 = m_i σ 8 i 5) ∧ (∀ o, o < N → oi σ o 2 = ip → so (m_i σ 1 c 2).toInt σ σ' o) ∧ (∀ o k, o < N → oi σ o 2 ≠ ip → m_i σ' 7 o k = m_i σ 7 o k) ∧ fw_e (wl [(6, 2), (7, 4), (7, 5), (7, 6), (7, 7), (7, 8), (8, 2), (8, 3), (8, 5), (8, 6), (8, 7), (14, 0)]) σ σ' ∧ ∀ i, pv σ' i 6 = if i = ip then pv σ ip 6 * (m_i σ 1 c 2).toInt else pv σ i 6 := by
  obtain ⟨τ, A, q⟩ := d61 p
  obtain ⟨σ14, F14, p36, p15, hw⟩ := (d62 h1 hip (A.2.1 (by omega))).2.2.2 hk
  have hs14 := HS_w h.1 F14 (by decide)
  have num := pn hs14 hip
  have ink : (Int32.ofNat ip).toInt = ip := i_ofNat (by omega)
  rw [(F14.2 1 c 2 rfl).1] at p15
  obtain ⟨C, O, g1, g2, g3, g4, g5, g6, F, g7⟩ := sp36 h.1 h.2.1 h.2.2.1 h.2.2.2.1 hip h2 h5 (by rw [num, ink]) p36 p15
  have nFe : nF τ = nF σ := nF_of (fun m => (F.2 6 m 9 rfl).1)
  have hn' : hN τ N := ⟨by rw [(F.2 0 0 1 rfl).1]; exact h.2.1.1, h.2.1.2⟩
  obtain ⟨H, X, G⟩ := bh (n := n) (HS_w h.1 F (by decide)) hn' O (by rw [nFe]; exact C) (by rw [(F.2 2 0 6 rfl).1]; exact h.2.2.2.2.2) q
  have G := G (fun i hi => by
    show (m_i τ 8 i 7).toInt = 0
    rw [(F.2 8 i 7 rfl).1]; exact h.2.2.2.2.1 i hi)
  have e7 : ∀ o k, m_i σ' 7 o k = m_i τ 7 o k := fun o k => by
    have : fwh (wl [(8, 7)]) 7 k = true := by unfold fwh; rfl
    exact (G.2 7 o k this).1
  have v5 : ∀ i, m_i σ' 8 i 5 = m_i τ 8 i 5 := fun i => (G.2 8 i 5 rfl).1
  refine ⟨H, by rw [sm_fw G rfl]; exact g1, fun j => by rw [ps_fw G rfl]; exact g2 j, by show (m_i σ' 8 ip 5).toInt = _; rw [v5]; exact g3, by rw [hw, i64]; exact g3, fun i hi => by rw [v5]; exact g4 i hi, fun o ho z => ?_, fun o k ho z => by rw [e7]; exact g6 o k ho z, (wl_mono F (by decide)).tr (wl_mono G (by decide)), fun i => by show (m_i σ' 8 i 6).toInt = _; rw [(G.2 8 i 6 rfl).1]; exact g7 i⟩
  have y := g5 o ho z
  unfold so oi at y ⊢
  rw [e7, e7, e7, e7]; exact y
theorem k7 {n : Int} {N c ip : Nat} {σ σ' : mS} {w : Int64} (h : HI n N σ) (hk : (m_i σ 1 c 0).toInt = 7) (h1 : (m_i σ 1 c 1).toInt = ip) (hip : ip < 3) (h2 : 0 ≤ (m_i σ 1 c 2).toInt ∧ (m_i σ 1 c 2).toInt ≤ 50) (p : P61 σ (some (1, c)) w σ') : HI n N σ' ∧ (0 ≤ w.toInt ∧ w.toInt < 51) ∧ fw_e (wl [(8, 4), (8, 7)]) σ σ' := by
  obtain ⟨τ, A, q⟩ := d61 p
  obtain ⟨v, ⟨σ2, e2, hv, rfl⟩, hw⟩ := (d62 h1 hip (A.2.1 (by omega))).1 hk
  have F : fw_e (wl [(8, 4)]) σ τ := by rw [e2]; exact fw_set rfl
  have C := h.2.2.2.1
  obtain ⟨nn, k2, k3, k4, k5, k6, a1, a2, a3, a4, a5, a6, a7, a8, a9⟩ := C
  have ee : ∀ {c i k : Nat}, fwh (wl [(8, 4)]) c k = true → m_i τ c i k = m_i σ c i k ∧ m_l τ c i k = m_l σ c i k ∧ m_r τ c i k = m_r σ c i k := fun h => F.2 _ _ _ h
  have nFe : nF τ = nF σ := nF_of (fun m => (ee rfl).1)
  have p14 : ∀ i j, m_l τ 14 i j = m_l σ 14 i j := fun i j => (F.2 14 i j (by unfold fwh; rw [if_neg (by decide)]; rfl)).2.1
  have c6 : ∀ m, 1 ≤ m → m < 6 → 0 ≤ mi6 τ m 6 ∧ mi6 τ m 6 ≤ n + 2 * nF σ := fun m b1 hm => by
    have x : mi6 τ m 6 = mi6 σ m 6 := congrArg Int32.toInt (ee rfl).1
    rw [x]; exact a9 m b1 hm
  have CI' : CI (n + 2 * nF τ) τ := by
    rw [nFe]
    refine CI_gen F h.2.2.2.1 ⟨Int.le_refl _, nn.2⟩ (fl_of k4 (fun m => (ee rfl).1) (fun m => (ee rfl).1) (fun m => (ee rfl).1) (fun m => (ee rfl).2.1) (fun m j _ _ _ _ z => by show (m_l τ 14 m j).toInt = 0; rw [p14]; exact z)) (tO_fw F k2 rfl) (fun i hi => ?_) (fun j hj => ?_) ?_ (fun m hm => by rw [(ee rfl).2.1]; exact a5 m hm) (fun m m1 hm => by rw [(ee rfl).2.1]; exact a6 m m1 hm) c6 (ee rfl).2.1 rfl
    · obtain ⟨q1, q2, q4, q5, q6, q7, q8, q9, q10⟩ := k3 i hi
      have x1 : pv τ i 1 = pv σ i 1 := congrArg Int32.toInt (ee rfl).1
      have x2 : pv τ i 2 = pv σ i 2 := congrArg Int32.toInt (ee rfl).1
      have x5 : pv τ i 5 = pv σ i 5 := congrArg Int32.toInt (ee rfl).1
      have x6 : pv τ i 6 = pv σ i 6 := congrArg Int32.toInt (ee rfl).1
      have x4 : 0 ≤ pv τ i 4 ∧ pv τ i 4 ≤ 50 := by
        show 0 ≤ (m_i τ 8 i 4).toInt ∧ (m_i τ 8 i 4).toInt ≤ 50
        rw [e2, mi_si]
        by_cases y : i = ip
        · rw [if_pos ⟨rfl, y, rfl⟩]; exact h2
        · rw [if_neg (fun z => y z.2.1)]; exact q4
      rw [x1, x2, x5, x6]
      exact ⟨q1, q2, x4, q5, q6, q7, q8, q9, q10⟩
    · rw [SP_fw F rfl]
      have e : n + 2 * nF σ - (n + 2 * nF σ) = 0 := by omega
      rw [e]; omega
    · rw [CS_fw F rfl]; omega
  obtain ⟨H, G⟩ := qt h F CI' (by rw [(ee rfl).1]; exact h.2.2.2.2.2) q (by decide) rfl rfl
  refine ⟨H, ?_, (wl_mono F (by decide)).tr (wl_mono G (by decide))⟩
  rw [hw, i64, hv]
  have : 0 ≤ (m_i σ 8 ip 4).toInt ∧ (m_i σ 8 ip 4).toInt ≤ 50 := (k3 ip hip).2.2.1
  omega
theorem k8 {n : Int} {N c ip : Nat} {σ σ' : mS} {w : Int64} (h : HI n N σ) (hk : (m_i σ 1 c 0).toInt = 8) (h1 : (m_i σ 1 c 1).toInt = ip) (hip : ip < 3) (p : P61 σ (some (1, c)) w σ') : HI n N σ' ∧ fw_e (wl [(8, 1), (8, 7)]) σ σ' ∧ pv σ' ip 1 = 1 ∧ ∀ i, i ≠ ip → m_i σ' 8 i 1 = m_i σ 8 i 1 := by
  obtain ⟨τ, A, q⟩ := d61 p
  obtain ⟨e2, _⟩ := (d62 h1 hip (A.2.1 (by omega))).2.1 hk
  have F : fw_e (wl [(8, 1)]) σ τ := by rw [e2]; exact fw_set rfl
  have FSs : FS σ τ := by rw [e2]; exact FS_ph (Or.inr rfl)
  have nFe : nF τ = nF σ := nF_of (fun m => (F.2 6 m 9 rfl).1)
  obtain ⟨H, G⟩ := qt h F (by rw [nFe]; exact FS_ci FSs h.2.2.2.1) (by rw [(F.2 2 0 6 rfl).1]; exact h.2.2.2.2.2) q (by decide) rfl rfl
  refine ⟨H, (wl_mono F (by decide)).tr (wl_mono G (by decide)), ?_, fun i hi => ?_⟩
  · show (m_i σ' 8 ip 1).toInt = 1
    rw [(G.2 8 ip 1 rfl).1, e2, mi_si, if_pos ⟨rfl, rfl, rfl⟩]; exact i_1
  · rw [(G.2 8 i 1 rfl).1, e2, mi_si, if_neg (fun z => hi z.2.1)]
