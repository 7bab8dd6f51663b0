/-! the clearing's other acts keep what the clearing keeps -/
def CM : List (Nat × Nat) := [(2, 5), (2, 8), (2, 9), (2, 10), (6, 9), (6, 10), (8, 6), (8, 8), (10, 7), (10, 8)]
theorem CI_gen {n n' : Int} {L : List (Nat × Nat)} {σ σ' : mS} (F : fw_e (wl L) σ σ') (h : CI n σ) (hn : n ≤ n' ∧ n' ≤ 300) (hl : fl σ') (hT : tO σ') (hp : pO σ') (hS : ∀ j, j < 3 → SP σ' j ≤ SP σ j + 2000 * pv σ j 6 * (n' - n)) (hC : CS σ' ≤ CS σ + 100000000000000 * (n' - n)) (h4 : ∀ m, m < 6 → 0 ≤ (m_l σ' 6 m 4).toInt ∧ (m_l σ' 6 m 4).toInt ≤ 1000000 * n') (h3 : ∀ m, 1 ≤ m → m < 6 → 0 ≤ (m_l σ' 6 m 3).toInt ∧ (m_l σ' 6 m 3).toInt ≤ 1000000 * n') (h6 : ∀ m, 1 ≤ m → m < 6 → 0 ≤ mi6 σ' m 6 ∧ mi6 σ' m 6 ≤ n') (h03 : m_l σ' 6 0 3 = m_l σ 6 0 3) (c : (CM.all (fun q => fwh (wl L) q.1 q.2)) = true) : CI n' σ' := by
  have q : ∀ a b, (a, b) ∈ CM → fwh (wl L) a b = true := fun a b h => List.all_eq_true.mp c (a, b) h
  obtain ⟨nn, k2, k3, k4, k5, k6, a1, a2, a3, a4, a5, a6, a7, a8, a9⟩ := h
  have ei : ∀ {c i k : Nat}, (c, k) ∈ CM → m_i σ' c i k = m_i σ c i k := fun h => (F.2 _ _ _ (q _ _ h)).1
  have el : ∀ {c i k : Nat}, (c, k) ∈ CM → m_l σ' c i k = m_l σ c i k := fun h => (F.2 _ _ _ (q _ _ h)).2.1
  have tce : tc σ' = tc σ := congrArg Int32.toInt (ei (by decide))
  refine ⟨⟨by omega, by omega⟩, hT, hp, hl, sl_of k5 (fun m => ei (by decide)) (fun m => ei (by decide)) (F.2 _ _ _ (q 2 9 (by decide))).2.2, by rw [ei (by decide), nF_of (fun m => ei (by decide))]; exact k6, fun j hj => ?_, ?_, fun i hi => by rw [el (by decide)]; have := a3 i hi; omega, by rw [cc_of (fun i => el (by decide)), el (by decide)]; omega, h4, h3, by rw [h03, nSt_of (fun i => ei (by decide))]; exact a7, fun t ht' => ?_, h6⟩
  · have x := a1 j hj
    have y : pv σ' j 6 = pv σ j 6 := congrArg Int32.toInt (ei (by decide))
    have z := hS j hj
    rw [y, tce]
    have e : pv σ j 6 * (2000 * (tc σ + n')) = pv σ j 6 * (2000 * (tc σ + n)) + 2000 * pv σ j 6 * (n' - n) := by grind
    omega
  · rw [tce]; omega
  · rw [tce] at ht'
    have x := a8 t ht'
    unfold fB at x ⊢
    rw [el (by decide), el (by decide)]; exact x
/-! a dividend -/
def dS (σ : mS) (k : Nat) (d : Int64) : Nat → Int64
  | 0 => 0
  | n + 1 => dS σ k d n + lmax (Int64.ofNat 0) (m_l σ 14 n k * d)
theorem p38 {β τ σ' : mS} {m k : Nat} {x2 x3 : Int32} {w : Int64} (hs : HS β) (F : fw_e (wl [(6, 2)]) β τ) (hm : m < 6) (hk : k < 3) (h2 : x2.toInt = k) (p : P38 τ (some (6, m)) x2 x3 w σ') : fw_e (wl [(6, 2)]) β σ' ∧ w = lmax (Int64.ofNat 0) (m_l β 14 m k * x3.toInt64) ∧ ∀ i, m_l σ' 6 i 2 = if i = m then m_l τ 6 i 2 + m_l β 14 i k * x3.toInt64 else m_l τ 6 i 2 := by
  obtain ⟨i1, e1, v3, p3', σ8, e8, hw, rfl⟩ := p
  cases e1
  have hsτ := HS_w hs F (by decide)
  have ev := p90 hsτ hm (by omega) p3'
  have kc : x2.toNatClampNeg = k := by have := i_nat (a := x2) (by omega); omega
  have p14 : ∀ i j, m_l τ 14 i j = m_l β 14 i j := fun i j => (F.2 14 i j (by unfold fwh; rw [if_neg (by decide)]; rfl)).2.1
  rw [kc, p14] at ev
  refine ⟨F.tr (by rw [e8]; exact fw_set rfl), by rw [hw, ev], fun i => ?_⟩
  rw [e8, ml_sl]
  by_cases q : i = m
  · rw [if_pos ⟨rfl, q, rfl⟩, if_pos q, ev, q]
  · rw [if_neg (fun z => q z.2.1), if_neg q]
theorem q37_s {β : mS} {k : Nat} {c1 c2 : Int32} (hs : HS β) (hk : k < 3) (h1 : c1.toInt = k) : ∀ n (u3 : Int64) (u7 : Int32) (τ : mS) (w : Int64) (σ' : mS), Q37_25 c1 c2 (Int32.ofInt 5) n u3 u7 τ w σ' → 0 ≤ u7.toInt → u7.toInt ≤ 5 → fw_e (wl [(6, 2)]) β τ → u3 = dS β k c2.toInt64 (u7.toNatClampNeg + 1) → (∀ i, i < 6 → m_l τ 6 i 2 = if i < u7.toNatClampNeg + 1 then m_l β 6 i 2 + m_l β 14 i k * c2.toInt64 else m_l β 6 i 2) → fw_e (wl [(6, 2)]) β σ' ∧ w = dS β k c2.toInt64 6 ∧ ∀ i, i < 6 → m_l σ' 6 i 2 = m_l β 6 i 2 + m_l β 14 i k * c2.toInt64 := by
  intro n
  induction n with
  | zero => intro u3 u7 τ w σ' h; exact h.elim
  | succ n IH =>
    intro u3 u7 τ w σ' h p0 p5 F I1 I2
    have h : B37_25 c1 c2 (Int32.ofInt 5) (Q37_25 c1 c2 (Int32.ofInt 5) n) u3 u7 τ w σ' := h
    have n7 := i_nat p0
    have i5 : (Int32.ofInt 5).toInt = 5 := by decide
    rcases h with ⟨hh, rfl, rfl⟩ | ⟨_, hr, v3, σ4, _, p4, h⟩
    · have e : u7.toNatClampNeg + 1 = 6 := by omega
      rw [e] at I1 I2
      exact ⟨F, I1, fun i hi => by rw [I2 i hi, if_pos hi]⟩
    · have e1 : (u7 + Int32.ofInt 1).toInt = u7.toInt + 1 := i_inc p0 (by omega)
      have n8 := i_nat (a := u7 + Int32.ofInt 1) (by omega)
      have ek : (u7 + Int32.ofInt 1).toNatClampNeg = u7.toNatClampNeg + 1 := by omega
      obtain ⟨G1, G2, G3⟩ := p38 hs F (by omega) hk h1 p4
      refine IH _ _ σ4 w σ' h (by omega) (by omega) G1 ?_ (fun i hi => ?_)
      · rw [ek, I1, G2]; rfl
      · rw [G3, ek]
        by_cases q : i = u7.toNatClampNeg + 1
        · rw [if_pos q, if_pos (by omega), I2 i hi, if_neg (by omega)]
        · rw [if_neg q, I2 i hi]
          by_cases y : i < u7.toNatClampNeg + 1
          · rw [if_pos y, if_pos (by omega)]
          · rw [if_neg y, if_neg (by omega)]
theorem lo37 {σ σ' : mS} {k : Nat} {x1 x2 : Int32} {w : Int64} (hs : HS σ) (hk : k < 3) (h1 : x1.toInt = k) (p : P37 σ x1 x2 w σ') : fw_e (wl [(6, 2)]) σ σ' ∧ w = dS σ k x2.toInt64 6 ∧ ∀ i, i < 6 → m_l σ' 6 i 2 = m_l σ 6 i 2 + m_l σ 14 i k * x2.toInt64 := by
  obtain ⟨v1, σ2, _, p2, n, hq⟩ := p
  obtain ⟨G1, G2, G3⟩ := p38 hs fw_e.rf' (by decide) hk h1 p2
  have zc : (Int32.ofInt 0).toNatClampNeg = 0 := by decide
  refine q37_s hs hk h1 n v1 _ σ2 w σ' hq (by rw [i_0]; omega) (by rw [i_0]; omega) G1 ?_ (fun i hi => ?_)
  · rw [zc, G2]
    show _ = (0 : Int64) + _
    grind
  · rw [zc, G3]
    by_cases q : i = 0
    · rw [if_pos q, if_pos (by omega)]
    · rw [if_neg q, if_neg (by omega)]
theorem f37 {n : Int} {σ σ' : mS} {k : Nat} {x1 x2 : Int32} {w : Int64} (hs : HS σ) (h : CI n σ) (hn : n + 1 ≤ 300) (hk : k < 3) (h1 : x1.toInt = k) (h2 : 0 ≤ x2.toInt ∧ x2.toInt ≤ 1000) (p : P37 σ x1 x2 w σ') : CI (n + 1) σ' ∧ fw_e (wl [(6, 2)]) σ σ' ∧ w = dS σ k x2.toInt64 6 ∧ sm σ' = sm σ + ps σ k * x2.toInt64 := by
  obtain ⟨F, hw, hc⟩ := lo37 hs hk h1 p
  have h' := h
  obtain ⟨nn, k2, k3, k4, k5, k6, a1, a2, a3, a4, a5, a6, a7, a8, a9⟩ := h'
  have e : ∀ {c i k : Nat}, fwh (wl [(6, 2)]) c k = true → m_i σ' c i k = m_i σ c i k ∧ m_l σ' c i k = m_l σ c i k ∧ m_r σ' c i k = m_r σ c i k := fun h => F.2 _ _ _ h
  have sp := NB_sp h hk
  have cs := NB_cs h
  have c1 : ∀ m, m < 6 → ia (cI σ' m) ≤ ia (cI σ m) + ia (pI σ m k) * 1000 := fun m hm => by
    have s1 := SP_m (σ := σ) (j := k) hm
    have s2 := CS_m (σ := σ) hm
    have b1 := ia_le (x := cI σ m) (b := 40000000000000000) (by omega)
    have x2' := i64 x2
    have im : ia ((m_l σ 14 m k).toInt * x2.toInt64.toInt) ≤ ia (pI σ m k) * 1000 := ia_mul_le (Int.le_refl _) (by rw [x2']; exact le_ia (by omega) (by omega))
    have ib := ia_le im
    have s1' : ia (pI σ m k) ≤ 130000000 := by omega
    have v : (m_l σ 14 m k * x2.toInt64).toInt = (m_l σ 14 m k).toInt * x2.toInt64.toInt := l_mul (by omega) (by omega)
    have u : (m_l σ 6 m 2 + m_l σ 14 m k * x2.toInt64).toInt = cI σ m + (m_l σ 14 m k).toInt * x2.toInt64.toInt := by
      rw [l_add (by rw [v]; show _ ≤ cI σ m + _; omega) (by rw [v]; show cI σ m + _ < _; omega), v]
    show ia (m_l σ' 6 m 2).toInt ≤ _
    rw [hc m hm, u]
    have := ia_add (cI σ m) ((m_l σ 14 m k).toInt * x2.toInt64.toInt)
    omega
  have CS' : CS σ' ≤ CS σ + 1000 * SP σ k := by
    have d0 := c1 0 (by decide)
    have d1 := c1 1 (by decide)
    have d2 := c1 2 (by decide)
    have d3 := c1 3 (by decide)
    have d4 := c1 4 (by decide)
    have d5 := c1 5 (by decide)
    unfold CS SP
    omega
  have p14 : ∀ i j, m_l σ' 14 i j = m_l σ 14 i j := fun i j => (F.2 14 i j (by unfold fwh; rw [if_neg (by decide)]; rfl)).2.1
  refine ⟨CI_gen F h ⟨by omega, hn⟩ (fl_of k4 (fun m => (e rfl).1) (fun m => (e rfl).1) (fun m => (e rfl).1) (fun m => (e rfl).2.1) (fun m j _ _ _ _ z => by show (m_l σ' 14 m j).toInt = 0; rw [p14]; exact z)) (tO_fw F k2 rfl) (pO_fw F k3 rfl) (fun j hj => ?_) (by omega) (fun m hm => by rw [(e rfl).2.1]; have := a5 m hm; omega) (fun m b1 hm => by rw [(e rfl).2.1]; have := a6 m b1 hm; omega) (fun m b1 hm => ?_) (e rfl).2.1 rfl, F, hw, ?_⟩
  · rw [SP_fw F rfl]
    have := (k3 j hj).2.2.2.2.1
    have : 0 ≤ 2000 * pv σ j 6 * (n + 1 - n) := by
      have e : n + 1 - n = 1 := by omega
      rw [e]; omega
    omega
  · have x : mi6 σ' m 6 = mi6 σ m 6 := congrArg Int32.toInt (e rfl).1
    rw [x]; have := a9 m b1 hm; omega
  · unfold sm ps
    rw [hc 0 (by decide), hc 1 (by decide), hc 2 (by decide), hc 3 (by decide), hc 4 (by decide), hc 5 (by decide)]
    have r : ∀ i k, k = 3 ∨ k = 4 → m_l σ' 6 i k = m_l σ 6 i k := fun i k hk => by
      rcases hk with rfl | rfl
      · exact (e rfl).2.1
      · exact (e rfl).2.1
    rw [r 0 4 (by omega), r 1 3 (by omega), r 1 4 (by omega), r 2 3 (by omega), r 2 4 (by omega), r 3 3 (by omega), r 3 4 (by omega), r 4 3 (by omega), r 4 4 (by omega), r 5 3 (by omega), r 5 4 (by omega)]
    grind
