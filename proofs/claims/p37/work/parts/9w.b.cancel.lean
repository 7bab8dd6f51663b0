/-! an order is cancelled -/
theorem k5 {n : Int} {N c a : Nat} {σ σ' : mS} {w : Int64} (h : HI n N σ) (hn0 : n + 11 ≤ 300) (hk : (m_i σ 1 c 0).toInt = 5) (ha : (m_i σ 1 c 1).toInt = a) (ha' : a < N) (p : P61 σ (some (1, c)) w σ') : HI (n + 1) N σ' ∧ fw_e (wl ((8, 7) :: L71)) σ σ' ∧ mO N σ σ' ∧ oi σ' a 9 = 0 ∧ w.toInt = oi σ a 6 ∧ (∀ o, o ≠ a → eO σ σ' o) ∧ ∃ b : Bool, ∀ m, m_i σ' 6 m 6 = if m = (m_i σ 7 a 1).toNatClampNeg + 1 ∧ b = true then m_i σ 6 m 6 + Int32.ofInt 1 else m_i σ 6 m 6 := by
  obtain ⟨τ, A, q⟩ := d61 p
  have bb := h.sp
  obtain ⟨v, p71, hw⟩ := A.2.2.2.2.2.1 hk
  obtain ⟨hs, hn, ho, C, hm, hsc⟩ := h
  obtain ⟨e1, K, M, e4, e5, e6, F, b, e7⟩ := lo71 hn ho ha ha' p71
  have C0 := C
  obtain ⟨nn, k2, k3, k4, k5, k6, a1, a2, a3, a4, a5, a6, a7, a8, a9⟩ := C0
  have ee : ∀ {c i k : Nat}, fwh w71 c k = true → m_i τ c i k = m_i σ c i k ∧ m_l τ c i k = m_l σ c i k ∧ m_r τ c i k = m_r σ c i k := fun h => F.2 _ _ _ h
  have nFe : nF τ = nF σ := nF_of (fun m => (ee rfl).1)
  have p14 : ∀ i j, m_l τ 14 i j = m_l σ 14 i j := fun i j => (F.2 14 i j (by unfold fwh; rw [if_neg (by decide)]; rfl)).2.1
  have c6 : ∀ m, 1 ≤ m → m < 6 → 0 ≤ mi6 τ m 6 ∧ mi6 τ m 6 ≤ n + 1 + 2 * nF σ := fun m b1 hm' => by
    have y := a9 m b1 hm'
    have y' : 0 ≤ (m_i σ 6 m 6).toInt ∧ (m_i σ 6 m 6).toInt ≤ n + 2 * nF σ := y
    show 0 ≤ (m_i τ 6 m 6).toInt ∧ (m_i τ 6 m 6).toInt ≤ n + 1 + 2 * nF σ
    rw [e7]
    by_cases z : m = (m_i σ 7 a 1).toNatClampNeg + 1 ∧ b = true
    · rw [if_pos z, i_inc y'.1 (by omega)]; omega
    · rw [if_neg z]; omega
  have CI' : CI (n + 1 + 2 * nF τ) τ := by
    rw [nFe]
    refine CI_gen F C ⟨by omega, by omega⟩ (fl_of k4 (fun m => (ee rfl).1) (fun m => (ee rfl).1) (fun m => (ee rfl).1) (fun m => (ee rfl).2.1) (fun m j _ _ _ _ z => by show (m_l τ 14 m j).toInt = 0; rw [p14]; exact z)) (tO_fw F k2 rfl) (pO_fw F k3 rfl) (fun j hj => ?_) ?_ (fun m hm' => by rw [(ee rfl).2.1]; have := a5 m hm'; omega) (fun m m1 hm' => by rw [(ee rfl).2.1]; have := a6 m m1 hm'; omega) c6 (ee rfl).2.1 rfl
    · rw [SP_fw F rfl]
      have := (k3 j hj).2.2.2.2.1
      have e : n + 1 + 2 * nF σ - (n + 2 * nF σ) = 1 := by omega
      rw [e]; omega
    · rw [CS_fw F rfl]; omega
  obtain ⟨H, X, G⟩ := bh (n := n + 1) (HS_w hs F (by decide)) (K.hN hn) e1 CI' (by rw [(ee rfl).1]; exact hsc) q
  have G := G (fun i hi => by
    show (m_i τ 8 i 7).toInt = 0
    rw [(ee rfl).1]; exact hm i hi)
  have g7 : ∀ o k, m_i σ' 7 o k = m_i τ 7 o k := fun o k => by
    have : fwh (wl [(8, 7)]) 7 k = true := by unfold fwh; rfl
    exact (G.2 7 o k this).1
  exact ⟨H, (wl_mono F (by decide)).tr (wl_mono G (by decide)), M.tr X.2.2.1, (congrArg Int32.toInt (g7 a 9)).trans e4, by rw [hw, i64, e5], fun o hoN => (e6 o hoN).tr ⟨g7 o 6, g7 o 7, g7 o 9⟩, b, fun m => ((G.2 6 m 6 rfl).1).trans (e7 m)⟩
