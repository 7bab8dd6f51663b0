/-! what the clearing keeps -/
abbrev mi6 (σ : mS) (m k : Nat) : Int := (m_i σ 6 m k).toInt
def fl1 (σ : mS) (m : Nat) : Prop := (mi6 σ m 7 = 0 ∨ mi6 σ m 7 = 1) ∧ (mi6 σ m 9 = 0 ∨ mi6 σ m 9 = 1) ∧ (mi6 σ m 10 = 0 ∨ mi6 σ m 10 = 1) ∧ (mi6 σ m 10 = 1 → mi6 σ m 9 = 1) ∧ (mi6 σ m 9 = 1 → mi6 σ m 7 = 0) ∧ (mi6 σ m 9 = 1 → ∀ j, j < 3 → pI σ m j = 0) ∧ (mi6 σ m 10 = 1 → (m_l σ 6 m 3).toInt = 0)
def fl (σ : mS) : Prop := ∀ m, 1 ≤ m → m < 6 → fl1 σ m
def sl (σ : mS) : Prop := (m_r σ 2 0 9 = none ∧ ∀ m, 1 ≤ m → m < 6 → mi6 σ m 9 = 1 → mi6 σ m 10 = 1) ∨ ∃ m, 1 ≤ m ∧ m < 6 ∧ m_r σ 2 0 9 = some (6, m) ∧ mi6 σ m 9 = 1 ∧ mi6 σ m 10 = 0 ∧ ∀ i, 1 ≤ i → i < 6 → i ≠ m → mi6 σ i 9 = 1 → mi6 σ i 10 = 1
def nF (σ : mS) : Int := mi6 σ 1 9 + mi6 σ 2 9 + mi6 σ 3 9 + mi6 σ 4 9 + mi6 σ 5 9
def nSt (σ : mS) : Int := mi6 σ 1 10 + mi6 σ 2 10 + mi6 σ 3 10 + mi6 σ 4 10 + mi6 σ 5 10
abbrev tc (σ : mS) : Int := (m_i σ 2 0 5).toInt
def cc (σ : mS) : Int := ia (m_l σ 8 0 8).toInt + ia (m_l σ 8 1 8).toInt + ia (m_l σ 8 2 8).toInt
theorem cc_0 (σ : mS) : 0 ≤ cc σ := by
  have a := ia_0 (m_l σ 8 0 8).toInt
  have b := ia_0 (m_l σ 8 1 8).toInt
  have c := ia_0 (m_l σ 8 2 8).toInt
  unfold cc
  omega
theorem cc_of {σ σ' : mS} (h : ∀ i, m_l σ' 8 i 8 = m_l σ 8 i 8) : cc σ' = cc σ := by
  unfold cc
  rw [h, h, h]
def NB (n : Int) (σ : mS) : Prop := (∀ j, j < 3 → SP σ j ≤ pv σ j 6 * (2000 * (tc σ + n))) ∧ CS σ ≤ 100000000000000 * n + 3000000000 * tc σ ∧ (∀ i, i < 3 → ia (m_l σ 8 i 8).toInt ≤ 100000000000000 * n) ∧ ia (m_l σ 2 0 10).toInt + cc σ ≤ 100000000000000 * n ∧ (∀ m, m < 6 → 0 ≤ (m_l σ 6 m 4).toInt ∧ (m_l σ 6 m 4).toInt ≤ 1000000 * n) ∧ (∀ m, 1 ≤ m → m < 6 → 0 ≤ (m_l σ 6 m 3).toInt ∧ (m_l σ 6 m 3).toInt ≤ 1000000 * n) ∧ (0 ≤ (m_l σ 6 0 3).toInt ∧ (m_l σ 6 0 3).toInt ≤ 70000000000000000 * nSt σ) ∧ (∀ t : Nat, (t : Int) < tc σ → fB σ t) ∧ ∀ m, 1 ≤ m → m < 6 → 0 ≤ mi6 σ m 6 ∧ mi6 σ m 6 ≤ n
def CI (n : Int) (σ : mS) : Prop := (1 ≤ n ∧ n ≤ 300) ∧ tO σ ∧ pO σ ∧ fl σ ∧ sl σ ∧ (m_i σ 2 0 8).toInt = nF σ ∧ NB n σ
theorem NB_sp {n : Int} {σ : mS} (h : CI n σ) {j : Nat} (hj : j < 3) : SP σ j ≤ 130000000 := by
  obtain ⟨h1, h2, h3, _, _, _, h4, _⟩ := h
  have a := h4 j hj
  have b := (h3 j hj).2.2.2.2
  have t := h2.1
  have : pv σ j 6 * (2000 * (tc σ + n)) ≤ 125 * (2000 * (tc σ + n)) := Int.mul_le_mul_of_nonneg_right (by omega) (by have : tc σ = (m_i σ 2 0 5).toInt := rfl; omega)
  have : tc σ = (m_i σ 2 0 5).toInt := rfl
  omega
theorem NB_cs {n : Int} {σ : mS} (h : CI n σ) : CS σ ≤ 40000000000000000 := by
  obtain ⟨h1, h2, _, _, _, _, _, h5, _⟩ := h
  have t := h2.1
  have : tc σ = (m_i σ 2 0 5).toInt := rfl
  omega
theorem nSt_of {σ σ' : mS} (h : ∀ m, m_i σ' 6 m 10 = m_i σ 6 m 10) : nSt σ' = nSt σ := by
  unfold nSt mi6
  rw [h, h, h, h, h]
theorem nSt_b {σ : mS} (h : fl σ) : 0 ≤ nSt σ ∧ nSt σ ≤ 5 := by
  have a1 := (h 1 (by decide) (by decide)).2.2.1
  have a2 := (h 2 (by decide) (by decide)).2.2.1
  have a3 := (h 3 (by decide) (by decide)).2.2.1
  have a4 := (h 4 (by decide) (by decide)).2.2.1
  have a5 := (h 5 (by decide) (by decide)).2.2.1
  unfold nSt
  omega
/-- members' marks where they are as they were -/
theorem fl_of {σ σ' : mS} (h : fl σ) (h7 : ∀ m, m_i σ' 6 m 7 = m_i σ 6 m 7) (h9 : ∀ m, m_i σ' 6 m 9 = m_i σ 6 m 9) (h10 : ∀ m, m_i σ' 6 m 10 = m_i σ 6 m 10) (h3 : ∀ m, m_l σ' 6 m 3 = m_l σ 6 m 3) (hp : ∀ m j, 1 ≤ m → m < 6 → j < 3 → mi6 σ m 9 = 1 → pI σ m j = 0 → pI σ' m j = 0) : fl σ' := by
  intro m a b
  obtain ⟨f1, f2, f3, f4, f5, f6, f7⟩ := h m a b
  unfold fl1 mi6
  rw [h7, h9, h10, h3]
  exact ⟨f1, f2, f3, f4, f5, fun z j hj => hp m j a b hj z (f6 z j hj), f7⟩
theorem sl_of {σ σ' : mS} (h : sl σ) (h9 : ∀ m, m_i σ' 6 m 9 = m_i σ 6 m 9) (h10 : ∀ m, m_i σ' 6 m 10 = m_i σ 6 m 10) (hr : m_r σ' 2 0 9 = m_r σ 2 0 9) : sl σ' := by
  unfold sl mi6 at h ⊢
  simp only [h9, h10, hr]
  exact h
theorem nF_of {σ σ' : mS} (h9 : ∀ m, m_i σ' 6 m 9 = m_i σ 6 m 9) : nF σ' = nF σ := by
  unfold nF mi6
  rw [h9, h9, h9, h9, h9]
theorem FS_ci {n : Int} {σ σ' : mS} (F : FS σ σ') (h : CI n σ) : CI n σ' := by
  have h' := h
  obtain ⟨h1, h2, h3, h4, h5, h6, a1, a2, a3, a4, a5, a6, a7, a8, a9⟩ := h'
  obtain ⟨k1, k2, _⟩ := rt_k (RT.fs F) h2 h3
  have G := F.1
  have e : ∀ {c i k : Nat}, fwh (wl LF) c k = true → m_i σ' c i k = m_i σ c i k ∧ m_l σ' c i k = m_l σ c i k ∧ m_r σ' c i k = m_r σ c i k := fun h => G.2 _ _ _ h
  have p14 : ∀ i j, m_l σ' 14 i j = m_l σ 14 i j := fun i j => (G.2 14 i j (by unfold fwh; rw [if_neg (by decide)]; rfl)).2.1
  have eT : m_i σ' 2 0 5 = m_i σ 2 0 5 := (e rfl).1
  have e6 : ∀ i, m_i σ' 8 i 6 = m_i σ 8 i 6 := fun i => (e rfl).1
  refine ⟨h1, k1, k2, fl_of h4 (fun m => (e rfl).1) (fun m => (e rfl).1) (fun m => (e rfl).1) (fun m => (e rfl).2.1) (fun m j _ _ _ _ z => by show (m_l σ' 14 m j).toInt = 0; rw [p14]; exact z), sl_of h5 (fun m => (e rfl).1) (fun m => (e rfl).1) (e rfl).2.2, by rw [(e rfl).1, nF_of (fun m => (e rfl).1)]; exact h6, fun j hj => ?_, ?_, fun i hi => by rw [(e rfl).2.1]; exact a3 i hi, by rw [cc_of (fun i => (e rfl).2.1), (e rfl).2.1]; exact a4, fun m hm => by rw [(e rfl).2.1]; exact a5 m hm, fun m h1 hm => by rw [(e rfl).2.1]; exact a6 m h1 hm, by rw [(e rfl).2.1, nSt_of (fun m => (e rfl).1)]; exact a7, fun t ht => ?_, fun m b1 b2 => by show 0 ≤ (m_i σ' 6 m 6).toInt ∧ (m_i σ' 6 m 6).toInt ≤ n; rw [(e rfl).1]; exact a9 m b1 b2⟩
  · unfold pv tc
    rw [SP_of (fun i => p14 i j), e6, eT]
    exact a1 j hj
  · unfold tc
    rw [CS_of (fun i => (e rfl).2.1), eT]
    exact a2
  · unfold tc at ht
    rw [eT] at ht
    unfold fB
    rw [(e rfl).2.1, (e rfl).2.1]
    exact a8 t ht
theorem TS_ci {n : Int} {σ σ' : mS} (F : TS σ σ') (h : CI n σ) : CI n σ' := by
  have h' := h
  obtain ⟨h1, h2, h3, h4, h5, h6, a1, a2, a3, a4, a5, a6, a7, a8, a9⟩ := h'
  have sp := fun {j} (hj : j < 3) => NB_sp h hj
  have cs := NB_cs h
  obtain ⟨k1, k2, _⟩ := rt_k (RT.ts F) h2 h3
  rcases ts_b F h2.1.1 (fun i hi => ⟨(h3 i hi).2.2.2.2.1, (h3 i hi).2.2.2.2.2.2.2.2⟩) (by omega) (fun j hj => by have := sp hj; omega) with e | ⟨b1, b2, b3, b4, b5⟩
  · rw [e]; exact h
  rcases ts_s F h2.1.1 with e | ⟨_, c2, _, _, _, _, _, c9⟩
  · rw [e]; exact h
  obtain ⟨_, _, _, _, _, _, _, _, _, _, _, _, _, _, G, _⟩ := F
  have e : ∀ {c i k : Nat}, fwh w32 c k = true → m_i σ' c i k = m_i σ c i k ∧ m_l σ' c i k = m_l σ c i k ∧ m_r σ' c i k = m_r σ c i k := fun h => G.2 _ _ _ h
  have tn := i_nat h2.1.1
  refine ⟨h1, k1, k2, fl_of h4 (fun m => (e rfl).1) (fun m => (e rfl).1) (fun m => (e rfl).1) (fun m => (e rfl).2.1) (fun m j z1 z2 z3 z4 z => ?_), sl_of h5 (fun m => (e rfl).1) (fun m => (e rfl).1) (e rfl).2.2, by rw [(e rfl).1, nF_of (fun m => (e rfl).1)]; exact h6, fun j hj => ?_, ?_, fun i hi => by rw [(e rfl).2.1]; exact a3 i hi, by rw [cc_of (fun i => (e rfl).2.1), (e rfl).2.1]; exact a4, fun m hm => by rw [(e rfl).2.1]; exact a5 m hm, fun m h1 hm => by rw [(e rfl).2.1]; exact a6 m h1 hm, by rw [(e rfl).2.1, nSt_of (fun m => (e rfl).1)]; exact a7, fun t ht => ?_, fun m b1 b2 => by show 0 ≤ (m_i σ' 6 m 6).toInt ∧ (m_i σ' 6 m 6).toInt ≤ n; rw [(e rfl).1]; exact a9 m b1 b2⟩
  · show (m_l σ' 14 m j).toInt = 0
    rw [b3 m j z3 z2 (by omega) (by have : (m_i σ 6 m 9).toInt = 1 := z4; omega)]
    exact z
  · have x1 := a1 j hj
    have x2 := b2 j hj
    have x3 : pv σ' j 6 = pv σ j 6 := congrArg Int32.toInt (c9 j)
    have x4 : tc σ' = tc σ + 1 := c2
    rw [x3, x4]
    have x5 : pv σ j 6 * (2000 * (tc σ + 1 + n)) = pv σ j 6 * (2000 * (tc σ + n)) + 2000 * pv σ j 6 := by grind
    omega
  · have x4 : tc σ' = tc σ + 1 := c2
    omega
  · have x4 : tc σ' = tc σ + 1 := c2
    by_cases y : t = (m_i σ 2 0 5).toNatClampNeg
    · rw [y]; exact b4
    · have := a8 t (by have : tc σ = (m_i σ 2 0 5).toInt := rfl; omega)
      unfold fB at this ⊢
      rw [b5 t 7 y, b5 t 8 y]
      exact this
theorem rt_ci {n : Int} {σ σ' : mS} (R : RT σ σ') (h : CI n σ) : CI n σ' := R.ind (fun _ _ F g => FS_ci F g) (fun _ _ F g => TS_ci F g) h
/-- a budget that grows -/
theorem CI.up {n m : Int} {σ : mS} (h : CI n σ) (hm : n ≤ m) (h64 : m ≤ 300) : CI m σ := by
  obtain ⟨h1, h2, h3, h4, h5, h6, a1, a2, a3, a4, a5, a6, a7, a8, a9⟩ := h
  refine ⟨⟨by omega, h64⟩, h2, h3, h4, h5, h6, fun j hj => ?_, by omega, fun i hi => by have := a3 i hi; omega, by omega, fun m hm => by have := a5 m hm; omega, fun m b1 hm => by have := a6 m b1 hm; omega, by omega, a8, fun m b1 b2 => by have := a9 m b1 b2; omega⟩
  refine Int.le_trans (a1 j hj) (Int.mul_le_mul_of_nonneg_left (by omega) ?_)
  have := (h3 j hj).2.2.2.2.1
  omega
theorem CI_sm {n : Int} {σ : mS} (h : CI n σ) : smB (1000000 * n) σ := by
  have cs := NB_cs h
  obtain ⟨h1, h2, h3, h4, h5, h6, a1, a2, a3, a4, a5, a6, a7, a8, a9⟩ := h
  refine ⟨⟨by omega, fun m hm => by have := a5 m hm; omega⟩, fun m b1 hm => by have := a6 m b1 hm; omega, fun m hm => ?_, ?_, by omega, ?_⟩
  · have := ia_le (CS_m (σ := σ) hm)
    show -100000000000000000 ≤ cI σ m ∧ cI σ m ≤ 100000000000000000
    omega
  · have := cc_0 σ
    have := ia_le (x := (m_l σ 2 0 10).toInt) (b := 100000000000000 * n) (by omega)
    omega
  · have := nSt_b h4
    omega
