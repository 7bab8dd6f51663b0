/-! what steps keep: trades, papers, money, positions -/
def tO (σ : mS) : Prop := (0 ≤ (m_i σ 2 0 5).toInt ∧ (m_i σ 2 0 5).toInt ≤ 200) ∧ ∀ t : Nat, (t : Int) < (m_i σ 2 0 5).toInt → tOK σ t
def pO (σ : mS) : Prop := ∀ i, i < 3 → (0 ≤ pv σ i 1 ∧ pv σ i 1 ≤ 1) ∧ (0 ≤ pv σ i 2 ∧ pv σ i 2 ≤ 9999) ∧ (0 ≤ pv σ i 4 ∧ pv σ i 4 ≤ 50) ∧ (0 ≤ pv σ i 5 ∧ pv σ i 5 ≤ 3) ∧ 1 ≤ pv σ i 6 ∧ (pv σ i 5 = 0 → pv σ i 6 ≤ 1) ∧ (pv σ i 5 = 1 → pv σ i 6 ≤ 5) ∧ (pv σ i 5 = 2 → pv σ i 6 ≤ 25) ∧ pv σ i 6 ≤ 125
/-- old trades stay, new ones are whole; money and positions are the same in all -/
def kT (σ τ : mS) : Prop := (m_i σ 2 0 5).toInt ≤ (m_i τ 2 0 5).toInt ∧ (∀ (t k : Nat), (t : Int) < (m_i σ 2 0 5).toInt → k ≤ 6 ∨ k = 9 → m_i τ 10 t k = m_i σ 10 t k) ∧ (∀ t : Nat, (m_i σ 2 0 5).toInt ≤ t → (t : Int) < (m_i τ 2 0 5).toInt → ti τ t 9 = 0) ∧ sm τ = sm σ ∧ ∀ j, ps τ j = ps σ j
theorem kT.rf {σ : mS} : kT σ σ := ⟨Int.le_refl _, fun _ _ _ _ => rfl, fun t h1 h2 => by omega, rfl, fun _ => rfl⟩
theorem kT.tr {σ σ1 σ2 : mS} (h : kT σ σ1) (g : kT σ1 σ2) : kT σ σ2 := by
  obtain ⟨h1, h2, h3, h4, h5⟩ := h
  obtain ⟨g1, g2, g3, g4, g5⟩ := g
  refine ⟨by omega, fun t k ht hk => (g2 t k (by omega) hk).trans (h2 t k ht hk), fun t a b => ?_, g4.trans h4, fun j => (g5 j).trans (h5 j)⟩
  by_cases c : (t : Int) < (m_i σ1 2 0 5).toInt
  · show (m_i σ2 10 t 9).toInt = 0
    rw [g2 t 9 c (by omega)]
    exact h3 t a c
  · exact g3 t (by omega) b
def LR : List (Nat × Nat) := LF ++ L32
theorem FS_fw {σ σ' : mS} (h : FS σ σ') : fw_e (wl LR) σ σ' := wl_mono h.1 (by decide)
theorem TS_fw {σ σ' : mS} (h : TS σ σ') : fw_e (wl LR) σ σ' := by
  obtain ⟨_, _, _, _, _, _, _, _, _, _, _, _, _, _, F, _⟩ := h
  exact wl_mono F (by decide)
theorem RT_fw {σ σ' : mS} (h : RT σ σ') : fw_e (wl LR) σ σ' := h.ind (I := fun τ => fw_e (wl LR) σ τ) (fun _ _ F g => g.tr (FS_fw F)) (fun _ _ F g => g.tr (TS_fw F)) fw_e.rf'
theorem pO_of {σ σ' : mS} (h : pO σ) (h1 : ∀ i, m_i σ' 8 i 1 = m_i σ 8 i 1 ∨ m_i σ' 8 i 1 = Int32.ofInt 0 ∨ m_i σ' 8 i 1 = Int32.ofInt 1) (h2 : ∀ i, m_i σ' 8 i 2 = m_i σ 8 i 2 ∨ (1 ≤ pv σ' i 2 ∧ pv σ' i 2 ≤ 9999)) (h4 : ∀ i, m_i σ' 8 i 4 = m_i σ 8 i 4) (h5 : ∀ i, m_i σ' 8 i 5 = m_i σ 8 i 5) (h6 : ∀ i, m_i σ' 8 i 6 = m_i σ 8 i 6) : pO σ' := by
  intro i hi
  obtain ⟨a1, a2, a4, a5, a6, a7, a8, a9, a10⟩ := h i hi
  have e4 : pv σ' i 4 = pv σ i 4 := congrArg Int32.toInt (h4 i)
  have e5 : pv σ' i 5 = pv σ i 5 := congrArg Int32.toInt (h5 i)
  have e6 : pv σ' i 6 = pv σ i 6 := congrArg Int32.toInt (h6 i)
  refine ⟨?_, ?_, by omega, by omega, by omega, by omega, by omega, by omega, by omega⟩
  · rcases h1 i with e | e | e
    · have : pv σ' i 1 = pv σ i 1 := congrArg Int32.toInt e
      omega
    · have : pv σ' i 1 = 0 := (congrArg Int32.toInt e).trans i_0
      omega
    · have : pv σ' i 1 = 1 := (congrArg Int32.toInt e).trans i_1
      omega
  · rcases h2 i with e | e
    · have : pv σ' i 2 = pv σ i 2 := congrArg Int32.toInt e
      omega
    · omega
theorem rt_k {σ σ' : mS} (h : RT σ σ') (h1 : tO σ) (h2 : pO σ) : tO σ' ∧ pO σ' ∧ kT σ σ' := by
  refine h.ind (I := fun τ => tO τ ∧ pO τ ∧ kT σ τ) ?_ ?_ ⟨h1, h2, kT.rf⟩
  · rintro τ τ' F ⟨a1, a2, a3⟩
    have eT : m_i τ' 2 0 5 = m_i τ 2 0 5 := (F.1.2 2 0 5 rfl).1
    have e10 : ∀ t k, k ≤ 6 ∨ k = 9 → m_i τ' 10 t k = m_i τ 10 t k := by
      intro t k hk
      have : k = 0 ∨ k = 1 ∨ k = 2 ∨ k = 3 ∨ k = 4 ∨ k = 5 ∨ k = 6 ∨ k = 9 := by omega
      rcases this with rfl | rfl | rfl | rfl | rfl | rfl | rfl | rfl <;> exact (F.1.2 10 t _ rfl).1
    refine ⟨⟨by rw [eT]; exact a1.1, fun t ht => ?_⟩, pO_of a2 F.2 (fun i => Or.inl (F.1.2 8 i 2 rfl).1) (fun i => (F.1.2 8 i 4 rfl).1) (fun i => (F.1.2 8 i 5 rfl).1) (fun i => (F.1.2 8 i 6 rfl).1), a3.tr ⟨by rw [eT]; exact Int.le_refl _, fun t k _ hk => e10 t k hk, fun t b1 b2 => by rw [eT] at b2; omega, sm_fw F.1 rfl, fun j => ps_fw F.1 rfl⟩⟩
    rw [eT] at ht
    exact tOK_of (a1.2 t ht) (fun k hk => e10 t k hk) (fun i => (F.1.2 8 i 6 rfl).1)
  · rintro τ τ' F ⟨a1, a2, a3⟩
    have F' := F
    rcases ts_s F a1.1.1 with e | ⟨c1, c2, c3, ⟨c4, c5⟩, c6, c7, c8, c9⟩
    · rw [e]; exact ⟨a1, a2, a3⟩
    · have tn := i_nat a1.1.1
      obtain ⟨_, _, _, _, _, _, _, _, _, _, _, _, _, _, F, _⟩ := F'
      refine ⟨⟨by rw [c2]; have := a1.1; omega, fun t ht => ?_⟩, pO_of a2 (fun i => Or.inl (F.2 8 i 1 rfl).1) c8 (fun i => (F.2 8 i 4 rfl).1) (fun i => (F.2 8 i 5 rfl).1) c9, a3.tr ⟨by omega, fun t k ht hk => c3 t k (by omega) hk, fun t b1 b2 => ?_, c6, c7⟩⟩
      · by_cases e : t = (m_i τ 2 0 5).toNatClampNeg
        · rw [e]; exact c4
        · exact tOK_of (a1.2 t (by omega)) (fun k hk => c3 t k e hk) c9
      · have : t = (m_i τ 2 0 5).toNatClampNeg := by omega
        rw [this]; exact c5
/-! an order is added -/
theorem add4 {σ σ' : mS} {N : Nat} {x1 x2 x3 x4 x5 : Int32} {w : mR} (hn : hN σ N) (ho : hO σ N) (hl : N < 120) (h1 : 0 ≤ x1.toInt ∧ x1.toInt < 5) (h2 : 0 ≤ x2.toInt ∧ x2.toInt < 3) (h3 : 0 ≤ x3.toInt ∧ x3.toInt ≤ 1) (h4 : 1 ≤ x4.toInt ∧ x4.toInt ≤ 9999) (h5 : 1 ≤ x5.toInt ∧ x5.toInt ≤ 1000) (h0 : nfl σ x1) (hf : ∀ i, i < 3 → 1 ≤ pv σ i 6) (h : P4 σ x1 x2 x3 x4 x5 w σ') : w = some (7, N) ∧ hN σ' (N + 1) ∧ hO σ' (N + 1) ∧ (∀ o k, o ≠ N → m_i σ' 7 o k = m_i σ 7 o k) ∧ (m_i σ' 7 N 1 = x1 ∧ m_i σ' 7 N 2 = x2 ∧ m_i σ' 7 N 3 = x3 ∧ m_i σ' 7 N 4 = x4 ∧ m_i σ' 7 N 6 = x5 ∧ oi σ' N 5 = 0 ∧ oi σ' N 7 = 0 ∧ oi σ' N 9 = 3 ∧ m_r σ' 7 N 12 = none) ∧ (∀ o, o ≠ N → m_r σ' 7 o 12 = m_r σ 7 o 12) ∧ RT σ σ' := by
  obtain ⟨n1, n2⟩ := hn
  rcases h with ⟨z, _⟩ | ⟨_, ⟨_, _, σ5, e5, σ8, e8, σ11, e11, σ14, e14, σ17, e17, σ20, e20, σ23, e23, σ26, e26, σ29, e29, σ32, e32, σ35, e35, σ38, e38, σ41, e41, rfl, rfl⟩ | ⟨z, _⟩⟩
  · omega
  · have en : (m_i σ 0 0 1).toNatClampNeg = N := by have := i_nat (a := m_i σ 0 0 1) (by omega); omega
    have en0 : m_i σ 0 0 1 = m_i σ 0 0 1 := rfl
    rw [en] at e8 e11 e14 e17 e20 e23 e26 e29 e32 e35 e38 e41 ⊢
    have c : ∀ o k, m_i σ' 7 o k = if o = N then (if k = 11 then Int32.ofInt 0 else if k = 10 then Int32.ofInt 0 else if k = 9 then Int32.ofInt 3 else if k = 8 then Int32.ofInt 0 else if k = 7 then Int32.ofInt 0 else if k = 6 then x5 else if k = 5 then Int32.ofInt 0 else if k = 4 then x4 else if k = 3 then x3 else if k = 2 then x2 else if k = 1 then x1 else m_i σ 7 o k) else m_i σ 7 o k := fun o k => by
      rw [e41, e38, e35, e32, e29, e26, e23, e20, e17, e14, e11, e8, e5]
      simp only [mi_si, mi_sr, true_and]
      grind (splits := 40)
    have cr : ∀ o, m_r σ' 7 o 12 = if o = N then none else m_r σ 7 o 12 := fun o => by
      rw [e41, e38, e35, e32, e29, e26, e23, e20, e17, e14, e11, e8, e5]
      simp only [mr_si, mr_sr, true_and, and_true]
    have F : fw_e (wl [(0, 1), (7, 1), (7, 2), (7, 3), (7, 4), (7, 5), (7, 6), (7, 7), (7, 8), (7, 9), (7, 10), (7, 11), (7, 12)]) σ σ' := by
      rw [e41, e38, e35, e32, e29, e26, e23, e20, e17, e14, e11, e8, e5]
      exact (((((((((((fw_e.tr (fw_set rfl) (fw_set rfl)).tr (fw_set rfl)).tr (fw_set rfl)).tr (fw_set rfl)).tr (fw_set rfl)).tr (fw_set rfl)).tr (fw_set rfl)).tr (fw_set rfl)).tr (fw_set rfl)).tr (fw_set rfl)).tr (fw_set rfl)).tr (fw_set rfl)
    have cN : m_i σ' 0 0 1 = m_i σ 0 0 1 + Int32.ofInt 1 := by
      rw [e41, e38, e35, e32, e29, e26, e23, e20, e17, e14, e11, e8, e5]
      simp [mi_si, mi_sr]
    have f6 : ∀ i, m_i σ' 8 i 6 = m_i σ 8 i 6 := fun i => (F.2 8 i 6 rfl).1
    have f9 : ∀ i, m_i σ' 6 i 9 = m_i σ 6 i 9 := fun i => (F.2 6 i 9 rfl).1
    have vN : ∀ k, m_i σ' 7 N k = _ := fun k => (c N k).trans (if_pos rfl)
    have w1 : m_i σ' 7 N 1 = x1 := vN 1
    have w2 : m_i σ' 7 N 2 = x2 := vN 2
    have w3 : m_i σ' 7 N 3 = x3 := vN 3
    have w4 : m_i σ' 7 N 4 = x4 := vN 4
    have w6 : m_i σ' 7 N 6 = x5 := vN 6
    have w5 : oi σ' N 5 = 0 := (congrArg Int32.toInt (vN 5)).trans i_0
    have w7 : oi σ' N 7 = 0 := (congrArg Int32.toInt (vN 7)).trans i_0
    have w9 : oi σ' N 9 = 3 := (congrArg Int32.toInt (vN 9)).trans i_3
    have wr : m_r σ' 7 N 12 = none := (cr N).trans (if_pos rfl)
    have ne : ∀ o k, o ≠ N → m_i σ' 7 o k = m_i σ 7 o k := fun o k hne => (c o k).trans (if_neg hne)
    refine ⟨rfl, ⟨?_, by omega⟩, fun o hoN => ?_, ne, ⟨w1, w2, w3, w4, w6, w5, w7, w9, wr⟩, fun o hne => (cr o).trans (if_neg hne), RT.fs (FS_of F (by decide))⟩
    · rw [cN, i_inc (by omega) (by omega)]; omega
    · by_cases e : o = N
      · subst e
        have pf : ∀ i : Nat, oi σ' o 2 = i → 1 ≤ pv σ' i 6 := fun i hi => by
          show 1 ≤ (m_i σ' 8 i 6).toInt
          rw [f6]
          refine hf i ?_
          have : (m_i σ' 7 o 2).toInt = i := hi
          rw [w2] at this
          omega
        have o1 : oi σ' o 1 = x1.toInt := congrArg Int32.toInt w1
        have o2 : oi σ' o 2 = x2.toInt := congrArg Int32.toInt w2
        have o3 : oi σ' o 3 = x3.toInt := congrArg Int32.toInt w3
        have o4 : oi σ' o 4 = x4.toInt := congrArg Int32.toInt w4
        have o6 : oi σ' o 6 = x5.toInt := congrArg Int32.toInt w6
        unfold oOK
        rw [o1, o2, o3, o4, w5, o6, w7, w9, wr]
        refine ⟨h1, h2, h3, h4, ⟨by omega, fun i hi => ?_⟩, ⟨by omega, fun i hi => ?_⟩, ⟨by omega, by omega⟩, ⟨by omega, by omega⟩, fun z => by omega, fun z => by omega, fun z => by omega, fun z => by omega, ⟨fun q hq => (by cases hq), fun _ => (by rw [w1]; unfold nfl at h0 ⊢; rw [f9]; exact h0)⟩⟩
        · have := pf i (o2.trans hi)
          omega
        · have := pf i (o2.trans hi)
          omega
      · have g := ho o (by omega)
        unfold oOK oi pv nfl at g ⊢
        simp only [ne o _ e, f6, f9, (cr o).trans (if_neg e)]
        obtain ⟨g1, g2, g3, g4, g5, g6, g7, g8, g9, g10, g11, g12, g13, g14⟩ := g
        refine ⟨g1, g2, g3, g4, g5, g6, g7, g8, g9, g10, g11, g12, fun q hq => ?_, g14⟩
        obtain ⟨t, t1, t2, t3, t4⟩ := g13 q hq
        exact ⟨t, t1, by omega, t3, by rw [ne t 1 (by omega)]; exact t4⟩
  · omega
