/-! a member fails; the house sells; time passes -/
theorem ps_2 {σ σ1 σ2 : mS} {v : Int64} {k : Nat} (h1 : ∀ j, ps σ1 j = if j = k then ps σ j + (-v) else ps σ j) (h2 : ∀ j, ps σ2 j = if j = k then ps σ1 j + v else ps σ1 j) : ∀ j, ps σ2 j = ps σ j := by
  intro j
  rw [h2, h1]
  by_cases e : j = k
  · rw [if_pos e, if_pos e]; grind
  · rw [if_neg e, if_neg e]
/-- from one holder to another, at a value -/
theorem mv_2 {σ σ1 σ2 : mS} {a b k : Nat} {x y : Int32} {v u : Int64} (hs : HS σ) (ha : a < 6) (hb : b < 6) (hab : a ≠ b) (hk : k < 3) (hx : x = Int32.ofNat k) (hy : y = Int32.ofNat k) (hv : v = m_l σ 14 a k) (hP : ∀ j, j < 3 → SP σ j ≤ 1000000000) (hC : CS σ ≤ 1000000000000000000) (hu : ia u.toInt ≤ 1000000000000000) (F1 : fw_e w91 σ σ1) (p1 : P91 σ a x (-v) u σ1) (F2 : fw_e w91 σ1 σ2) (p2 : P91 σ1 b y v (-u) σ2) :
    sm σ2 = sm σ ∧ (∀ j, ps σ2 j = ps σ j) ∧ CS σ2 ≤ CS σ + 2 * ia u.toInt ∧ (∀ j, j < 3 → SP σ2 j ≤ SP σ j) ∧ (pI σ2 a k = 0 ∧ m_l σ2 14 b k = m_l σ 14 b k + v) ∧ (∀ i j, j ≠ k ∨ (i ≠ a ∧ i ≠ b) → m_l σ2 14 i j = m_l σ 14 i j) ∧ (∀ i, i ≠ a → i ≠ b → m_l σ2 6 i 2 = m_l σ 6 i 2) ∧ fw_e w91 σ σ2 := by
  have kn : (Int32.ofNat k).toInt = k := i_ofNat (by omega)
  have kc : (Int32.ofNat k).toNatClampNeg = k := by have := i_nat (a := Int32.ofNat k) (by omega); omega
  have PK := hP k hk
  have iv := SP_m (σ := σ) (j := k) ha
  have ib := SP_m (σ := σ) (j := k) hb
  have bv := ia_le (x := pI σ a k) (b := 1000000000) (by omega)
  have vi : v.toInt = pI σ a k := by rw [hv]
  have nv : (-v).toInt = -v.toInt := l_neg (by omega) (by omega)
  have bu := ia_le hu
  have nu : (-u).toInt = -u.toInt := l_neg (by omega) (by omega)
  have inv : ia (-v).toInt = ia (pI σ a k) := by rw [nv, ia_neg, vi]
  have inu : ia (-u).toInt = ia u.toInt := by rw [nu, ia_neg]
  rw [hx] at p1
  rw [hy] at p2
  have c0 := CS_m (σ := σ) ha
  have u0 := ia_0 u.toInt
  obtain ⟨A1, A2, A3, A4⟩ := t91_b hs ha (by omega) (by omega) (by rw [kc, inv]; omega) p1
  obtain ⟨S1, S2⟩ := t91_s hs ha (by omega) p1
  have hs1 := HS_w hs F1 (by decide)
  rw [kc] at A2 A3 S2
  have x1 : m_l σ1 14 a k = m_l σ 14 a k + (-v) := by rw [A3, if_pos ⟨rfl, rfl⟩]
  have x0 : pI σ1 a k = 0 := by
    show (m_l σ1 14 a k).toInt = 0
    rw [x1, l_add (by rw [nv, vi]; show _ ≤ pI σ a k + -pI σ a k; omega) (by rw [nv, vi]; show pI σ a k + -pI σ a k < _; omega), nv, vi]
    show pI σ a k + -pI σ a k = 0
    omega
  have xb : m_l σ1 14 b k = m_l σ 14 b k := by rw [A3, if_neg (fun z => hab z.1.symm)]
  have SP1 : SP σ1 k = SP σ k - ia (pI σ a k) := by
    have e := t91 hs ha (by omega) p1
    rw [kc] at e
    have q : SP σ1 k = SP (m_set σ 14 a k (.inr (.inl (m_l σ 14 a k + -v)))) k := by rw [e]; exact SP_of (fun i => by rw [ml_sl, if_neg (fun z => by cases z.1)])
    rw [q, SP_set ha, if_pos rfl, ← x1]
    have : ia (m_l σ1 14 a k).toInt = 0 := by have y : (m_l σ1 14 a k).toInt = 0 := x0; rw [y]; rfl
    omega
  have CS1 : CS σ1 ≤ CS σ + ia u.toInt := A1
  have c1 := CS_m (σ := σ1) hb
  have ib1 : ia (pI σ1 b k) = ia (pI σ b k) := by show ia (m_l σ1 14 b k).toInt = _; rw [xb]
  have ivv : ia v.toInt = ia (pI σ a k) := by rw [vi]
  obtain ⟨B1, B2, B3, B4⟩ := t91_b hs1 hb (by omega) (by omega) (by rw [kc, ivv, ib1]; omega) p2
  obtain ⟨T1, T2⟩ := t91_s hs1 hb (by omega) p2
  rw [kc] at B2 B3 T2
  refine ⟨by rw [T1, S1]; grind, ps_2 S2 T2, by omega, fun j hj => ?_, ⟨?_, ?_⟩, fun i j h => ?_, fun i h1 h2 => ?_, (wl_mono F1 (by decide)).tr (wl_mono F2 (by decide))⟩
  · have a := A2 j
    have b := B2 j
    by_cases e : j = k
    · rw [e] at b ⊢
      rw [if_pos rfl, ivv] at b
      omega
    · rw [if_neg e] at a b
      omega
  · show (m_l σ2 14 a k).toInt = 0
    rw [B3, if_neg (fun z => hab z.1)]
    exact x0
  · rw [B3, if_pos ⟨rfl, rfl⟩, xb]
  · rw [B3, if_neg (fun z => by omega), A3, if_neg (fun z => by omega)]
  · rw [B4, if_neg h2, A4, if_neg h1]
