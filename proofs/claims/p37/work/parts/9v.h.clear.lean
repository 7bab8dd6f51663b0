/-! the clearing: what is paid, broken, set; a stop, a tie, an order that is cancelled -/
theorem p90 {σ : mS} (hs : HS σ) {m : Nat} (hm : m < 6) {x : Int32} (hx : 0 ≤ x.toInt ∧ x.toInt < 3) {w : Int64} (h : P90 σ m x w) : w = m_l σ 14 m x.toNatClampNeg := by
  have e := mr_p6 hs hm
  have l := HS_ln14 hs hm
  rcases h with ⟨h1, _⟩ | ⟨_, ci, i, h2, h⟩
  · omega
  · rw [e] at h2
    cases h2
    have e3 : (Int32.ofNat (σ.2.1 14 m)).toInt = 3 := by rw [l]; decide
    rcases h with ⟨_, i5, h5, _, h⟩ | ⟨h3, _⟩
    · rw [e] at h5
      cases h5
      exact h
    · omega
/-- an order by its number -/
theorem p3 {σ : mS} {N : Nat} (hn : hN σ N) {x : Int32} {w : mR} (h : P3 σ x w) : (w = none ∧ (x.toInt < 0 ∨ (N : Int) ≤ x.toInt)) ∨ (0 ≤ x.toInt ∧ x.toInt < N ∧ w = some (7, x.toNatClampNeg)) := by
  obtain ⟨n1, n2⟩ := hn
  rcases h with ⟨h1, h⟩ | ⟨h1, ⟨h2, h⟩ | ⟨h2, ⟨_, _, h⟩ | ⟨h3, h⟩⟩⟩
  · exact Or.inl ⟨h, Or.inl h1⟩
  · exact Or.inl ⟨h, Or.inr (by omega)⟩
  · exact Or.inr ⟨by omega, by omega, h⟩
  · exact Or.inl ⟨h, by omega⟩
theorem lo65 {σ σ' : mS} {N c : Nat} {w : Int32} (hs : HS σ) (hn : hN σ N) (ho : hO σ N) (hp : pO σ) (hl : N < 120) (h1 : 0 ≤ (m_i σ 1 c 1).toInt ∧ (m_i σ 1 c 1).toInt < 5) (h2 : 0 ≤ (m_i σ 1 c 2).toInt ∧ (m_i σ 1 c 2).toInt < 3) (h3 : 0 ≤ (m_i σ 1 c 3).toInt ∧ (m_i σ 1 c 3).toInt ≤ 1) (h4 : 1 ≤ (m_i σ 1 c 4).toInt ∧ (m_i σ 1 c 4).toInt ≤ 9999) (h5 : 1 ≤ (m_i σ 1 c 5).toInt ∧ (m_i σ 1 c 5).toInt ≤ 1000) (h0 : nfl σ (m_i σ 1 c 1)) (h : P65 σ (some (1, c)) w σ') :
    w = Int32.ofNat N ∧ hN σ' (N + 1) ∧ hO σ' (N + 1) ∧ RT σ σ' ∧ (∀ o k, o < N → k ≠ 10 → m_i σ' 7 o k = m_i σ 7 o k) ∧ (m_i σ' 7 N 1 = m_i σ 1 c 1 ∧ m_i σ' 7 N 2 = m_i σ 1 c 2 ∧ m_i σ' 7 N 3 = m_i σ 1 c 3 ∧ m_i σ' 7 N 4 = m_i σ 1 c 4) ∧ oi σ' N 6 = (m_i σ 1 c 5).toInt ∧ oi σ' N 9 = 2 := by
  obtain ⟨i1, e1, v3, σ4, F4, p4, h⟩ := h
  cases e1
  have hf : ∀ i, i < 3 → 1 ≤ pv σ i 6 := fun i hi => (hp i hi).2.2.2.2.1
  obtain ⟨a1, a2, a3, a4, ⟨b1, b2, b3, b4, b6, b5, b7, b9, br⟩, a5, a6⟩ := add4 hn ho hl h1 h2 h3 h4 h5 h0 hf p4
  rcases h with ⟨z, _⟩ | ⟨q8, e8, i11, e11, σ14, e14, σ17, e17, σ20, e20, hw, rfl⟩
  · rw [a1] at z; cases z
  rw [a1] at e8
  cases e8; cases e11
  have c' : ∀ o k, m_i σ' 7 o k = if o = N then (if k = 9 then Int32.ofInt 2 else if k = 10 then m_i σ14 2 0 7 else if k = 8 then m_i σ4 1 c 6 else m_i σ4 7 o k) else m_i σ4 7 o k := fun o k => by
    rw [e20, e17, e14]; simp only [mi_si, true_and]; grind
  have F : fw_e (wl [(7, 8), (7, 9), (7, 10)]) σ4 σ' := by
    rw [e20, e17, e14]; exact (fw_e.tr (fw_set rfl) (fw_set rfl)).tr (fw_set rfl)
  have ne : ∀ o k, o ≠ N → m_i σ' 7 o k = m_i σ4 7 o k := fun o k hne => (c' o k).trans (if_neg hne)
  have vN : ∀ k, k ≤ 7 → m_i σ' 7 N k = m_i σ4 7 N k := fun k hk => by rw [c', if_pos rfl, if_neg (by omega), if_neg (by omega), if_neg (by omega)]
  have v9 : oi σ' N 9 = 2 := by show (m_i σ' 7 N 9).toInt = 2; rw [c', if_pos rfl, if_pos rfl]; exact i_2
  have v6 : oi σ' N 6 = (m_i σ 1 c 5).toInt := congrArg Int32.toInt ((vN 6 (by omega)).trans b6)
  have v7 : oi σ' N 7 = 0 := (congrArg Int32.toInt (vN 7 (by omega))).trans b7
  have hs4 := HS_RT hs a6
  have R : RT σ4 σ' := RT.fs (FS_of F (by decide))
  refine ⟨?_, ⟨by rw [(F.2 0 0 1 rfl).1]; exact a2.1, a2.2⟩, fun o hoN => ?_, a6.tr R, fun o k hoN _ => by rw [ne o k (by omega), a4 o k (by omega)], ⟨by rw [vN 1 (by omega)]; exact b1, by rw [vN 2 (by omega)]; exact b2, by rw [vN 3 (by omega)]; exact b3, by rw [vN 4 (by omega)]; exact b4⟩, v6, v9⟩
  · rw [hw, c', if_pos rfl, if_neg (by decide), if_neg (by decide), if_neg (by decide)]
    exact on hs4 (by omega)
  · have g := a3 o hoN
    have f6 : ∀ i, m_i σ' 8 i 6 = m_i σ4 8 i 6 := fun i => (F.2 8 i 6 rfl).1
    have f9 : ∀ i, m_i σ' 6 i 9 = m_i σ4 6 i 9 := fun i => (F.2 6 i 9 rfl).1
    have fr : ∀ o, m_r σ' 7 o 12 = m_r σ4 7 o 12 := fun o => (F.2 7 o 12 rfl).2.2
    have x1 : ∀ t, m_i σ' 7 t 1 = m_i σ4 7 t 1 := fun t => (F.2 7 t 1 rfl).1
    have x2 : ∀ t, m_i σ' 7 t 2 = m_i σ4 7 t 2 := fun t => (F.2 7 t 2 rfl).1
    have x3 : ∀ t, m_i σ' 7 t 3 = m_i σ4 7 t 3 := fun t => (F.2 7 t 3 rfl).1
    have x4 : ∀ t, m_i σ' 7 t 4 = m_i σ4 7 t 4 := fun t => (F.2 7 t 4 rfl).1
    have x5 : ∀ t, m_i σ' 7 t 5 = m_i σ4 7 t 5 := fun t => (F.2 7 t 5 rfl).1
    have x6 : ∀ t, m_i σ' 7 t 6 = m_i σ4 7 t 6 := fun t => (F.2 7 t 6 rfl).1
    have x7 : ∀ t, m_i σ' 7 t 7 = m_i σ4 7 t 7 := fun t => (F.2 7 t 7 rfl).1
    unfold oOK oi pv nfl at g ⊢
    simp only [x1, x2, x3, x4, x5, x6, x7, f6, f9, fr]
    obtain ⟨g1, g2, g3, g4, g5, g6, g7, g8, g9, g10, g11, g12, g13, g14⟩ := g
    by_cases e : o = N
    · subst e
      have w9 : (m_i σ' 7 o 9).toInt = 2 := v9
      have w6 : (m_i σ4 7 o 6).toInt = (m_i σ 1 c 5).toInt := congrArg Int32.toInt b6
      have w7 : (m_i σ4 7 o 7).toInt = 0 := b7
      have w93 : (m_i σ4 7 o 9).toInt = 3 := b9
      exact ⟨g1, g2, g3, g4, g5, g6, g7, by omega, by omega, by omega, by omega, by omega, g13, fun _ => g14 (by omega)⟩
    · rw [ne o 9 e]
      exact ⟨g1, g2, g3, g4, g5, g6, g7, g8, g9, g10, g11, g12, g13, g14⟩
/-- two orders of one member are tied -/
theorem lo70 {σ σ' : mS} {N a b : Nat} {x1 x2 w : Int32} (hn : hN σ N) (ho : hO σ N) (ha : x1.toInt = a) (hb : x2.toInt = b) (ha' : a < N) (hb' : b < N) (hab : a ≠ b) (hm : oi σ a 1 = oi σ b 1) (h : P70 σ x1 x2 w σ') : hO σ' N ∧ RT σ σ' ∧ (∀ o k, m_i σ' 7 o k = m_i σ 7 o k) ∧ m_r σ' 7 a 12 ≠ none ∧ m_r σ' 7 b 12 ≠ none ∧ fw_e (wl [(7, 12)]) σ σ' := by
  obtain ⟨v1, p1, v5, p5, h⟩ := h
  have na : x1.toNatClampNeg = a := by have := i_nat (a := x1) (by omega); omega
  have nb : x2.toNatClampNeg = b := by have := i_nat (a := x2) (by omega); omega
  rcases p3 hn p1 with ⟨_, z⟩ | ⟨_, _, e1⟩
  · omega
  rcases p3 hn p5 with ⟨_, z⟩ | ⟨_, _, e5⟩
  · omega
  rw [e1, e5, na, nb] at h
  rcases h with ⟨z, _⟩ | ⟨q, eq, ⟨z, _⟩ | ⟨q2, eq2, i17, e17, σ20, e20, i22, e22, σ25, e25, _, rfl⟩⟩
  · cases z
  · cases z
  cases eq; cases eq2; cases e17; cases e22
  have F : fw_e (wl [(7, 12)]) σ σ' := by rw [e25, e20]; exact fw_e.tr (fw_set rfl) (fw_set rfl)
  have ci : ∀ o k, m_i σ' 7 o k = m_i σ 7 o k := fun o k => by rw [e25, e20]; rfl
  have cr : ∀ o, m_r σ' 7 o 12 = if o = b then some (7, a) else if o = a then some (7, b) else m_r σ 7 o 12 := fun o => by
    rw [e25, e20]
    show m_r (m_set (m_set σ 7 a 12 (.inr (.inr (some (7, b))))) 7 b 12 (.inr (.inr (some (7, a))))) 7 o 12 = _
    simp only [mr_sr, true_and, and_true]
  have f6 : ∀ i, m_i σ' 8 i 6 = m_i σ 8 i 6 := fun i => (F.2 8 i 6 rfl).1
  have f9 : ∀ i, m_i σ' 6 i 9 = m_i σ 6 i 9 := fun i => (F.2 6 i 9 rfl).1
  refine ⟨fun o hoN => ?_, RT.fs (FS_of F (by decide)), ci, ?_, ?_, F⟩
  · have g := ho o hoN
    unfold oOK oi pv nfl at g ⊢
    simp only [ci, f6, f9]
    obtain ⟨g1, g2, g3, g4, g5, g6, g7, g8, g9, g10, g11, g12, g13, g14⟩ := g
    refine ⟨g1, g2, g3, g4, g5, g6, g7, g8, g9, g10, g11, g12, fun q hq => ?_, g14⟩
    rw [cr] at hq
    by_cases e : o = b
    · subst e
      rw [if_pos rfl] at hq
      cases hq
      exact ⟨a, rfl, ha', hab, hm⟩
    · rw [if_neg e] at hq
      by_cases e2 : o = a
      · subst e2
        rw [if_pos rfl] at hq
        cases hq
        exact ⟨b, rfl, hb', fun z => hab z.symm, hm.symm⟩
      · rw [if_neg e2] at hq
        exact g13 q hq
  · rw [cr, if_neg hab, if_pos rfl]; exact fun z => by cases z
  · rw [cr, if_pos rfl]; exact fun z => by cases z
theorem sO.hO {σ σ' : mS} {N : Nat} (s : sO σ σ') (h : hO σ N) : hO σ' N := hO_s h s
/-- an order is cancelled -/
theorem lo71 {σ σ' : mS} {N a : Nat} {x1 w : Int32} (hn : hN σ N) (ho : hO σ N) (ha : x1.toInt = a) (ha' : a < N) (h : P71 σ x1 w σ') : hO σ' N ∧ kO σ σ' ∧ mO N σ σ' ∧ oi σ' a 9 = 0 ∧ w = m_i σ 7 a 6 ∧ (∀ o, o ≠ a → eO σ σ' o) ∧ fw_e w71 σ σ' ∧ ∃ b : Bool, ∀ m, m_i σ' 6 m 6 = if m = (m_i σ 7 a 1).toNatClampNeg + 1 ∧ b = true then m_i σ 6 m 6 + Int32.ofInt 1 else m_i σ 6 m 6 := by
  obtain ⟨v1, p1, h⟩ := h
  have na : x1.toNatClampNeg = a := by have := i_nat (a := x1) (by omega); omega
  rcases p3 hn p1 with ⟨_, z⟩ | ⟨_, _, e1⟩
  · omega
  rw [e1, na] at h
  rcases h with ⟨z, _⟩ | ⟨q6, e6, i9, e9, v11, p11, h⟩
  · cases z
  cases e6; cases e9
  have g1 := (ho a ha').1
  rw [p22 p11 g1] at h
  have plain : (∃ σ19, fw_e w106 σ σ19 ∧ P106 σ a σ19 ∧ w = m_i σ 7 a 6 ∧ σ' = σ19) → hO σ' N ∧ kO σ σ' ∧ mO N σ σ' ∧ oi σ' a 9 = 0 ∧ w = m_i σ 7 a 6 ∧ (∀ o, o ≠ a → eO σ σ' o) ∧ fw_e w71 σ σ' ∧ ∃ b : Bool, ∀ m, m_i σ' 6 m 6 = if m = (m_i σ 7 a 1).toNatClampNeg + 1 ∧ b = true then m_i σ 6 m 6 + Int32.ofInt 1 else m_i σ 6 m 6 := by
    rintro ⟨σ19, F, p, hw, rfl⟩
    obtain ⟨X, x9, xe⟩ := OX_go ho F p
    exact ⟨X.1, X.2.1, X.2.2.1, x9, hw, xe, wl_mono F (by decide), false, fun m => by rw [if_neg (fun z => by cases z.2)]; exact (F.2 6 m 6 rfl).1⟩
  rcases h with ⟨z, _⟩ | ⟨q16, e16, ⟨_, h⟩ | ⟨_, v28, _, ⟨_, h⟩ | ⟨_, i37, e37, σ40, e40, σ43, F, p, hw, rfl⟩⟩⟩
  · cases z
  · exact plain h
  · exact plain h
  · cases e16; cases e37
    have F40 : fw_e (wl [(6, 6)]) σ σ40 := by rw [e40]; exact fw_set rfl
    have s : sO σ σ40 := sO_of F40 rfl
    obtain ⟨X, x9, xe⟩ := OX_go (hO_s ho s) F p
    refine ⟨X.1, s.kO.tr X.2.1, s.mO.tr X.2.2.1, x9, hw.trans (s.1 a 6 (by omega)), fun o h => (s.e o).tr (xe o h), (wl_mono F40 (by decide)).tr (wl_mono F (by decide)), true, fun m => ?_⟩
    rw [(F.2 6 m 6 rfl).1, e40, mi_si]
    simp only [true_and, and_true]
    by_cases e : m = (m_i σ 7 a 1).toNatClampNeg + 1
    · rw [if_pos e, if_pos e, e]
    · rw [if_neg e, if_neg e]
/-! paid -/
theorem lo29 {σ σ' : mS} {x1 x2 : Int32} {w : Int64} (hx : 0 ≤ x1.toInt ∧ x1.toInt < 5) (h : P29 σ x1 x2 w σ') : σ' = m_set σ 6 (x1.toNatClampNeg + 1) 3 (.inr (.inl (m_l σ 6 (x1.toNatClampNeg + 1) 3 + x2.toInt64))) ∧ w = m_l σ 6 (x1.toNatClampNeg + 1) 3 + x2.toInt64 ∧ sm σ' = sm σ + x2.toInt64 := by
  obtain ⟨v1, p1, h⟩ := h
  rw [p22 p1 hx] at h
  rcases h with ⟨z, _⟩ | ⟨q6, e6, i9, e9, σ12, e12, hw, rfl⟩
  · cases z
  cases e6; cases e9
  have n := i_nat hx.1
  refine ⟨e12, by rw [hw, e12, ml_sl, if_pos ⟨rfl, rfl, rfl⟩], by rw [e12]; exact sm_set (by omega) (Or.inr (Or.inr ⟨rfl, by omega⟩))⟩
/-- a member, or the house -/
def hx (x : Int32) : Nat := if x.toInt = -1 then 0 else x.toNatClampNeg + 1
theorem p23 {σ : mS} {x : Int32} {w : mR} (h : P23 σ x w) (hx' : -1 ≤ x.toInt ∧ x.toInt < 5) : w = some (6, hx x) ∧ hx x < 6 := by
  unfold hx
  rcases h with ⟨h1, v2, p2, e⟩ | ⟨h1, e⟩
  · rw [if_neg h1, e, p22 p2 ⟨by omega, hx'.2⟩]
    have n := i_nat (a := x) (by omega)
    exact ⟨rfl, by omega⟩
  · rw [if_pos (Decidable.of_not_not h1), e]
    exact ⟨rfl, by decide⟩
theorem lo30 {σ σ' : mS} {x1 x2 : Int32} {w : Int64} (h1 : -1 ≤ x1.toInt ∧ x1.toInt < 5) (h : P30 σ x1 x2 w σ') : σ' = m_set σ 6 (hx x1) 4 (.inr (.inl (m_l σ 6 (hx x1) 4 + x2.toInt64))) ∧ w = m_l σ 6 (hx x1) 4 + x2.toInt64 ∧ sm σ' = sm σ + x2.toInt64 := by
  obtain ⟨v1, p1, h⟩ := h
  obtain ⟨e1, e2⟩ := p23 p1 h1
  rw [e1] at h
  rcases h with ⟨z, _⟩ | ⟨q6, e6, i9, e9, σ12, e12, hw, rfl⟩
  · cases z
  cases e6; cases e9
  exact ⟨e12, by rw [hw, e12, ml_sl, if_pos ⟨rfl, rfl, rfl⟩], by rw [e12]; exact sm_set e2 (Or.inr (Or.inl rfl))⟩
/-- a scenario is added -/
theorem lo31 {σ σ' : mS} {x1 x2 x3 w : Int32} {k : Nat} (hk : (m_i σ 2 0 6).toInt = k) (h4 : k < 4) (h : P31 σ x1 x2 x3 w σ') : w.toInt = k + 1 ∧ (m_i σ' 2 0 6).toInt = k + 1 ∧ m_i σ' 13 k 0 = x1 ∧ m_i σ' 13 k 1 = x2 ∧ m_i σ' 13 k 2 = x3 ∧ (∀ i j, i ≠ k → m_i σ' 13 i j = m_i σ 13 i j) ∧ fw_e (wl [(2, 6), (13, 0)]) σ σ' := by
  have en : (m_i σ 2 0 6).toNatClampNeg = k := by have := i_nat (a := m_i σ 2 0 6) (by omega); omega
  have z0 : (Int32.ofInt 0).toNatClampNeg = 0 := by decide
  have z1 : (Int32.ofInt 1).toNatClampNeg = 1 := by decide
  have z2 : (Int32.ofInt 2).toNatClampNeg = 2 := by decide
  rcases h with ⟨z, _⟩ | ⟨_, ⟨_, _, σ5, e5, _, σ8, e8, _, σ11, e11, _, σ14, e14, hw, rfl⟩ | ⟨z, _⟩⟩
  · omega
  · rw [en, z0] at e5
    rw [en, z1] at e8
    rw [en, z2] at e11
    have F : fw_e (wl [(2, 6), (13, 0)]) σ σ' := by
      rw [e14, e11, e8, e5]
      exact ((fw_e.tr (fw_set rfl) (fw_set rfl)).tr (fw_set rfl)).tr (fw_set rfl)
    have c : ∀ i j, m_i σ' 13 i j = if i = k ∧ j = 2 then x3 else if i = k ∧ j = 1 then x2 else if i = k ∧ j = 0 then x1 else m_i σ 13 i j := fun i j => by
      rw [e14, e11, e8, e5]; simp only [mi_si, true_and]; grind
    have c6 : m_i σ' 2 0 6 = m_i σ 2 0 6 + Int32.ofInt 1 := by
      rw [e14, e11, e8, e5]; simp [mi_si]
    have v6 : (m_i σ' 2 0 6).toInt = k + 1 := by rw [c6, i_inc (by omega) (by omega)]; omega
    exact ⟨by rw [hw]; exact v6, v6, by rw [c, if_neg (by omega), if_neg (by omega), if_pos ⟨rfl, rfl⟩], by rw [c, if_neg (by omega), if_pos ⟨rfl, rfl⟩], by rw [c, if_pos ⟨rfl, rfl⟩], fun i j hi => by rw [c, if_neg (fun z => hi z.1), if_neg (fun z => hi z.1), if_neg (fun z => hi z.1)], F⟩
  · omega
/-- a trade is broken -/
theorem p25 {σ : mS} (hT : tO σ) {x : Int32} {w : mR} (h : P25 σ x w) : (w = none ∧ (x.toInt < 0 ∨ (m_i σ 2 0 5).toInt ≤ x.toInt)) ∨ (0 ≤ x.toInt ∧ x.toInt < (m_i σ 2 0 5).toInt ∧ w = some (10, x.toNatClampNeg)) := by
  have t2 := hT.1.2
  rcases h with ⟨h1, h⟩ | ⟨h1, ⟨h2, h⟩ | ⟨h2, ⟨_, _, h⟩ | ⟨h3, h⟩⟩⟩
  · exact Or.inl ⟨h, Or.inl h1⟩
  · exact Or.inl ⟨h, Or.inr (by omega)⟩
  · exact Or.inr ⟨by omega, by omega, h⟩
  · exact Or.inl ⟨h, by omega⟩
theorem lo34 {σ σ' : mS} {t : Nat} {x1 : Int32} (hs : HS σ) (hT : tO σ) (ht : x1.toInt = t) (ht' : (t : Int) < (m_i σ 2 0 5).toInt) (h : P34 σ x1 σ') : sm σ' = sm σ ∧ (∀ j, ps σ' j = ps σ j) ∧ (∀ t' k, k ≤ 8 ∨ t' ≠ t → m_i σ' 10 t' k = m_i σ 10 t' k) ∧ ti σ' t 9 = 1 ∧ fw_e (wl [(6, 2), (10, 9), (14, 0)]) σ σ' ∧ ∀ m j, m ≠ (m_i σ 10 t 3).toNatClampNeg + 1 → m ≠ (m_i σ 10 t 4).toNatClampNeg + 1 → m < 6 → m_l σ' 14 m j = m_l σ 14 m j := by
  have nt : x1.toNatClampNeg = t := by have := i_nat (a := x1) (by omega); omega
  obtain ⟨g0, g1, g2, g3, g4, g5, g6, g7, g9⟩ := hT.2 t ht'
  obtain ⟨v1, p1, h⟩ := h
  rcases p25 hT p1 with ⟨_, z⟩ | ⟨_, _, e1⟩
  · omega
  rw [e1, nt] at h
  rcases h with ⟨z, _⟩ | ⟨q6, e6, i9, e9, h⟩
  · cases z
  cases e6; cases e9
  rcases h with ⟨_, v12, p12, v16, p16, v20, p20, h⟩ | ⟨z, _⟩
  · rw [p24 p12 g0, p22 p16 g3, p22 p20 g4] at h
    rcases h with ⟨z, _⟩ | ⟨q25, e25, ⟨z, _⟩ | ⟨q29, e29, ⟨z, _⟩ | ⟨q33, e33, h⟩⟩⟩
    · cases z
    · cases z
    · cases z
    cases e25; cases e29; cases e33
    obtain ⟨i36, e36, h⟩ := h
    cases e36
    have n0 := i_nat (a := m_i σ 10 t 0) g0.1
    have n3 := i_nat (a := m_i σ 10 t 3) g3.1
    have n4 := i_nat (a := m_i σ 10 t 4) g4.1
    have g0' : (m_i σ 10 t 0).toInt < 3 := g0.2
    have g3' : (m_i σ 10 t 3).toInt < 5 := g3.2
    have g4' : (m_i σ 10 t 4).toInt < 5 := g4.2
    have core : ∀ (Q V : Int64), (∃ i39, (some (6, (m_i σ 10 t 3).toNatClampNeg + 1) : mR) = some (6, i39) ∧ ∃ σ42, fw_e w91 σ σ42 ∧ P91 σ i39 (m_i σ 8 (m_i σ 10 t 0).toNatClampNeg 0) (-Q) (V + m_l σ 10 t 7) σ42 ∧ ∃ i45, (some (6, (m_i σ 10 t 4).toNatClampNeg + 1) : mR) = some (6, i45) ∧ ∃ σ48, fw_e w91 σ42 σ48 ∧ P91 σ42 i45 (m_i σ42 8 (m_i σ 10 t 0).toNatClampNeg 0) Q (-V + m_l σ42 10 t 8) σ48 ∧ ∃ σ52, σ52 = m_set σ48 6 0 2 (.inr (.inl (m_l σ48 6 0 2 - (m_l σ48 10 t 7 + m_l σ48 10 t 8)))) ∧ ∃ σ55, σ55 = m_set σ52 10 t 9 (.inl (Int32.ofInt 1)) ∧ σ' = σ55) → sm σ' = sm σ ∧ (∀ j, ps σ' j = ps σ j) ∧ (∀ t' k, k ≤ 8 ∨ t' ≠ t → m_i σ' 10 t' k = m_i σ 10 t' k) ∧ ti σ' t 9 = 1 ∧ fw_e (wl [(6, 2), (10, 9), (14, 0)]) σ σ' ∧ ∀ m j, m ≠ (m_i σ 10 t 3).toNatClampNeg + 1 → m ≠ (m_i σ 10 t 4).toNatClampNeg + 1 → m < 6 → m_l σ' 14 m j = m_l σ 14 m j := by
      rintro Q V ⟨i39, e39, σ42, F42, p42, i45, e45, σ48, F48, p48, σ52, e52, σ55, e55, rfl⟩
      cases e39; cases e45
      clear h
      have ip : (m_i σ 10 t 0).toNatClampNeg < 3 := by omega
      have num := pn hs ip
      have in3 : (Int32.ofNat (m_i σ 10 t 0).toNatClampNeg).toInt = (m_i σ 10 t 0).toNatClampNeg := i_ofNat (by omega)
      have hs42 := HS_w hs F42 (by decide)
      have num2 := pn hs42 ip
      obtain ⟨a1, a2⟩ := t91_s hs (by omega) (by rw [num, in3]; omega) p42
      obtain ⟨b1, b2⟩ := t91_s hs42 (by omega) (by rw [num2, in3]; omega) p48
      have c1 := t91 hs (by omega) (by rw [num, in3]; omega) p42
      have c2 := t91 hs42 (by omega) (by rw [num2, in3]; omega) p48
      have f7 : m_l σ48 10 t 7 = m_l σ 10 t 7 := ((F48.2 10 t 7 rfl).2.1).trans (F42.2 10 t 7 rfl).2.1
      have f8 : m_l σ48 10 t 8 = m_l σ42 10 t 8 := (F48.2 10 t 8 rfl).2.1
      have s52 : sm σ52 = sm σ48 - (m_l σ48 10 t 7 + m_l σ48 10 t 8) := by
        rw [e52]
        have e : m_l σ48 6 0 2 - (m_l σ48 10 t 7 + m_l σ48 10 t 8) = m_l σ48 6 0 2 + (-(m_l σ48 10 t 7 + m_l σ48 10 t 8)) := by grind
        rw [e, sm_set (by decide) (Or.inl rfl)]
        grind
      have F52 : fw_e (wl [(6, 2)]) σ48 σ52 := by rw [e52]; exact fw_set rfl
      have F55 : fw_e (wl [(10, 9)]) σ52 σ' := by rw [e55]; exact fw_set rfl
      have F : fw_e (wl [(6, 2), (10, 9), (14, 0)]) σ σ' := (((wl_mono F42 (by decide)).tr (wl_mono F48 (by decide))).tr (wl_mono F52 (by decide))).tr (wl_mono F55 (by decide))
      refine ⟨?_, fun j => ?_, fun t' k hk => ?_, ?_, F, fun m j hm1 hm2 hm6 => ?_⟩
      · rw [sm_fw F55 rfl, s52, b1, a1, f7, f8]
        grind
      · rw [ps_fw F55 rfl, ps_fw F52 rfl, b2, a2, num, num2]
        by_cases e : j = (Int32.ofNat (m_i σ 10 t 0).toNatClampNeg).toNatClampNeg
        · rw [if_pos e, if_pos e]; grind
        · rw [if_neg e, if_neg e]
      · have F3 : m_i σ52 10 t' k = m_i σ 10 t' k := by rw [e52, mi_sl, c2, mi_sl, mi_sl, c1, mi_sl, mi_sl]
        rw [e55, mi_si, if_neg (fun z => by omega), F3]
      · show (m_i σ' 10 t 9).toInt = 1
        rw [e55, mi_si, if_pos ⟨rfl, rfl, rfl⟩, i_1]
      · rw [e55, ml_si, e52, ml_sl, if_neg (fun z => by cases z.1), c2, ml_sl, if_neg (fun z => by cases z.1), ml_sl, if_neg (fun z => hm2 z.2.1), c1, ml_sl, if_neg (fun z => by cases z.1), ml_sl, if_neg (fun z => hm1 z.2.1)]
    first
      | exact core _ _ h
      | (obtain ⟨n1, en1, n2, en2, h⟩ := h; exact core n1 n2 h)
      | (obtain ⟨n1, en1, h⟩ := h; exact core n1 _ h)
  · have : (0 : Int) < (m_i σ 10 t 6).toInt := by have : 1 ≤ (m_i σ 10 t 6).toInt := g6; omega
    exact absurd this z
