/-! orders: what holds of them, what may become of them -/
abbrev oi (σ : mS) (o k : Nat) : Int := (m_i σ 7 o k).toInt
abbrev pv (σ : mS) (i k : Nat) : Int := (m_i σ 8 i k).toInt
theorem jmin_c (x y : Int32) : ((jmin x y).toInt = y.toInt ∧ y.toInt ≤ x.toInt) ∨ ((jmin x y).toInt = x.toInt ∧ x.toInt ≤ y.toInt) := i_min rfl
theorem jmax_c (x y : Int32) : ((jmax x y).toInt = y.toInt ∧ x.toInt ≤ y.toInt) ∨ ((jmax x y).toInt = x.toInt ∧ y.toInt ≤ x.toInt) := i_max rfl
theorem i_0 : (Int32.ofInt 0).toInt = 0 := by decide
theorem i_1 : (Int32.ofInt 1).toInt = 1 := by decide
theorem i_2 : (Int32.ofInt 2).toInt = 2 := by decide
theorem i_3 : (Int32.ofInt 3).toInt = 3 := by decide
/-- a member that has not failed -/
def nfl (σ : mS) (x : Int32) : Prop := (m_i σ 6 (x.toNatClampNeg + 1) 9).toInt = 0
/-- an order as it may stand, wait, come, or be gone -/
def oOK (σ : mS) (N o : Nat) : Prop := (0 ≤ oi σ o 1 ∧ oi σ o 1 < 5) ∧ (0 ≤ oi σ o 2 ∧ oi σ o 2 < 3) ∧ (0 ≤ oi σ o 3 ∧ oi σ o 3 ≤ 1) ∧ (1 ≤ oi σ o 4 ∧ oi σ o 4 ≤ 9999) ∧ (0 ≤ oi σ o 5 ∧ ∀ i : Nat, oi σ o 2 = i → oi σ o 5 ≤ 1000 * pv σ i 6) ∧ (0 ≤ oi σ o 6 ∧ ∀ i : Nat, oi σ o 2 = i → oi σ o 6 ≤ 1000 * pv σ i 6) ∧ (0 ≤ oi σ o 7 ∧ oi σ o 7 ≤ oi σ o 6) ∧ (0 ≤ oi σ o 9 ∧ oi σ o 9 ≤ 3) ∧ (oi σ o 9 = 0 → oi σ o 6 = 0) ∧ (oi σ o 9 = 1 → 0 < oi σ o 7) ∧ (oi σ o 9 = 2 → 0 < oi σ o 6) ∧ (2 ≤ oi σ o 9 → oi σ o 7 = 0) ∧ (∀ q, m_r σ 7 o 12 = some q → ∃ t, q = (7, t) ∧ t < N ∧ t ≠ o ∧ oi σ t 1 = oi σ o 1) ∧ (oi σ o 9 ≠ 0 → nfl σ (m_i σ 7 o 1))
def hN (σ : mS) (N : Nat) : Prop := (m_i σ 0 0 1).toInt = N ∧ N ≤ 120
def hO (σ : mS) (N : Nat) : Prop := ∀ o, o < N → oOK σ N o
/-- what is the same of orders -/
def sO (σ σ' : mS) : Prop := (∀ o k, k < 12 → m_i σ' 7 o k = m_i σ 7 o k) ∧ (∀ o, m_r σ' 7 o 12 = m_r σ 7 o 12) ∧ (∀ i, m_i σ' 8 i 6 = m_i σ 8 i 6) ∧ m_i σ' 0 0 1 = m_i σ 0 0 1 ∧ ∀ i, m_i σ' 6 i 9 = m_i σ 6 i 9
theorem sO.rf {σ : mS} : sO σ σ := ⟨fun _ _ _ => rfl, fun _ => rfl, fun _ => rfl, rfl, fun _ => rfl⟩
theorem sO_of {w : Nat → Nat → Bool} {σ σ' : mS} (F : fw_e w σ σ') (h : ((List.range 13).all (fun k => fwh w 7 k) && (fwh w 8 6 && (fwh w 0 1 && fwh w 6 9))) = true) : sO σ σ' := by
  rw [Bool.and_eq_true, Bool.and_eq_true, Bool.and_eq_true] at h
  obtain ⟨h1, h2, h3, h4⟩ := h
  have h1 := List.all_eq_true.mp h1
  exact ⟨fun o k hk => (F.2 7 o k (h1 k (List.mem_range.mpr (by omega)))).1, fun o => (F.2 7 o 12 (h1 12 (List.mem_range.mpr (by omega)))).2.2, fun i => (F.2 8 i 6 h2).1, (F.2 0 0 1 h3).1, fun i => (F.2 6 i 9 h4).1⟩
theorem sO.hN {σ σ' : mS} {N : Nat} (h : sO σ σ') (g : hN σ N) : hN σ' N := ⟨by rw [h.2.2.2.1]; exact g.1, g.2⟩
theorem sO.oi {σ σ' : mS} (h : sO σ σ') {o k : Nat} (hk : k < 12) : oi σ' o k = oi σ o k := by
  show (m_i σ' 7 o k).toInt = _
  rw [h.1 o k hk]
/-- what orders keep: who, of what, at which price; the sizes; the paper's factor; how many there are -/
def kO (σ σ' : mS) : Prop := (∀ o k, k = 1 ∨ k = 2 ∨ k = 3 ∨ k = 4 ∨ k = 5 ∨ k = 8 → m_i σ' 7 o k = m_i σ 7 o k) ∧ (∀ i, m_i σ' 8 i 6 = m_i σ 8 i 6) ∧ m_i σ' 0 0 1 = m_i σ 0 0 1 ∧ ∀ i, m_i σ' 6 i 9 = m_i σ 6 i 9
theorem kO.rf {σ : mS} : kO σ σ := ⟨fun _ _ _ => rfl, fun _ => rfl, rfl, fun _ => rfl⟩
theorem kO.tr {σ σ1 σ2 : mS} (h : kO σ σ1) (g : kO σ1 σ2) : kO σ σ2 := ⟨fun o k hk => (g.1 o k hk).trans (h.1 o k hk), fun i => (g.2.1 i).trans (h.2.1 i), g.2.2.1.trans h.2.2.1, fun i => (g.2.2.2 i).trans (h.2.2.2 i)⟩
theorem kO_of {w : Nat → Nat → Bool} {σ σ' : mS} (F : fw_e w σ σ') (h : (fwh w 7 1 && (fwh w 7 2 && (fwh w 7 3 && (fwh w 7 4 && (fwh w 7 5 && (fwh w 7 8 && (fwh w 8 6 && (fwh w 0 1 && fwh w 6 9)))))))) = true) : kO σ σ' := by
  simp only [Bool.and_eq_true] at h
  obtain ⟨h1, h2, h3, h4, h5, h6, h7, h8, h9⟩ := h
  refine ⟨fun o k hk => ?_, fun i => (F.2 8 i 6 h7).1, (F.2 0 0 1 h8).1, fun i => (F.2 6 i 9 h9).1⟩
  rcases hk with rfl | rfl | rfl | rfl | rfl | rfl
  · exact (F.2 7 o _ h1).1
  · exact (F.2 7 o _ h2).1
  · exact (F.2 7 o _ h3).1
  · exact (F.2 7 o _ h4).1
  · exact (F.2 7 o _ h5).1
  · exact (F.2 7 o _ h6).1
theorem kO.oi {σ σ' : mS} (h : kO σ σ') (o : Nat) {k : Nat} (hk : k = 1 ∨ k = 2 ∨ k = 3 ∨ k = 4 ∨ k = 5 ∨ k = 8) : oi σ' o k = oi σ o k := by
  show (m_i σ' 7 o k).toInt = _
  rw [h.1 o k hk]
theorem kO.pv {σ σ' : mS} (h : kO σ σ') (i : Nat) : pv σ' i 6 = pv σ i 6 := by
  show (m_i σ' 8 i 6).toInt = _
  rw [h.2.1 i]
theorem kO.hN {σ σ' : mS} {N : Nat} (h : kO σ σ') (g : hN σ N) : hN σ' N := ⟨by rw [h.2.2.1]; exact g.1, g.2⟩
theorem kO.nf {σ σ' : mS} (h : kO σ σ') {x : Int32} (g : nfl σ x) : nfl σ' x := by
  unfold nfl at g ⊢
  rw [h.2.2.2]
  exact g
theorem sO.kO {σ σ' : mS} (h : sO σ σ') : kO σ σ' := ⟨fun o k hk => h.1 o k (by omega), h.2.2.1, h.2.2.2.1, h.2.2.2.2⟩
/-- an order is still one, where what moves of it moves so -/
theorem oOK_of {σ σ' : mS} {N o : Nat} (h : oOK σ N o) (K : kO σ σ') (h6 : 0 ≤ oi σ' o 6 ∧ oi σ' o 6 ≤ oi σ o 6) (h7 : 0 ≤ oi σ' o 7 ∧ oi σ' o 7 ≤ oi σ' o 6) (h9 : 0 ≤ oi σ' o 9 ∧ oi σ' o 9 ≤ 3) (a : oi σ' o 9 = 0 → oi σ' o 6 = 0) (b : oi σ' o 9 = 1 → 0 < oi σ' o 7) (c : oi σ' o 9 = 2 → 0 < oi σ' o 6) (c' : 2 ≤ oi σ' o 9 → oi σ' o 7 = 0) (d : m_r σ' 7 o 12 = m_r σ 7 o 12 ∨ m_r σ' 7 o 12 = none) (e0 : oi σ' o 9 ≠ 0 → oi σ o 9 ≠ 0) : oOK σ' N o := by
  obtain ⟨g1, g2, g3, g4, g5, g6, _, _, _, _, _, _, gt, gf⟩ := h
  have e1 := K.oi o (k := 1) (by omega)
  have e2 := K.oi o (k := 2) (by omega)
  have e3 := K.oi o (k := 3) (by omega)
  have e4 := K.oi o (k := 4) (by omega)
  have e5 := K.oi o (k := 5) (by omega)
  refine ⟨by rw [e1]; exact g1, by rw [e2]; exact g2, by rw [e3]; exact g3, by rw [e4]; exact g4, ⟨by rw [e5]; exact g5.1, fun i hi => ?_⟩, ⟨h6.1, fun i hi => ?_⟩, h7, h9, a, b, c, c', fun q hq => ?_, fun z => ?_⟩
  · rw [e5, K.pv]
    exact g5.2 i (by rw [← e2]; exact hi)
  · rw [K.pv]
    exact Int.le_trans h6.2 (g6.2 i (by rw [← e2]; exact hi))
  · rcases d with d | d
    · rw [d] at hq
      obtain ⟨t, t1, t2, t3, t4⟩ := gt q hq
      exact ⟨t, t1, t2, t3, by rw [e1, K.oi t (k := 1) (by omega)]; exact t4⟩
    · rw [d] at hq
      cases hq
  · rw [K.1 o 1 (by omega)]
    exact K.nf (gf (e0 z))
theorem hO_s {σ σ' : mS} {N : Nat} (h : hO σ N) (s : sO σ σ') : hO σ' N := by
  intro o ho
  have g := h o ho
  have g' := g
  obtain ⟨g1, g2, g3, g4, g5, g6, g7, g9, ga, gb, gc, gd, gt, _⟩ := g'
  have e6 := s.oi (o := o) (k := 6) (by omega)
  have e7 := s.oi (o := o) (k := 7) (by omega)
  have e9 := s.oi (o := o) (k := 9) (by omega)
  exact oOK_of g s.kO (by rw [e6]; exact ⟨g6.1, Int.le_refl _⟩) (by rw [e7, e6]; exact g7) (by rw [e9]; exact g9) (by rw [e9, e6]; exact ga) (by rw [e9, e7]; exact gb) (by rw [e9, e6]; exact gc) (by rw [e9, e7]; exact gd) (Or.inl (s.2.1 o)) (by rw [e9]; exact id)
/-- how orders may move on: they trade, come to stand, go -/
def mO (N : Nat) (σ σ' : mS) : Prop := ∀ o, o < N → oi σ' o 6 ≤ oi σ o 6 ∧ (oi σ' o 9 = oi σ o 9 ∨ oi σ' o 9 = 0 ∨ (2 ≤ oi σ o 9 ∧ oi σ' o 9 = 1))
theorem mO.rf {N : Nat} {σ : mS} : mO N σ σ := fun _ _ => ⟨Int.le_refl _, Or.inl rfl⟩
theorem mO.tr {N : Nat} {σ σ1 σ2 : mS} (h : mO N σ σ1) (g : mO N σ1 σ2) : mO N σ σ2 := fun o ho => by
  have a := h o ho
  have b := g o ho
  refine ⟨Int.le_trans b.1 a.1, ?_⟩
  omega
theorem sO.mO {N : Nat} {σ σ' : mS} (h : sO σ σ') : mO N σ σ' := fun o _ => ⟨by rw [h.oi (by omega)]; exact Int.le_refl _, Or.inl (h.oi (by omega))⟩
/-- what moves of an order is as it was -/
def eO (σ σ' : mS) (o : Nat) : Prop := m_i σ' 7 o 6 = m_i σ 7 o 6 ∧ m_i σ' 7 o 7 = m_i σ 7 o 7 ∧ m_i σ' 7 o 9 = m_i σ 7 o 9
theorem eO.rf {σ : mS} {o : Nat} : eO σ σ o := ⟨rfl, rfl, rfl⟩
theorem eO.tr {σ σ1 σ2 : mS} {o : Nat} (h : eO σ σ1 o) (g : eO σ1 σ2 o) : eO σ σ2 o := ⟨g.1.trans h.1, g.2.1.trans h.2.1, g.2.2.trans h.2.2⟩
theorem eO.o {σ σ' : mS} {o : Nat} (h : eO σ σ' o) : oi σ' o 6 = oi σ o 6 ∧ oi σ' o 7 = oi σ o 7 ∧ oi σ' o 9 = oi σ o 9 := ⟨congrArg Int32.toInt h.1, congrArg Int32.toInt h.2.1, congrArg Int32.toInt h.2.2⟩
theorem sO.e {σ σ' : mS} (h : sO σ σ') (o : Nat) : eO σ σ' o := ⟨h.1 o 6 (by omega), h.1 o 7 (by omega), h.1 o 9 (by omega)⟩
/-- ties stay or are cut -/
def rO (σ σ' : mS) : Prop := ∀ o, m_r σ' 7 o 12 = m_r σ 7 o 12 ∨ m_r σ' 7 o 12 = none
theorem rO.tr {σ σ1 σ2 : mS} (h : rO σ σ1) (g : rO σ1 σ2) : rO σ σ2 := fun o => by
  rcases g o with e | e
  · rw [e]; exact h o
  · exact Or.inr e
/-- one order moved, the others not -/
theorem hO_1 {σ σ' : mS} {N a : Nat} (hO0 : hO σ N) (K : kO σ σ') (hr : rO σ σ') (he : ∀ o, o ≠ a → eO σ σ' o) (ha : a < N → 0 ≤ oi σ' a 6 ∧ oi σ' a 6 ≤ oi σ a 6 ∧ (0 ≤ oi σ' a 7 ∧ oi σ' a 7 ≤ oi σ' a 6) ∧ (oi σ' a 9 = 0 ∧ oi σ' a 6 = 0 ∨ oi σ' a 9 = 1 ∧ 0 < oi σ' a 7 ∨ oi σ' a 9 = 2 ∧ 0 < oi σ' a 6 ∧ oi σ' a 7 = 0 ∨ oi σ' a 9 = 3 ∧ oi σ' a 7 = 0) ∧ (oi σ' a 9 ≠ 0 → oi σ a 9 ≠ 0)) : hO σ' N := by
  intro o ho
  have G := hO0 o ho
  have G' := G
  obtain ⟨_, _, _, _, _, G6, G7, G9, Ga, Gb, Gc, Gd, _⟩ := G'
  by_cases e : o = a
  · subst e
    obtain ⟨h1, h2, h3, h4, h5⟩ := ha ho
    exact oOK_of G K ⟨h1, h2⟩ h3 (by omega) (by omega) (by omega) (by omega) (by omega) (hr o) h5
  · obtain ⟨e6, e7, e9⟩ := (he o e).o
    exact oOK_of G K (by omega) (by omega) (by omega) (by omega) (by omega) (by omega) (by omega) (hr o) (by omega)
theorem mO_1 {σ σ' : mS} {N a : Nat} (he : ∀ o, o ≠ a → eO σ σ' o) (ha : a < N → oi σ' a 6 ≤ oi σ a 6 ∧ (oi σ' a 9 = oi σ a 9 ∨ oi σ' a 9 = 0 ∨ (2 ≤ oi σ a 9 ∧ oi σ' a 9 = 1))) : mO N σ σ' := by
  intro o ho
  by_cases e : o = a
  · subst e; exact ha ho
  · obtain ⟨e6, e7, e9⟩ := (he o e).o
    exact ⟨by omega, Or.inl e9⟩
/-! goAway -/
theorem g106 {σ σ' : mS} {a : Nat} (h : P106 σ a σ') : (∀ o k, m_i σ' 7 o k = if o = a ∧ (k = 9 ∨ k = 6 ∨ k = 7) then Int32.ofInt 0 else m_i σ 7 o k) ∧ rO σ σ' := by
  obtain ⟨σ2, rfl, σ5, rfl, σ8, rfl, h⟩ := h
  rcases h with ⟨_, rfl⟩ | ⟨q, hq, i, hi, σ17, rfl, σ20, rfl, rfl⟩
  · refine ⟨fun o k => ?_, fun o => Or.inl (by simp only [mr_si])⟩
    simp only [mi_si, true_and]
    grind
  · refine ⟨fun o k => ?_, fun o => ?_⟩
    · simp only [mi_si, mi_sr, true_and]
      grind
    · simp only [mr_si, mr_sr, true_and]
      grind
theorem go_o {σ σ' : mS} {N a : Nat} (hO0 : hO σ N) (F : fw_e w106 σ σ') (h : P106 σ a σ') : hO σ' N ∧ kO σ σ' ∧ mO N σ σ' ∧ oi σ' a 9 = 0 ∧ (∀ o, o ≠ a → eO σ σ' o) ∧ rO σ σ' := by
  obtain ⟨g1, g2⟩ := g106 h
  have K : kO σ σ' := kO_of F rfl
  have ne : ∀ o, o ≠ a → eO σ σ' o := fun o ho => ⟨by rw [g1, if_neg (fun z => ho z.1)], by rw [g1, if_neg (fun z => ho z.1)], by rw [g1, if_neg (fun z => ho z.1)]⟩
  have z9 : oi σ' a 9 = 0 := by show (m_i σ' 7 a 9).toInt = 0; rw [g1, if_pos ⟨rfl, by omega⟩, i_0]
  have z6 : oi σ' a 6 = 0 := by show (m_i σ' 7 a 6).toInt = 0; rw [g1, if_pos ⟨rfl, by omega⟩, i_0]
  have z7 : oi σ' a 7 = 0 := by show (m_i σ' 7 a 7).toInt = 0; rw [g1, if_pos ⟨rfl, by omega⟩, i_0]
  refine ⟨hO_1 hO0 K g2 ne (fun ho => ?_), K, mO_1 ne (fun ho => ?_), z9, ne, g2⟩
  · have := (hO0 a ho).2.2.2.2.2.1.1
    omega
  · have := (hO0 a ho).2.2.2.2.2.1.1
    omega
/-! letStand, showAnew -/
theorem g105 {σ σ' : mS} {a : Nat} (h : P105 σ a σ') : ∃ p : Int32, (p.toInt = oi σ a 6 ∨ oi σ a 5 ≠ 0 ∧ p.toInt = oi σ a 5 ∧ oi σ a 5 ≤ oi σ a 6) ∧ (∀ o k, m_i σ' 7 o k = if o = a ∧ k = 7 then p else m_i σ 7 o k) ∧ ∀ o, m_r σ' 7 o 12 = m_r σ 7 o 12 := by
  rcases h with ⟨e, σ3, rfl, rfl⟩ | ⟨e, ⟨e2, σ7, rfl, rfl⟩ | ⟨e2, σ10, rfl, rfl⟩⟩
  · exact ⟨_, Or.inl rfl, fun o k => by rw [mi_si]; grind, fun o => rfl⟩
  · exact ⟨_, Or.inr ⟨e, rfl, e2⟩, fun o k => by rw [mi_si]; grind, fun o => rfl⟩
  · exact ⟨_, Or.inl rfl, fun o k => by rw [mi_si]; grind, fun o => rfl⟩
theorem g5 {σ σ' : mS} {a : Nat} (h : P5 σ (some (7, a)) σ') : ∃ p : Int32, (p.toInt = oi σ a 6 ∨ oi σ a 5 ≠ 0 ∧ p.toInt = oi σ a 5 ∧ oi σ a 5 ≤ oi σ a 6) ∧ (∀ o k, k ≠ 11 → m_i σ' 7 o k = if o = a ∧ k = 7 then p else if o = a ∧ k = 9 then Int32.ofInt 1 else m_i σ 7 o k) ∧ ∀ o, m_r σ' 7 o 12 = m_r σ 7 o 12 := by
  obtain ⟨i, hi, σ4, rfl, σ7, F, h, σ11, rfl, σ14, rfl, rfl⟩ := h
  cases hi
  obtain ⟨p, h1, h2, h3⟩ := g105 h
  refine ⟨p, ?_, fun o k hk => ?_, fun o => ?_⟩
  · simp only [oi, mi_si, true_and] at h1
    exact h1
  · simp only [mi_si, h2, true_and]
    grind
  · simp only [mr_si]
    rw [h3]
    rfl
theorem st_o {σ σ' : mS} {N a : Nat} (hO0 : hO σ N) (haN : a < N) (hl : 0 < oi σ a 6) (hs : oi σ a 9 = 1 ∨ oi σ a 9 = 3) (F : fw_e w5 σ σ') (h : P5 σ (some (7, a)) σ') : hO σ' N ∧ kO σ σ' ∧ mO N σ σ' ∧ (oi σ' a 9 = 1 ∧ oi σ' a 6 = oi σ a 6) ∧ (∀ o, o ≠ a → eO σ σ' o) ∧ rO σ σ' := by
  obtain ⟨p, p1, p2, p3⟩ := g5 h
  have K : kO σ σ' := kO_of F rfl
  have ne : ∀ o, o ≠ a → eO σ σ' o := fun o ho => ⟨by rw [p2 _ _ (by omega), if_neg (fun z => ho z.1), if_neg (fun z => ho z.1)], by rw [p2 _ _ (by omega), if_neg (fun z => ho z.1), if_neg (fun z => ho z.1)], by rw [p2 _ _ (by omega), if_neg (fun z => ho z.1), if_neg (fun z => ho z.1)]⟩
  have z9 : oi σ' a 9 = 1 := by show (m_i σ' 7 a 9).toInt = 1; rw [p2 _ _ (by omega), if_neg (fun z => by cases z.2), if_pos ⟨rfl, rfl⟩, i_1]
  have z6 : oi σ' a 6 = oi σ a 6 := by show (m_i σ' 7 a 6).toInt = _; rw [p2 _ _ (by omega), if_neg (fun z => by cases z.2), if_neg (fun z => by cases z.2)]
  have z7 : oi σ' a 7 = p.toInt := by show (m_i σ' 7 a 7).toInt = _; rw [p2 _ _ (by omega), if_pos ⟨rfl, rfl⟩]
  have g5 := (hO0 a haN).2.2.2.2.1.1
  have R : rO σ σ' := fun o => Or.inl (p3 o)
  exact ⟨hO_1 hO0 K R ne (fun ho => by omega), K, mO_1 ne (fun ho => by omega), ⟨z9, z6⟩, ne, R⟩
/-! a quantity off what is left -/
theorem i_subq {x q : Int32} (h1 : 0 ≤ q.toInt) (h2 : q.toInt ≤ x.toInt) : (x - q).toInt = x.toInt - q.toInt := by
  have := i_b x
  exact i_sub (by omega) (by omega)
theorem us_o {σ σ' : mS} {N a : Nat} {q : Int32} (hO0 : hO σ N) (haN : a < N) (hs : oi σ a 9 = 1) (hq : 0 < q.toInt ∧ q.toInt ≤ oi σ a 7) (F : fw_e w12 σ σ') (h : P12 σ (some (7, a)) q σ') : hO σ' N ∧ kO σ σ' ∧ mO N σ σ' ∧ (∀ o, o ≠ a → eO σ σ' o) ∧ rO σ σ' := by
  have K : kO σ σ' := kO_of F rfl
  obtain ⟨i, hi, σ4, e4, σ7, e7, h⟩ := h
  cases hi
  have G := hO0 a haN
  obtain ⟨_, _, _, _, G5, G6, G7, _⟩ := G
  have c6 : ∀ o k, m_i σ7 7 o k = if o = a ∧ k = 7 then m_i σ 7 a 7 - q else if o = a ∧ k = 6 then m_i σ 7 a 6 - q else m_i σ 7 o k := fun o k => by
    rw [e7, e4]; simp only [mi_si, true_and]; grind
  have cr : ∀ o, m_r σ7 7 o 12 = m_r σ 7 o 12 := fun o => by rw [e7, e4]; rfl
  have q6 : oi σ7 a 6 = oi σ a 6 - q.toInt := by
    show (m_i σ7 7 a 6).toInt = _
    rw [c6, if_neg (fun z => by cases z.2), if_pos ⟨rfl, rfl⟩]; exact i_subq (by omega) (by show q.toInt ≤ oi σ a 6; omega)
  have q7 : oi σ7 a 7 = oi σ a 7 - q.toInt := by
    show (m_i σ7 7 a 7).toInt = _
    rw [c6, if_pos ⟨rfl, rfl⟩]; exact i_subq (by omega) (by show q.toInt ≤ oi σ a 7; omega)
  have q9 : oi σ7 a 9 = 1 := by
    show (m_i σ7 7 a 9).toInt = _
    rw [c6, if_neg (fun z => by cases z.2), if_neg (fun z => by cases z.2)]; exact hs
  have q5 : oi σ7 a 5 = oi σ a 5 := by
    show (m_i σ7 7 a 5).toInt = _
    rw [c6, if_neg (fun z => by cases z.2), if_neg (fun z => by cases z.2)]
  have ne7 : ∀ o, o ≠ a → eO σ σ7 o := fun o ho => ⟨by rw [c6, if_neg (fun z => ho z.1), if_neg (fun z => ho z.1)], by rw [c6, if_neg (fun z => ho z.1), if_neg (fun z => ho z.1)], by rw [c6, if_neg (fun z => ho z.1), if_neg (fun z => ho z.1)]⟩
  have fin : ∀ σ', kO σ σ' → (∀ o, o ≠ a → eO σ7 σ' o) → rO σ7 σ' → (oi σ' a 9 = 0 ∧ oi σ' a 6 = 0 ∧ oi σ' a 7 = 0 ∨ oi σ' a 9 = 1 ∧ oi σ' a 6 = oi σ7 a 6 ∧ 0 < oi σ' a 7 ∧ oi σ' a 7 ≤ oi σ' a 6) → hO σ' N ∧ kO σ σ' ∧ mO N σ σ' ∧ (∀ o, o ≠ a → eO σ σ' o) ∧ rO σ σ' := by
    intro σ' K a1 a2 a3
    have ne : ∀ o, o ≠ a → eO σ σ' o := fun o ho => (ne7 o ho).tr (a1 o ho)
    have R : rO σ σ' := fun o => by rw [← cr o]; exact a2 o
    exact ⟨hO_1 hO0 K R ne (fun ho => by omega), K, mO_1 ne (fun ho => by omega), ne, R⟩
  rcases h with ⟨h1, ⟨h2, rfl⟩ | ⟨h2, σ12, F5, p5, rfl⟩⟩ | ⟨h1, σ16, F6, p6, rfl⟩
  · have h1 : oi σ' a 6 ≠ 0 := h1
    have h2 : oi σ' a 7 ≠ 0 := h2
    exact fin _ K (fun o _ => eO.rf) (fun o => Or.inl rfl) (Or.inr ⟨q9, rfl, by omega, by omega⟩)
  · obtain ⟨p, p1, p2, p3⟩ := g5 p5
    have h1 : oi σ7 a 6 ≠ 0 := h1
    refine fin _ K (fun o ho => ⟨by rw [p2 _ _ (by omega), if_neg (fun z => ho z.1), if_neg (fun z => ho z.1)], by rw [p2 _ _ (by omega), if_neg (fun z => ho z.1), if_neg (fun z => ho z.1)], by rw [p2 _ _ (by omega), if_neg (fun z => ho z.1), if_neg (fun z => ho z.1)]⟩) (fun o => Or.inl (p3 o)) (Or.inr ?_)
    have z9 : oi σ' a 9 = 1 := by show (m_i σ' 7 a 9).toInt = 1; rw [p2 _ _ (by omega), if_neg (fun z => by cases z.2), if_pos ⟨rfl, rfl⟩, i_1]
    have z6 : oi σ' a 6 = oi σ7 a 6 := by show (m_i σ' 7 a 6).toInt = _; rw [p2 _ _ (by omega), if_neg (fun z => by cases z.2), if_neg (fun z => by cases z.2)]
    have z7 : oi σ' a 7 = p.toInt := by show (m_i σ' 7 a 7).toInt = _; rw [p2 _ _ (by omega), if_pos ⟨rfl, rfl⟩]
    omega
  · obtain ⟨g1, g2⟩ := g106 p6
    refine fin _ K (fun o ho => ⟨by rw [g1, if_neg (fun z => ho z.1)], by rw [g1, if_neg (fun z => ho z.1)], by rw [g1, if_neg (fun z => ho z.1)]⟩) g2 (Or.inl ?_)
    have z9 : oi σ' a 9 = 0 := by show (m_i σ' 7 a 9).toInt = 0; rw [g1, if_pos ⟨rfl, by omega⟩, i_0]
    have z6 : oi σ' a 6 = 0 := by show (m_i σ' 7 a 6).toInt = 0; rw [g1, if_pos ⟨rfl, by omega⟩, i_0]
    have z7 : oi σ' a 7 = 0 := by show (m_i σ' 7 a 7).toInt = 0; rw [g1, if_pos ⟨rfl, by omega⟩, i_0]
    exact ⟨z9, z6, z7⟩
theorem ua_o {σ σ' : mS} {N a : Nat} {q : Int32} (hO0 : hO σ N) (haN : a < N) (hs : oi σ a 9 = 1) (hq : 0 < q.toInt ∧ q.toInt ≤ oi σ a 6) (F : fw_e w13 σ σ') (h : P13 σ (some (7, a)) q σ') : hO σ' N ∧ kO σ σ' ∧ mO N σ σ' ∧ (∀ o, o ≠ a → eO σ σ' o) ∧ rO σ σ' := by
  have K : kO σ σ' := kO_of F rfl
  obtain ⟨i, hi, σ4, e4, h⟩ := h
  cases hi
  have G := hO0 a haN
  obtain ⟨_, _, _, _, G5, G6, G7, _⟩ := G
  have c6 : ∀ o k, m_i σ4 7 o k = if o = a ∧ k = 6 then m_i σ 7 a 6 - q else m_i σ 7 o k := fun o k => by
    rw [e4]; simp only [mi_si, true_and]
  have cr : ∀ o, m_r σ4 7 o 12 = m_r σ 7 o 12 := fun o => by rw [e4]; rfl
  have q6 : oi σ4 a 6 = oi σ a 6 - q.toInt := by
    show (m_i σ4 7 a 6).toInt = _
    rw [c6, if_pos ⟨rfl, rfl⟩]; exact i_subq (by omega) (by show q.toInt ≤ oi σ a 6; omega)
  have q9 : oi σ4 a 9 = 1 := by
    show (m_i σ4 7 a 9).toInt = _
    rw [c6, if_neg (fun z => by cases z.2)]; exact hs
  have q5 : oi σ4 a 5 = oi σ a 5 := by
    show (m_i σ4 7 a 5).toInt = _
    rw [c6, if_neg (fun z => by cases z.2)]
  have ne4 : ∀ o, o ≠ a → eO σ σ4 o := fun o ho => ⟨by rw [c6, if_neg (fun z => ho z.1)], by rw [c6, if_neg (fun z => ho z.1)], by rw [c6, if_neg (fun z => ho z.1)]⟩
  rcases h with ⟨h1, σ8, F5, p5, rfl⟩ | ⟨h1, σ12, F6, p6, rfl⟩
  · obtain ⟨p, p1, p2, p3⟩ := g105 p5
    have h1 : oi σ4 a 6 ≠ 0 := h1
    have ne : ∀ o, o ≠ a → eO σ σ' o := fun o ho => (ne4 o ho).tr ⟨by rw [p2, if_neg (fun z => ho z.1)], by rw [p2, if_neg (fun z => ho z.1)], by rw [p2, if_neg (fun z => ho z.1)]⟩
    have R : rO σ σ' := fun o => Or.inl ((p3 o).trans (cr o))
    have z9 : oi σ' a 9 = 1 := by show (m_i σ' 7 a 9).toInt = 1; rw [p2, if_neg (fun z => by cases z.2)]; exact q9
    have z6 : oi σ' a 6 = oi σ4 a 6 := by show (m_i σ' 7 a 6).toInt = _; rw [p2, if_neg (fun z => by cases z.2)]
    have z7 : oi σ' a 7 = p.toInt := by show (m_i σ' 7 a 7).toInt = _; rw [p2, if_pos ⟨rfl, rfl⟩]
    exact ⟨hO_1 hO0 K R ne (fun ho => by omega), K, mO_1 ne (fun ho => by omega), ne, R⟩
  · obtain ⟨g1, g2⟩ := g106 p6
    have ne : ∀ o, o ≠ a → eO σ σ' o := fun o ho => (ne4 o ho).tr ⟨by rw [g1, if_neg (fun z => ho z.1)], by rw [g1, if_neg (fun z => ho z.1)], by rw [g1, if_neg (fun z => ho z.1)]⟩
    have R : rO σ σ' := fun o => by rw [← cr o]; exact g2 o
    have z9 : oi σ' a 9 = 0 := by show (m_i σ' 7 a 9).toInt = 0; rw [g1, if_pos ⟨rfl, by omega⟩, i_0]
    have z6 : oi σ' a 6 = 0 := by show (m_i σ' 7 a 6).toInt = 0; rw [g1, if_pos ⟨rfl, by omega⟩, i_0]
    have z7 : oi σ' a 7 = 0 := by show (m_i σ' 7 a 7).toInt = 0; rw [g1, if_pos ⟨rfl, by omega⟩, i_0]
    exact ⟨hO_1 hO0 K R ne (fun ho => by omega), K, mO_1 ne (fun ho => by omega), ne, R⟩
/-! takeAway: of an order that is tied -/
theorem ta_o {σ σ' : mS} {N a : Nat} (hO0 : hO σ N) (haN : a < N) {r : mR} (hr : r = none ∨ r = m_r σ 7 a 12) (F : fw_e w68 σ σ') (h : P68 σ r σ') : hO σ' N ∧ kO σ σ' ∧ mO N σ σ' ∧ (∀ o, o = a ∨ oi σ o 1 ≠ oi σ a 1 → eO σ σ' o) ∧ rO σ σ' := by
  rcases h with ⟨e, rfl⟩ | ⟨q, e, i, hi, σ8, F6, p6, rfl⟩
  · exact ⟨hO0, kO.rf, mO.rf, fun _ _ => eO.rf, fun _ => Or.inl rfl⟩
  · cases hi
    rcases hr with hr | hr
    · rw [e] at hr; cases hr
    · obtain ⟨t, t1, t2, t3, t4⟩ := (hO0 a haN).2.2.2.2.2.2.2.2.2.2.2.2.1 _ (hr.symm.trans e)
      cases t1
      obtain ⟨h1, h2, h3, h4, h5, h6⟩ := go_o hO0 F6 p6
      refine ⟨h1, h2, h3, fun o ho => h5 o (fun z => ?_), h6⟩
      subst z
      rcases ho with ho | ho
      · exact t3 ho
      · exact ho t4
