/-! levels: a quantity is put at a key -/
def pS (n : Nat) (K : Nat → Int) : Prop := ∀ i j, i < j → j < n → K i < K j
def pM (n : Nat) (K Q : Nat → Int) (key v : Int) : Prop := (∃ i, i < n ∧ K i = key ∧ Q i = v) ∨ ((∀ i, i < n → K i ≠ key) ∧ v = 0)
/-- a quantity q came to stand at a key -/
def pR (n : Nat) (K Q : Nat → Int) (n' : Nat) (K' Q' : Nat → Int) (key q : Int) : Prop := n' ≤ n + 1 ∧ pS n' K' ∧ pM n' K' Q' key q ∧ (∀ k v, k ≠ key → pM n K Q k v → pM n' K' Q' k v) ∧ (∀ i, i < n' → K' i = key ∨ ∃ j, j < n ∧ K' i = K j) ∧ ((∀ i, i < n → Q i ≠ 0) → ∀ i, i < n' → Q' i ≠ 0)
theorem pA {n p : Nat} {K Q : Nat → Int} {key q : Int} (hS : pS n K) (h2 : ∀ i, i < p → K i < key) (h3 : p < n → key ≤ K p) (hh : ¬ (p < n ∧ K p = key)) (hq : q = 0) : pR n K Q n K Q key q := by
  refine ⟨by omega, hS, Or.inr ⟨fun i hi e => ?_, hq⟩, fun _ _ _ z => z, fun i hi => Or.inr ⟨i, hi, rfl⟩, fun z => z⟩
  rcases Nat.lt_trichotomy i p with d | d | d
  · have := h2 i d; omega
  · subst d; exact hh ⟨hi, e⟩
  · have := hS p i d hi
    have := h3 (by omega)
    omega
theorem pB {n p n' : Nat} {K Q K' Q' : Nat → Int} {key q : Int} (hS : pS n K) (hp : p < n) (hh : K p = key) (e : n' + 1 = n) (h1 : ∀ j, j < p → K' j = K j ∧ Q' j = Q j) (h2 : ∀ j, p ≤ j → j + 1 < n → K' j = K (j + 1) ∧ Q' j = Q (j + 1)) (hq : q = 0) : pR n K Q n' K' Q' key q := by
  have src : ∀ i, i < n' → ∃ j, j < n ∧ j ≠ p ∧ (j = i ∧ i < p ∨ j = i + 1 ∧ p ≤ i) ∧ K' i = K j ∧ Q' i = Q j := by
    intro i hi
    by_cases c : i < p
    · exact ⟨i, by omega, by omega, Or.inl ⟨rfl, c⟩, h1 i c⟩
    · exact ⟨i + 1, by omega, by omega, Or.inr ⟨rfl, by omega⟩, h2 i (by omega) (by omega)⟩
  refine ⟨by omega, fun i j hij hj => ?_, Or.inr ⟨fun i hi z => ?_, hq⟩, fun k v hk z => ?_, fun i hi => ?_, fun z i hi => ?_⟩
  · obtain ⟨a, a1, a2, a3, a4, _⟩ := src i (by omega)
    obtain ⟨b, b1, b2, b3, b4, _⟩ := src j hj
    rw [a4, b4]
    exact hS a b (by omega) b1
  · obtain ⟨a, a1, a2, a3, a4, _⟩ := src i hi
    rcases Nat.lt_or_gt_of_ne a2 with d | d
    · have := hS a p d hp; omega
    · have := hS p a d a1; omega
  · rcases z with ⟨i, i1, i2, i3⟩ | ⟨z1, z2⟩
    · rcases Nat.lt_trichotomy i p with d | d | d
      · refine Or.inl ⟨i, by omega, ?_⟩
        obtain ⟨x, y⟩ := h1 i d
        exact ⟨x.trans i2, y.trans i3⟩
      · subst d; omega
      · obtain ⟨x, y⟩ := h2 (i - 1) (by omega) (by omega)
        have ei : i - 1 + 1 = i := by omega
        rw [ei] at x y
        exact Or.inl ⟨i - 1, by omega, x.trans i2, y.trans i3⟩
    · refine Or.inr ⟨fun i hi y => ?_, z2⟩
      obtain ⟨a, a1, a2, a3, a4, _⟩ := src i hi
      exact z1 a a1 (a4.symm.trans y)
  · obtain ⟨a, a1, a2, a3, a4, _⟩ := src i hi
    exact Or.inr ⟨a, a1, a4⟩
  · obtain ⟨a, a1, a2, a3, a4, a5⟩ := src i hi
    rw [a5]
    exact z a a1
theorem pC {n p : Nat} {K Q K' Q' : Nat → Int} {key q : Int} (hS : pS n K) (hp : p < n) (hh : K p = key) (h1 : ∀ j, K' j = K j) (h2 : ∀ j, j ≠ p → Q' j = Q j) (h3 : Q' p = q) (hq : q ≠ 0) : pR n K Q n K' Q' key q := by
  refine ⟨by omega, fun i j hij hj => by rw [h1, h1]; exact hS i j hij hj, Or.inl ⟨p, hp, (h1 p).trans hh, h3⟩, fun k v hk z => ?_, fun i hi => Or.inr ⟨i, hi, h1 i⟩, fun z i hi => ?_⟩
  · rcases z with ⟨i, i1, i2, i3⟩ | ⟨z1, z2⟩
    · have ip : i ≠ p := fun y => by subst y; omega
      exact Or.inl ⟨i, i1, (h1 i).trans i2, (h2 i ip).trans i3⟩
    · exact Or.inr ⟨fun i hi y => z1 i hi ((h1 i).symm.trans y), z2⟩
  · by_cases c : i = p
    · subst c; omega
    · rw [h2 i c]; exact z i hi
theorem pD {n p : Nat} {K Q K' Q' : Nat → Int} {key q : Int} (hS : pS n K) (g2 : ∀ i, i < p → K i < key) (g3 : p < n → key ≤ K p) (hp : p ≤ n) (hh : ¬ (p < n ∧ K p = key)) (h1 : ∀ j, j < p → K' j = K j ∧ Q' j = Q j) (h2 : ∀ j, p ≤ j → j < n → K' (j + 1) = K j ∧ Q' (j + 1) = Q j) (h3 : K' p = key) (h4 : Q' p = q) (hq : q ≠ 0) : pR n K Q (n + 1) K' Q' key q := by
  have g4 : ∀ j, p ≤ j → j < n → key < K j := by
    intro j j1 j2
    have a := g3 (by omega)
    have b : K p ≠ key := fun z => hh ⟨by omega, z⟩
    by_cases c : j = p
    · subst c; omega
    · have := hS p j (by omega) j2
      omega
  have src : ∀ i, i < n + 1 → i = p ∨ ∃ j, j < n ∧ (j = i ∧ i < p ∨ j + 1 = i ∧ p ≤ j) ∧ K' i = K j ∧ Q' i = Q j := by
    intro i hi
    rcases Nat.lt_trichotomy i p with d | d | d
    · exact Or.inr ⟨i, by omega, Or.inl ⟨rfl, d⟩, h1 i d⟩
    · exact Or.inl d
    · have g := h2 (i - 1) (by omega) (by omega)
      have ei : i - 1 + 1 = i := by omega
      rw [ei] at g
      exact Or.inr ⟨i - 1, by omega, Or.inr ⟨by omega, by omega⟩, g⟩
  refine ⟨by omega, fun i j hij hj => ?_, Or.inl ⟨p, by omega, h3, h4⟩, fun k v hk z => ?_, fun i hi => ?_, fun z i hi => ?_⟩
  · rcases src i (by omega) with a | ⟨a, a1, a2, a3, _⟩
    · rcases src j hj with b | ⟨b, b1, b2, b3, _⟩
      · omega
      · rw [a, h3, b3]
        exact g4 b (by omega) b1
    · rcases src j hj with b | ⟨b, b1, b2, b3, _⟩
      · rw [b, h3, a3]
        exact g2 a (by omega)
      · rw [a3, b3]
        exact hS a b (by omega) b1
  · rcases z with ⟨i, i1, i2, i3⟩ | ⟨z1, z2⟩
    · by_cases c : i < p
      · obtain ⟨x, y⟩ := h1 i c
        exact Or.inl ⟨i, by omega, x.trans i2, y.trans i3⟩
      · obtain ⟨x, y⟩ := h2 i (by omega) i1
        exact Or.inl ⟨i + 1, by omega, x.trans i2, y.trans i3⟩
    · refine Or.inr ⟨fun i hi y => ?_, z2⟩
      rcases src i hi with a | ⟨a, a1, a2, a3, _⟩
      · rw [a, h3] at y
        exact hk y.symm
      · exact z1 a a1 (a3.symm.trans y)
  · rcases src i hi with a | ⟨a, a1, a2, a3, _⟩
    · exact Or.inl (by rw [a]; exact h3)
    · exact Or.inr ⟨a, a1, a3⟩
  · rcases src i hi with a | ⟨a, a1, a2, a3, a4⟩
    · rw [a, h4]; exact hq
    · rw [a4]; exact z a a1
theorem l5_n {a ka qa i k : Nat} (h : k ≠ 2) : ¬ l5 a ka qa 5 i k := fun z => by
  rcases z with z | z
  · exact h z.2.2
  · cases z.1
theorem lv_fr {σ τ : mS} {a ka qa n n' : Nat} (F : fr3 (l5 a ka qa) σ τ) (hv : lv σ a ka qa n) (h : (m_i τ 5 a 2).toInt = (n' : Int)) (h4 : n' ≤ 480) : lv τ a ka qa n' := ⟨(F.get (c := 5) (i := a) (k := 0) (l5_n (by decide))).trans hv.1, (F.get (c := 5) (i := a) (k := 1) (l5_n (by decide))).trans hv.2.1, by rw [F.2.1]; exact hv.2.2.1, by rw [F.2.1]; exact hv.2.2.2.1, h, h4, hv.2.2.2.2.2.2⟩
