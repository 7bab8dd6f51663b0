/-! levels: the next difference of two tables -/
def z86 : mAl := ((yX5_nextDifference, cX5_nextDifference, 7, (some .int), { frames := 2, cells := 0, slots := 0, locals := 44 }, []), rw_X5_nextDifference, false)
theorem z86_at : m_alF[86]? = some z86 := rfl
def z87 : mAl := ((yX5_differencesFrom, cX5_differencesFrom, 5, (some .int), { frames := 3, cells := 0, slots := 0, locals := 70 }, []), rw_X5_differencesFrom, false)
theorem z87_at : m_alF[87]? = some z87 := rfl
theorem i_max {x y m : Int32} (h : (if x < y then y else x) = m) : (m.toInt = y.toInt ∧ x.toInt ≤ y.toInt) ∨ (m.toInt = x.toInt ∧ y.toInt ≤ x.toInt) := by
  by_cases c : x < y
  · rw [if_pos c] at h
    rw [Int32.lt_iff_toInt_lt] at c
    subst h
    exact Or.inl ⟨rfl, by omega⟩
  · rw [if_neg c] at h
    rw [Int32.lt_iff_toInt_lt] at c
    subst h
    exact Or.inr ⟨rfl, by omega⟩
theorem i_min {x y m : Int32} (h : (if y < x then y else x) = m) : (m.toInt = y.toInt ∧ y.toInt ≤ x.toInt) ∨ (m.toInt = x.toInt ∧ x.toInt ≤ y.toInt) := by
  by_cases c : y < x
  · rw [if_pos c] at h
    rw [Int32.lt_iff_toInt_lt] at c
    subst h
    exact Or.inl ⟨rfl, by omega⟩
  · rw [if_neg c] at h
    rw [Int32.lt_iff_toInt_lt] at c
    subst h
    exact Or.inr ⟨rfl, by omega⟩
/-- two tables agree at a key -/
def nE (n : Nat) (K Q : Nat → Int) (m : Nat) (K' Q' : Nat → Int) (k : Int) : Prop := ∀ v w, pM n K Q k v → pM m K' Q' k w → v = w
/-- the next key where two tables differ, or -1 -/
def nD (n : Nat) (K Q : Nat → Int) (m : Nat) (K' Q' : Nat → Int) (key r : Int) : Prop := (r = -1 ∧ ∀ k, key < k → nE n K Q m K' Q' k) ∨ (key < r ∧ 0 ≤ r ∧ r < 1000000 ∧ ¬ nE n K Q m K' Q' r ∧ ∀ k, key < k → k < r → nE n K Q m K' Q' k)
/-- how many keys lie at or below c -/
def pl (n : Nat) (K : Nat → Int) (c : Int) (p : Nat) : Prop := p ≤ n ∧ (∀ i, i < p → K i ≤ c) ∧ (p < n → c < K p)
def pX (n : Nat) (K : Nat → Int) (c r : Int) : Prop := (r = -1 ∧ ∀ i, i < n → K i ≤ c) ∨ ∃ p, p < n ∧ r = K p ∧ c < r ∧ ∀ i, i < n → c < K i → r ≤ K i
theorem pl_ex {K : Nat → Int} {c : Int} : ∀ n, pS n K → ∃ p, pl n K c p := by
  intro n
  induction n with
  | zero => exact fun _ => ⟨0, by omega, fun i hi => by omega, fun z => by omega⟩
  | succ n IH =>
    intro hS
    obtain ⟨p, p1, p2, p3⟩ := IH (fun i j h1 h2 => hS i j h1 (by omega))
    by_cases d : p < n
    · exact ⟨p, by omega, p2, fun _ => p3 d⟩
    · have e : p = n := by omega
      subst e
      by_cases g : K p ≤ c
      · refine ⟨p + 1, by omega, fun i hi => ?_, fun z => by omega⟩
        by_cases y : i = p
        · rw [y]; exact g
        · exact p2 i (by omega)
      · exact ⟨p, by omega, p2, fun _ => by omega⟩
theorem nU {n p : Nat} {K : Nat → Int} {c r : Int} (hS : pS n K) (hp : pl n K c p) (hr : pX n K c r) : (r = -1 ∧ p = n) ∨ (p < n ∧ r = K p) := by
  obtain ⟨p1, p2, p3⟩ := hp
  rcases hr with ⟨r1, r2⟩ | ⟨q, q1, q2, q3, q4⟩
  · refine Or.inl ⟨r1, ?_⟩
    by_cases d : p < n
    · have := p3 d
      have := r2 p d
      omega
    · omega
  · refine Or.inr ?_
    have d : p ≤ q := by
      by_cases y : q < p
      · have := p2 q y; omega
      · omega
    have e := q4 p (by omega) (p3 (by omega))
    by_cases y : p = q
    · rw [y]; exact ⟨q1, q2⟩
    · have := hS p q (by omega) q1
      omega
theorem nA {n p : Nat} {K : Nat → Int} {c c' : Int} (hS : pS n K) (hp : pl n K c p) (hc : c < c') (h : p < n → c' ≤ K p) : ∃ q, pl n K c' q ∧ p ≤ q ∧ (p < n → c' = K p → p + 1 ≤ q) := by
  obtain ⟨p1, p2, p3⟩ := hp
  by_cases d : p < n ∧ c' = K p
  · refine ⟨p + 1, ⟨by omega, fun i hi => ?_, fun z => ?_⟩, by omega, fun _ _ => by omega⟩
    · by_cases y : i = p
      · rw [y, d.2]; exact Int.le_refl _
      · have := p2 i (by omega); omega
    · have := hS p (p + 1) (by omega) z
      have := d.2
      omega
  · refine ⟨p, ⟨p1, fun i hi => by have := p2 i hi; omega, fun z => ?_⟩, by omega, fun z y => absurd ⟨z, y⟩ d⟩
    have a := h z
    have b : c' ≠ K p := fun y => d ⟨z, y⟩
    omega
theorem nZ {n p : Nat} {K Q : Nat → Int} {c k v : Int} (hS : pS n K) (hp : pl n K c p) (hk : c < k) (h : p < n → k < K p) (hm : pM n K Q k v) : v = 0 := by
  obtain ⟨p1, p2, p3⟩ := hp
  rcases hm with ⟨i, i1, i2, i3⟩ | ⟨_, z⟩
  · exfalso
    rcases Nat.lt_trichotomy i p with d | d | d
    · have := p2 i d; omega
    · subst d; have := h i1; omega
    · have := hS p i d i1
      have := h (by omega)
      omega
  · exact z
theorem nS {n m p p' : Nat} {K Q K' Q' : Nat → Int} {key c ra rb x : Int} (hS : pS n K) (hS' : pS m K') (hp : pl n K c p) (hp' : pl m K' c p') (h1 : pX n K c ra) (h2 : pX m K' c rb) (hA : ∀ i, i < n → 0 ≤ K i ∧ K i < 1000000) (hB : ∀ i, i < m → 0 ≤ K' i ∧ K' i < 1000000) (hc : -1 ≤ c) (E : ∀ k, key < k → k ≤ c → nE n K Q m K' Q' k)
    (hx : ((ra = -1 ∨ rb = -1) ∧ ((x = rb ∧ ra ≤ rb) ∨ (x = ra ∧ rb ≤ ra))) ∨ (ra ≠ -1 ∧ rb ≠ -1 ∧ ((x = rb ∧ rb ≤ ra) ∨ (x = ra ∧ ra ≤ rb)))) :
    (x = -1 ∧ ∀ k, key < k → nE n K Q m K' Q' k) ∨ (x ≠ -1 ∧ c < x ∧ 0 ≤ x ∧ x < 1000000 ∧ (∀ k, key < k → k < x → nE n K Q m K' Q' k) ∧ ∃ q q', pl n K x q ∧ pl m K' x q' ∧ p + p' + 1 ≤ q + q') := by
  have go : ∀ _ : Unit, (p < n → x ≤ K p) → (p' < m → x ≤ K' p') → c < x → ((p < n ∧ x = K p) ∨ (p' < m ∧ x = K' p')) → (x = -1 ∧ ∀ k, key < k → nE n K Q m K' Q' k) ∨ (x ≠ -1 ∧ c < x ∧ 0 ≤ x ∧ x < 1000000 ∧ (∀ k, key < k → k < x → nE n K Q m K' Q' k) ∧ ∃ q q', pl n K x q ∧ pl m K' x q' ∧ p + p' + 1 ≤ q + q') := by
    intro _ g1 g2 g3 g4
    obtain ⟨q, q1, q2, q3⟩ := nA hS hp g3 g1
    obtain ⟨t, t1, t2, t3⟩ := nA hS' hp' g3 g2
    have rg : 0 ≤ x ∧ x < 1000000 := by
      rcases g4 with ⟨y, z⟩ | ⟨y, z⟩
      · rw [z]; exact hA p y
      · rw [z]; exact hB p' y
    refine Or.inr ⟨by omega, g3, rg.1, rg.2, fun k k1 k2 => ?_, q, t, q1, t1, ?_⟩
    · by_cases d : k ≤ c
      · exact E k k1 d
      · intro v w a b
        have e1 := nZ hS hp (by omega) (fun z => by have := g1 z; omega) a
        have e2 := nZ hS' hp' (by omega) (fun z => by have := g2 z; omega) b
        omega
    · rcases g4 with ⟨y, z⟩ | ⟨y, z⟩
      · have := q3 y z; omega
      · have := t3 y z; omega
  have a3 := hp.2.2
  have b3 := hp'.2.2
  have a0 := nU hS hp h1
  have b0 := nU hS' hp' h2
  clear h1 h2
  rcases a0 with ⟨a1, a2⟩ | ⟨a1, a2⟩
  · rcases b0 with ⟨b1, b2⟩ | ⟨b1, b2⟩
    · refine Or.inl ⟨by omega, fun k k1 => ?_⟩
      by_cases d : k ≤ c
      · exact E k k1 d
      · intro v w a b
        have e1 := nZ hS hp (by omega) (fun z => by omega) a
        have e2 := nZ hS' hp' (by omega) (fun z => by omega) b
        omega
    · have r := hB p' b1
      have := b3 b1
      exact go () (fun z => by omega) (fun z => by omega) (by omega) (Or.inr ⟨b1, by omega⟩)
  · have r := hA p a1
    have := a3 a1
    rcases b0 with ⟨b1, b2⟩ | ⟨b1, b2⟩
    · exact go () (fun z => by omega) (fun z => by omega) (by omega) (Or.inl ⟨a1, by omega⟩)
    · have r' := hB p' b1
      have := b3 b1
      refine go () (fun z => by omega) (fun z => by omega) (by omega) ?_
      by_cases y : x = K p
      · exact Or.inl ⟨a1, y⟩
      · exact Or.inr ⟨b1, by omega⟩
