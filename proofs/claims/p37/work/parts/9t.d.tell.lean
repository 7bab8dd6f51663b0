/-! the feed, the pure half of reading: a copy of the old levels becomes one of the new -/
theorem pM_ex {K Q : Nat → Int} {k : Int} : ∀ n, ∃ v, pM n K Q k v := by
  intro n
  induction n with
  | zero => exact ⟨0, Or.inr ⟨fun i hi => by omega, rfl⟩⟩
  | succ n IH =>
    by_cases c : K n = k
    · exact ⟨Q n, Or.inl ⟨n, by omega, c, rfl⟩⟩
    · obtain ⟨v, h⟩ := IH
      refine ⟨v, ?_⟩
      rcases h with ⟨i, i1, i2, i3⟩ | ⟨h1, h2⟩
      · exact Or.inl ⟨i, by omega, i2, i3⟩
      · refine Or.inr ⟨fun i hi => ?_, h2⟩
        by_cases d : i = n
        · rw [d]; exact c
        · exact h1 i (by omega)
theorem pM_uni {n : Nat} {K Q : Nat → Int} {k v w : Int} (hS : pS n K) (h : pM n K Q k v) (g : pM n K Q k w) : v = w := by
  rcases h with ⟨i, i1, i2, i3⟩ | ⟨h1, h2⟩
  · rcases g with ⟨j, j1, j2, j3⟩ | ⟨g1, g2⟩
    · have e : i = j := by
        rcases Nat.lt_trichotomy i j with d | d | d
        · have := hS i j d j1; omega
        · exact d
        · have := hS j i d i1; omega
      subst e
      omega
    · exact absurd i2 (g1 i i1)
  · rcases g with ⟨j, j1, j2, j3⟩ | ⟨g1, g2⟩
    · exact absurd j2 (h1 j j1)
    · omega
/-- a copy c, read up to a key: new levels there and below, old ones above -/
def cp (n : Nat) (K Q : Nat → Int) (m : Nat) (K' Q' : Nat → Int) (c : Nat) (Kc Qc : Nat → Int) (last : Int) : Prop := (∀ k, last < k → ∀ v, pM m K' Q' k v → pM c Kc Qc k v) ∧ ∀ k, -1 < k → k ≤ last → ∀ v, pM n K Q k v → pM c Kc Qc k v
theorem cp_0 {n : Nat} {K Q : Nat → Int} {m : Nat} {K' Q' : Nat → Int} {c : Nat} {Kc Qc : Nat → Int} (h : ∀ k, -1 < k → ∀ v, pM m K' Q' k v → pM c Kc Qc k v) : cp n K Q m K' Q' c Kc Qc (-1) := ⟨h, fun k h1 h2 => by omega⟩
theorem cp_s {n : Nat} {K Q : Nat → Int} {m : Nat} {K' Q' : Nat → Int} {c : Nat} {Kc Qc : Nat → Int} {c' : Nat} {Kd Qd : Nat → Int} {last key q : Int} (hS : pS n K) (hl : -1 ≤ last) (h : cp n K Q m K' Q' c Kc Qc last) (hd : nD n K Q m K' Q' last key) (hk : key ≠ -1) (hq : pM n K Q key q) (hp : pR c Kc Qc c' Kd Qd key q) : cp n K Q m K' Q' c' Kd Qd key := by
  obtain ⟨h1, h2⟩ := h
  obtain ⟨_, _, p3, p4, _⟩ := hp
  rcases hd with ⟨d1, _⟩ | ⟨d1, d2, d3, d4, d5⟩
  · exact absurd d1 hk
  · refine ⟨fun k k1 v g => p4 k v (by omega) (h1 k (by omega) v g), fun k k1 k2 v g => ?_⟩
    by_cases e : k = key
    · rw [e] at g
      rw [e, pM_uni hS g hq]
      exact p3
    · refine p4 k v e ?_
      by_cases y : k ≤ last
      · exact h2 k k1 y v g
      · obtain ⟨x, gx⟩ := pM_ex (K := K') (Q := Q') (k := k) m
        have ex := d5 k (by omega) (by omega) v x g gx
        rw [ex]
        exact h1 k (by omega) x gx
theorem cp_e {n : Nat} {K Q : Nat → Int} {m : Nat} {K' Q' : Nat → Int} {c : Nat} {Kc Qc : Nat → Int} {last : Int} (h : cp n K Q m K' Q' c Kc Qc last) (hd : nD n K Q m K' Q' last (-1)) : ∀ k, -1 < k → ∀ v, pM n K Q k v → pM c Kc Qc k v := by
  obtain ⟨h1, h2⟩ := h
  intro k k1 v g
  by_cases y : k ≤ last
  · exact h2 k k1 y v g
  · rcases hd with ⟨_, d⟩ | ⟨_, d, _⟩
    · obtain ⟨x, gx⟩ := pM_ex (K := K') (Q := Q') (k := k) m
      have ex := d k (by omega) v x g gx
      rw [ex]
      exact h1 k (by omega) x gx
    · omega
/-- a difference is a key of one of the two: a turn of the telling passes it -/
theorem nD_pl {n : Nat} {K Q : Nat → Int} {m : Nat} {K' Q' : Nat → Int} {last key : Int} {p p' : Nat} (hS : pS n K) (hS' : pS m K') (hp : pl n K last p) (hp' : pl m K' last p') (hd : nD n K Q m K' Q' last key) (hk : key ≠ -1) : ∃ q q', pl n K key q ∧ pl m K' key q' ∧ p + p' + 1 ≤ q + q' := by
  rcases hd with ⟨d1, _⟩ | ⟨d1, d2, d3, d4, d5⟩
  · exact absurd d1 hk
  · obtain ⟨q, q1⟩ := pl_ex (c := key) n hS
    obtain ⟨t, t1⟩ := pl_ex (c := key) m hS'
    have up : ∀ {n : Nat} {K : Nat → Int} {p q : Nat}, pl n K last p → pl n K key q → p ≤ q := by
      intro n K p q a b
      by_cases y : q < p
      · have := b.2.2 (by have := a.1; omega)
        have := a.2.1 q y
        omega
      · omega
    have u1 := up hp q1
    have u2 := up hp' t1
    refine ⟨q, t, q1, t1, ?_⟩
    by_cases y : p + p' + 1 ≤ q + t
    · exact y
    · exfalso
      have e1 : q = p := by omega
      have e2 : t = p' := by omega
      have ab : ∀ {n : Nat} {K Q : Nat → Int} {p : Nat}, pS n K → pl n K last p → pl n K key p → ∀ v, pM n K Q key v → v = 0 := by
        intro n K Q p s a b v g
        rcases g with ⟨i, i1, i2, _⟩ | ⟨_, z⟩
        · exfalso
          by_cases x : i < p
          · have := a.2.1 i x; omega
          · have w : p < n := by omega
            have h1 := b.2.2 w
            by_cases x2 : i = p
            · subst x2; omega
            · have h2 := s p i (by omega) i1
              omega
        · exact z
      rw [e1] at q1
      rw [e2] at t1
      exact d4 (fun v w g1 g2 => by rw [ab hS hp q1 v g1, ab hS' hp' t1 w g2])
