/-! the second hall's cells are known -/
section ACP3
variable {l : Launch} {ν : ab_N} {σ σ' : mS}
def ac_upB : Bool := (Nat.ble ac_KB.1.length 22 && Nat.ble ac_KB.2.length 22) && ((List.range 22).all (fun c => (ac_rw ac_KB c).all (fun g => ((Nat.beq c 1 || ab_le ((g.2.2.1 : Int) + 1) (ad_cA c)) && (!(Nat.beq c 11 && (Nat.ble g.2.2.2.1 2 && Nat.ble 2 g.2.2.2.2.1)) && (ac_rw ac_K0 c).any (ac_gImp g))) || ac_rwB.any (fun b => Nat.beq b.1 c && ac_gImp g b))) &&
  (List.range 22).all (fun c => (ac_ln ac_KB c).all (fun q => Nat.ble 13 c && ((ab_le ((q.2.1 : Int) + 1) (ad_cA c) && (ac_ln ac_K0 c).any (ac_eq3 q)) || ac_lnB.any (fun p => Nat.beq p.1 c && ac_eq3 q p.2)))))
theorem ac_upB_t : ac_upB = true := by decide +kernel
theorem ac_KKup (h : ac_KK ac_K0 σ) (hf : ad_fr σ σ') (hr : ∀ g ∈ ac_rwB, ∀ i k, g.2.1 ≤ i → i ≤ g.2.2.1 → g.2.2.2.1 ≤ k → k ≤ g.2.2.2.2.1 → ab_Tr g.2.2.2.2.2 (m_get σ' g.1 i k)) (hn : ∀ q ∈ ac_lnB, ∀ i, q.2.1 ≤ i → i ≤ q.2.2.1 → σ'.2.1 q.1 i = q.2.2.2) : ac_KK ac_KB σ' := by
  have hc := ac_upB_t
  unfold ac_upB at hc
  simp only [Bool.and_eq_true, Nat.ble_eq] at hc
  obtain ⟨⟨c0, c1⟩, c2, c3⟩ := hc
  refine ⟨fun c l hl g hg i k h1 h2 h3 h4 => ?_, fun c l hl q hq i h1 h2 => ?_, fun k hk => ?_⟩
  · have hlt := (List.getElem?_eq_some_iff.mp hl).1
    have b := List.all_eq_true.mp c2 c (List.mem_range.mpr (by omega))
    have e1 : ac_rw ac_KB c = l := by unfold ac_rw; rw [hl]
    rw [e1] at b
    rcases (Bool.or_eq_true _ _).mp (List.all_eq_true.mp b g hg) with b | b
    · rw [Bool.and_eq_true, Bool.and_eq_true] at b
      obtain ⟨b1, b2, b3⟩ := b
      obtain ⟨w, w1, w2⟩ := List.any_eq_true.mp b3
      have old : c = 1 ∨ i < σ.1 c := by
        rcases (Bool.or_eq_true _ _).mp b1 with b1 | b1
        · exact Or.inl (Nat.eq_of_beq_eq_true b1)
        · rw [ab_le_ok] at b1
          by_cases h9 : c = 1
          · exact Or.inl h9
          · have := hf.1 c (by omega) h9
            exact Or.inr (by omega)
      rw [hf.2.2.2.2 c i k old (fun z => by
        obtain ⟨z1, z2⟩ := z
        subst z1; subst z2
        have q : (Nat.beq 11 11 && (Nat.ble g.2.2.2.1 2 && Nat.ble 2 g.2.2.2.2.1)) = true := by
          simp only [Bool.and_eq_true, Nat.ble_eq]
          exact ⟨rfl, h3, h4⟩
        rw [q] at b2
        cases b2)]
      exact ac_rw_ok h.1 w1 w2 i k h1 h2 h3 h4
    · obtain ⟨w, w1, w2⟩ := List.any_eq_true.mp b
      rw [Bool.and_eq_true] at w2
      obtain ⟨w2, w3⟩ := w2
      have e := Nat.eq_of_beq_eq_true w2
      unfold ac_gImp at w3
      simp only [Bool.and_eq_true, Nat.ble_eq] at w3
      obtain ⟨g1, g2, g3, g4, g5⟩ := w3
      have t := hr w w1 i k (by omega) (by omega) (by omega) (by omega)
      rw [e] at t
      exact ab_Tle_ok g5 t
  · have hlt := (List.getElem?_eq_some_iff.mp hl).1
    have b := List.all_eq_true.mp c3 c (List.mem_range.mpr (by omega))
    have e1 : ac_ln ac_KB c = l := by unfold ac_ln; rw [hl]
    rw [e1] at b
    have b := List.all_eq_true.mp b q hq
    rw [Bool.and_eq_true, Nat.ble_eq] at b
    refine ⟨b.1, ?_⟩
    rcases (Bool.or_eq_true _ _).mp b.2 with b2 | b2
    · rw [Bool.and_eq_true, ab_le_ok] at b2
      obtain ⟨w, w1, w2⟩ := List.any_eq_true.mp b2.2
      unfold ac_eq3 at w2
      simp only [Bool.and_eq_true] at w2
      have d1 := Nat.eq_of_beq_eq_true w2.1
      have d2 := Nat.eq_of_beq_eq_true w2.2.1
      have d3 := Nat.eq_of_beq_eq_true w2.2.2
      have c9 := hf.1 c (by omega) (by omega)
      rw [hf.2.2.2.1 c i (Or.inr (by omega)), d3]
      unfold ac_ln at w1
      cases hk : ac_K0.2[c]? with
      | none => rw [hk] at w1; cases w1
      | some lb =>
        rw [hk] at w1
        exact (h.2.1 c lb hk w w1 i (by omega) (by omega)).2
    · obtain ⟨p, p1, p2⟩ := List.any_eq_true.mp b2
      unfold ac_eq3 at p2
      simp only [Bool.and_eq_true] at p2
      have d0 := Nat.eq_of_beq_eq_true p2.1
      have d1 := Nat.eq_of_beq_eq_true p2.2.1
      have d2 := Nat.eq_of_beq_eq_true p2.2.2.1
      have d3 := Nat.eq_of_beq_eq_true p2.2.2.2
      have t := hn p p1 i (by omega) (by omega)
      rw [d0] at t
      rw [t, d3]
  · have o12 : (σ.1 12 : Int) = 1 := hf.1 12 (by decide) (by decide)
    have o13 : (σ.1 13 : Int) = 42 := hf.1 13 (by decide) (by decide)
    have e1 : m_get σ' 12 0 ac_TR = m_get σ 12 0 ac_TR := hf.2.2.2.2 12 0 ac_TR (Or.inr (by omega)) (fun z => by cases z.1)
    have e2 : m_get σ' 13 ac_TF k = m_get σ 13 ac_TF k := hf.2.2.2.2 13 ac_TF k (Or.inr (by unfold ac_TF; omega)) (fun z => by cases z.1)
    rw [e2]
    unfold ac_tr at hk
    rw [e1] at hk
    exact h.2.2 k hk
theorem ac_cnH : ac_HR.1.all (fun q => Nat.beq q.2.1 0 && ac_cnA.any (fun p => Nat.beq p.1 q.1 && (ab_le (p.2 : Int) q.2.2 && ab_le q.2.2 (p.2 : Int)))) = true := by decide +kernel
theorem ac_cnF : (List.range 22).all (fun c => Nat.beq c 1 || ac_cnA.any (fun p => Nat.beq p.1 c && (ab_le (p.2 : Int) (ad_cA c) && ab_le (ad_cA c) (p.2 : Int)))) = true := by decide +kernel
theorem ac_hpR (hM : ac_MdA σ) : ad_hp σ 1 (fun _ => 0) ac_HR σ := by
  refine ⟨⟨fun q hq => ?_, fun q hq => (by cases hq), fun g hg => (by cases hg), fun o ho => ?_⟩, fun c h1 h2 => ?_, fun c => Nat.le_refl _, rfl, fun c i _ => rfl, fun c i k _ _ => rfl⟩
  · have g := List.all_eq_true.mp ac_cnH q hq
    rw [Bool.and_eq_true] at g
    obtain ⟨g1, g2⟩ := g
    obtain ⟨p, p1, p2⟩ := List.any_eq_true.mp g2
    simp only [Bool.and_eq_true, ab_le_ok] at p2
    have e := Nat.eq_of_beq_eq_true p2.1
    have e0 := Nat.eq_of_beq_eq_true g1
    have c := hM.2 p p1
    rw [e] at c
    refine ⟨by rw [e0]; exact Nat.zero_lt_one, ?_⟩
    show (σ.1 q.1 : Int) = 0 + q.2.2
    rw [c]
    omega
  · have e := List.mem_singleton.mp ho
    subst e
    show ab_Vr 1 (fun _ => 0) (.inr (.inr (.inl (0, (0, 0), (0, 0))))) (m_get σ 11 0 2)
    rw [hM.1]
    exact ⟨Nat.zero_lt_one, Nat.zero_lt_one, rfl⟩
  · have g := List.all_eq_true.mp ac_cnF c (List.mem_range.mpr h1)
    rcases (Bool.or_eq_true _ _).mp g with g | g
    · exact absurd (Nat.eq_of_beq_eq_true g) h2
    · obtain ⟨p, p1, p2⟩ := List.any_eq_true.mp g
      simp only [Bool.and_eq_true, ab_le_ok] at p2
      have e := Nat.eq_of_beq_eq_true p2.1
      have c9 := hM.2 p p1
      rw [e] at c9
      rw [c9]
      omega
end ACP3
