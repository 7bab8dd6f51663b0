/-! the law's beginning -/
def ac_nl (g : ab_G) : ab_G := bif Nat.beq g.2.2.2.2.2.1 2 && Nat.beq g.2.2.2.2.2.2.2.2.2.1 0 then (g.1, g.2.1, g.2.2.1, g.2.2.2.1, g.2.2.2.2.1, (2, 0, 0, 0, 0, 0)) else g
theorem ac_nl_ok {g : ab_G} {x : mV} (h : ab_Tr (ac_nl g).2.2.2.2.2 x) : ab_Tr g.2.2.2.2.2 x := by
  unfold ac_nl at h
  cases hb : (Nat.beq g.2.2.2.2.2.1 2 && Nat.beq g.2.2.2.2.2.2.2.2.2.1 0) with
  | false => rw [hb] at h; exact h
  | true =>
    rw [hb] at h
    rw [Bool.and_eq_true] at hb
    rcases x with y | y | r
    · cases h.1
    · cases h.1
    · cases r with
      | none => exact ⟨Nat.eq_of_beq_eq_true hb.1, Nat.eq_of_beq_eq_true hb.2⟩
      | some p => cases h.2.1
theorem ac_nl_rg (g : ab_G) : (ac_nl g).1 = g.1 ∧ (ac_nl g).2.1 = g.2.1 ∧ (ac_nl g).2.2.1 = g.2.2.1 ∧ (ac_nl g).2.2.2.1 = g.2.2.2.1 ∧ (ac_nl g).2.2.2.2.1 = g.2.2.2.2.1 := by
  unfold ac_nl
  cases (Nat.beq g.2.2.2.2.2.1 2 && Nat.beq g.2.2.2.2.2.2.2.2.2.1 0) <;> exact ⟨rfl, rfl, rfl, rfl, rfl⟩
def ac_exA : List ab_G := [(11, 0, 0, 2, 2, (2, 0, 0, 0, 0, 0)), (12, 0, 0, 35, 35, (0, 0, 0, 0, 0, 0)), (12, 0, 0, 50, 50, (0, 0, 0, 0, 0, 0)), (13, 41, 41, 0, 0, (0, 0, 0, 0, 0, 0)), (13, 41, 41, 1, 1, (0, 0, 0, 0, 0, 0)), (12, 0, 0, 46, 46, (0, 0, 0, 0, 0, 0)), (13, 21, 21, 0, 0, (0, 0, 0, 0, 0, 0)), (13, 21, 21, 1, 1, (0, 0, 0, 0, 0, 0)), (13, 21, 21, 2, 2, (0, 0, 0, 0, 0, 0)), (13, 22, 22, 0, 0, (0, 0, 1, 1, 0, 0)), (13, 22, 22, 1, 1, (0, 0, 1, 1, 0, 0)), (13, 22, 22, 2, 2, (0, 0, 1, 1, 0, 0)), (11, 0, 0, 4, 4, (2, 0, 0, 0, 0, 0)), (11, 0, 0, 5, 5, (0, 0, 0, 0, 0, 0))]
def ac_MdA (σ : mS) : Prop := m_get σ 11 0 2 = .inr (.inr none) ∧ ∀ q ∈ ac_cnA, σ.1 q.1 = q.2
def ac_HG : ab_H := ((1, (0, 0)) :: ac_cnA.map (fun q => (q.1, (0, (q.2 : Int)))), ac_lnA, ac_K0.1.flatten.map ac_nl ++ ac_exA, [])
def ac_L0m : List (Option ab_V) := [some (.inr (.inr (.inl (98, (0, 0), (0, 1))))), some (.inr (.inr (.inl (11, (0, 0), (0, 1))))), some (.inr (.inr (.inl (12, (0, 0), (0, 1))))), some (.inr (.inr (.inl (14, (0, 22), (0, 1))))), some (.inl (0, 0)), none, none, none]
def ac_ckA (S : ab_S) : Bool := Nat.beq S.2.1 23 && (ab_ckL ac_L0m S.2.2.1 && (S.2.2.2.1.isEmpty && (ab_imp2 S.1 S.2.2.2.2.1 ac_HG && (Nat.beq S.2.2.2.2.2.1 414 && Nat.beq S.2.2.2.2.2.2 251731))))
def ac_cA (j pc : Nat) : Bool := Nat.beq j 999 && Nat.beq pc 23
def ac_C0s : ab_C := ([(0, 0), (0, 4096)], [], [])
def ac_S0 : ab_S := (ac_C0s, 0, [some (.inr (.inr (.inl (98, (0, 0), (0, 1))))), none, none, none, none, none, none, none], [], ac_H0, 0, 0)
def ac_outA : Option (List ab_Z) := bb_go st_gd (ab_SPx [ac_eA2]) ac_LPn ac_PLn ac_ABt ac_cA 4000 true 999 ac_main0 [] ac_S0
def ac_isA (z : ab_Z) : Bool := match z with
  | .inr S => ac_ckA S
  | .inl _ => false
theorem ac_stA : (match ac_outA with
  | some l => l.all ac_isA
  | none => false) = true := by decide +kernel
theorem ac_K0c : (Nat.ble ac_K0.1.length 22 && (List.range 22).all (fun c => (ac_rw ac_K0 c).all (fun g => Nat.beq g.1 c))) = true := by decide +kernel
theorem ac_K0l : (Nat.ble ac_K0.2.length 22 && (List.range 22).all (fun c => (ac_ln ac_K0 c).all (fun q => Nat.ble 13 c && ac_lnA.any (fun p => Nat.beq p.1 c && (Nat.beq p.2.1 q.1 && (Nat.beq p.2.2.1 q.2.1 && Nat.beq p.2.2.2 q.2.2)))))) = true := by decide +kernel
section ACN
variable {xs : ab_X} {C : ab_C} {ν : ab_N} {J : Nat → List (Option mV) → List mV → mS → Nat → Nat → Prop} {l : Launch} {Lc : List (Option mV)} {σ : mS} {n L : Nat} {fc : Nat → Int32}
theorem ac_exG (h : ab_hp n ν ac_HG σ) {g : ab_G} (hg : g ∈ ac_exA) : ∀ i k, g.2.1 ≤ i → i ≤ g.2.2.1 → g.2.2.2.1 ≤ k → k ≤ g.2.2.2.2.1 → ab_Tr g.2.2.2.2.2 (m_get σ g.1 i k) := h.2.2.1 g (List.mem_append_right _ hg)
theorem ac_exV (h : ab_hp n ν ac_HG σ) {c i k lo hi kl kh : Nat} {z : Int} (hg : (c, lo, hi, kl, kh, ((0, 0, z, z, 0, 0) : ab_T)) ∈ ac_exA) (h1 : lo ≤ i) (h2 : i ≤ hi) (h3 : kl ≤ k) (h4 : k ≤ kh) : ∃ y : Int32, m_get σ c i k = .inl y ∧ y.toInt = z := by
  have g := ac_exG h hg i k h1 h2 h3 h4
  obtain ⟨y, y1, y2, y3⟩ := ac_TI_ok (lo := z) (hi := z) g
  exact ⟨y, y1, by omega⟩
theorem ac_hpG (h : ab_hp n ν ac_HG σ) (h0 : ν 0 = 0) : ac_KK ac_K0 σ ∧ ac_MdA σ ∧ σ.1 1 = 0 := by
  have hc := ac_K0c
  have hl := ac_K0l
  rw [Bool.and_eq_true, Nat.ble_eq] at hc hl
  refine ⟨⟨fun c l hcl g hg i k h1 h2 h3 h4 => ?_, fun c l hcl q hq i h1 h2 => ?_, fun k hk => ?_⟩, ⟨?_, fun q hq => ?_⟩, ?_⟩
  · have hlt := (List.getElem?_eq_some_iff.mp hcl).1
    have e1 : ac_rw ac_K0 c = l := by unfold ac_rw; rw [hcl]
    have b := List.all_eq_true.mp hc.2 c (List.mem_range.mpr (by omega))
    rw [e1] at b
    have e2 := Nat.eq_of_beq_eq_true (List.all_eq_true.mp b g hg)
    obtain ⟨r1, r2, r3, r4, r5⟩ := ac_nl_rg g
    have hm : ac_nl g ∈ ac_HG.2.2.1 := List.mem_append_left _ (List.mem_map.mpr ⟨g, List.mem_flatten.mpr ⟨l, List.mem_of_getElem? hcl, hg⟩, rfl⟩)
    have t := h.2.2.1 (ac_nl g) hm i k (by omega) (by omega) (by omega) (by omega)
    rw [r1, e2] at t
    exact ac_nl_ok t
  · have hlt := (List.getElem?_eq_some_iff.mp hcl).1
    have e1 : ac_ln ac_K0 c = l := by unfold ac_ln; rw [hcl]
    have b := List.all_eq_true.mp hl.2 c (List.mem_range.mpr (by omega))
    rw [e1] at b
    have b := List.all_eq_true.mp b q hq
    rw [Bool.and_eq_true, Nat.ble_eq] at b
    obtain ⟨p, p1, p2⟩ := List.any_eq_true.mp b.2
    simp only [Bool.and_eq_true] at p2
    have d1 := Nat.eq_of_beq_eq_true p2.1
    have d2 := Nat.eq_of_beq_eq_true p2.2.1
    have d3 := Nat.eq_of_beq_eq_true p2.2.2.1
    have d4 := Nat.eq_of_beq_eq_true p2.2.2.2
    rw [← d1, ← d4]
    exact ⟨by rw [d1]; exact b.1, h.2.1 p p1 i (by omega) (by omega)⟩
  · obtain ⟨y, y1, y2⟩ := ac_exV (c := 12) (i := 0) (k := 35) (lo := 0) (hi := 0) (kl := 35) (kh := 35) (z := 0) h (by decide) (by decide) (by decide) (by decide) (by decide)
    have y1 : m_get σ 12 0 ac_TR = .inl y := y1
    unfold ac_tr at hk
    rw [y1] at hk
    dsimp only at hk
    omega
  · have g := ac_exG (g := (11, 0, 0, 2, 2, (2, 0, 0, 0, 0, 0))) h (by decide) 0 2 (by decide) (by decide) (by decide) (by decide)
    have g : ab_Tr (2, 0, 0, 0, 0, 0) (m_get σ 11 0 2) := g
    generalize m_get σ 11 0 2 = x at g
    rcases x with y | y | r
    · cases g.1
    · cases g.1
    · cases r with
      | none => rfl
      | some p => cases g.2.1
  · have g := h.1 (q.1, (0, (q.2 : Int))) (List.mem_cons_of_mem _ (List.mem_map.mpr ⟨q, hq, rfl⟩))
    have g2 : (σ.1 q.1 : Int) = ν 0 + (q.2 : Int) := g.2
    rw [h0] at g2
    omega
  · have g := h.1 (1, (0, 0)) List.mem_cons_self
    have g2 : (σ.1 1 : Int) = ν 0 + 0 := g.2
    rw [h0] at g2
    omega
theorem ac_nul (h : ab_hp n ν ac_HG σ) {c i k : Nat} (hg : (c, i, i, k, k, ((2, 0, 0, 0, 0, 0) : ab_T)) ∈ ac_exA) : m_get σ c i k = .inr (.inr none) := by
  have g := ac_exG h hg i k (Nat.le_refl _) (Nat.le_refl _) (Nat.le_refl _) (Nat.le_refl _)
  have g : ab_Tr (2, 0, 0, 0, 0, 0) (m_get σ c i k) := g
  generalize m_get σ c i k = x at g
  rcases x with y | y | r
  · cases g.1
  · cases g.1
  · cases r with
    | none => rfl
    | some p => cases g.2.1
theorem kk_rh : kk_has 11 0 0 0 (2, 4, 0, 0, 1, 1) = true := by decide +kernel
theorem hc_rh {σ : mS} (h : ac_KK ac_K0 σ) : m_get σ 11 0 0 = rf 4 0 := by
  have g := kk_row h kk_rh (Nat.le_refl 0) (Nat.le_refl 0)
  obtain ⟨r, e⟩ := gt_r (c := 11) (k := 0) rfl σ 0
  rw [e] at g ⊢
  cases r with
  | none => cases g.2
  | some q =>
    obtain ⟨q1, q2⟩ := q
    obtain ⟨-, -, a3, -, a5⟩ := g
    have a3 : q1 = 4 := a3
    have a5 : (q2 : Int) ≤ 0 := a5
    have : q2 = 0 := by omega
    subst a3; subst this
    rfl
theorem iv_0 (h : ab_hp n ν ac_HG σ) (h0 : ν 0 = 0) (hG : Gs σ) : hx (fun _ => 0) σ ∧ iv σ σ := by
  obtain ⟨k1, ⟨k2, k4⟩, k3⟩ := ac_hpG h h0
  have c17 : σ.1 17 = 1 := k4 (17, 1) (by decide)
  rcases hG with hG | ⟨hx0, -⟩
  · rw [c17] at hG; cases hG
  · refine ⟨hx0, ⟨0, Nat.zero_le _, rp_I0 (gt_r rfl σ 0) ?_ (hc_rh k1) k2 (ac_nul h (by decide)) k4⟩, fun p hp => ?_, hx_hy hx0⟩
    · obtain ⟨y, y1, y2⟩ := ac_exV (c := 11) (i := 0) (k := 5) (lo := 0) (hi := 0) (kl := 5) (kh := 5) (z := 0) h (by decide) (by decide) (by decide) (by decide) (by decide)
      rw [y1]
      have e : y = 0 := Int32.toInt_inj.mp (by rw [y2]; rfl)
      rw [e]
    · have g := (hx0.2.2.2.2.2.2.2.2.1 p hp).2.2.2 7 (by decide) (by decide)
      simp only [Nat.zero_add] at g
      exact g
def ac_ν0 (L : Nat) : ab_N := fun j => if j = 1 then (L : Int) else if 11 ≤ j ∧ j ≤ 13 then 1 else 0
theorem ac_At0 (h : ab_hp n ν ac_HG σ) (h0 : ν 0 = 0) (hLs : ab_Ls n ν ac_L0m Lc) (hI9 : iv σ σ) : ac_At σ L 0 (ac_ν0 L) Lc σ := by
  obtain ⟨k1, k2, k3⟩ := ac_hpG h h0
  have z : ∀ j, j ≠ 1 → ¬ (11 ≤ j ∧ j ≤ 13) → ac_ν0 L j = 0 := fun j h1 h2 => by unfold ac_ν0; rw [if_neg h1, if_neg h2]
  have o : ∀ j, 11 ≤ j → j ≤ 13 → ac_ν0 L j = 1 := fun j h1 h2 => by unfold ac_ν0; rw [if_neg (by omega), if_pos ⟨h1, h2⟩]
  have mk : ∀ (c i k j : Nat) (v : Int), (∃ y : Int32, m_get σ c i k = .inl y ∧ y.toInt = v) → ac_ν0 L j = v → j < 14 → ac_ov 14 (ac_ν0 L) σ (c, (0, (i : Int)), (0, (k : Int)), .inl (j, 0)) := by
    intro c i k j v hy hv hj
    obtain ⟨y, y1, y2⟩ := hy
    refine ⟨⟨Nat.zero_lt_succ _, hj⟩, Nat.zero_lt_succ _, fun i' k' hi hk => ?_⟩
    have e1 : i' = i := by
      have hi : (i' : Int) = ac_ν0 L 0 + (i : Int) := hi
      rw [z 0 (by decide) (by decide)] at hi
      omega
    have e2 : k' = k := by
      have hk : (k' : Int) = ac_ν0 L 0 + (k : Int) := hk
      rw [z 0 (by decide) (by decide)] at hk
      omega
    subst e1; subst e2
    show ab_Vr 14 (ac_ν0 L) (.inl (j, 0)) (m_get σ c i' k')
    rw [y1]
    exact ⟨hj, by show y.toInt = ac_ν0 L j + 0; omega⟩
  have rel : ∀ a b, ac_ν0 L a = 0 → ac_ν0 L b = 1 → ac_Rel (ac_ν0 L a) (ac_ν0 L b) := fun a b h1 h2 => by
    rw [h1, h2]
    exact ⟨by decide, by decide, by decide, by decide⟩
  have r : ∀ (c i : Nat) (hc : (0 : Int) = 0), ab_Vr 14 (ac_ν0 L) (.inr (.inr (.inl (c, (0, (i : Int)), (0, 1))))) (.inr (.inr (some (c, i)))) := fun c i _ => ⟨Nat.zero_lt_succ _, Nat.zero_lt_succ _, by show ac_ν0 L 0 + 1 = 1; rw [z 0 (by decide) (by decide)]; rfl, rfl, by show (i : Int) = ac_ν0 L 0 + (i : Int); rw [z 0 (by decide) (by decide)]; omega⟩
  refine ⟨⟨rfl, z 2 (by decide) (by decide)⟩, ⟨⟨z 0 (by decide) (by decide), ?_, ?_, ?_, ?_⟩, ⟨?_, ?_, ?_, ?_, ?_, ?_⟩, rel 8 11 (z 8 (by decide) (by decide)) (o 11 (by decide) (by decide)), rel 9 12 (z 9 (by decide) (by decide)) (o 12 (by decide) (by decide)), rel 10 13 (z 10 (by decide) (by decide)) (o 13 (by decide) (by decide))⟩, ?_, ⟨k1, ac_fr.rf, ?_, ?_, fun g hg => by cases hg⟩, hI9⟩
  · rw [z 3 (by decide) (by decide)]; decide
  · rw [z 3 (by decide) (by decide)]; decide
  · rw [z 4 (by decide) (by decide)]; decide
  · rw [z 4 (by decide) (by decide)]; decide
  · rw [z 5 (by decide) (by decide)]; decide
  · rw [z 5 (by decide) (by decide)]; decide
  · rw [z 6 (by decide) (by decide)]; decide
  · rw [z 6 (by decide) (by decide)]; decide
  · rw [z 7 (by decide) (by decide)]; decide
  · rw [z 7 (by decide) (by decide)]; decide
  · refine ⟨hLs.1, fun i v hv => ?_⟩
    have ref : ∀ (j c m : Nat), ac_L0m[j]? = some (some (.inr (.inr (.inl (c, (0, (m : Int)), (0, 1)))))) → ∃ x, m_ld Lc j = some x ∧ ab_Vr 14 (ac_ν0 L) (.inr (.inr (.inl (c, (0, (m : Int)), (0, 1))))) x := by
      intro j c m hj
      obtain ⟨x, x1, x2⟩ := hLs.2 j _ hj
      obtain ⟨q, rfl, g⟩ := ab_Va x2
      cases q with
      | none =>
        have g3 : ν 0 + 1 = 0 := g.2.2
        rw [h0] at g3
        cases g3
      | some p =>
        obtain ⟨p1, p2⟩ := p
        obtain ⟨-, -, -, g4, g5⟩ := g
        have g4 : p1 = c := g4
        have g5 : (p2 : Int) = ν 0 + (m : Int) := g5
        rw [h0] at g5
        have e2 : p2 = m := by omega
        subst g4; subst e2
        exact ⟨_, x1, r p1 p2 rfl⟩
    match i, hv with
    | 0, hv => cases hv; exact ref 0 98 0 rfl
    | 1, hv => cases hv; exact ref 1 11 0 rfl
    | 2, hv => cases hv; exact ref 2 12 0 rfl
    | 3, hv => cases hv; exact ref 3 14 22 rfl
    | 4, hv =>
      cases hv
      obtain ⟨x, x1, x2⟩ := hLs.2 4 (.inl (0, 0)) rfl
      obtain ⟨y, rfl, g⟩ := ab_Vi x2
      refine ⟨_, x1, (by decide : 2 < 14), ?_⟩
      show y.toInt = ac_ν0 L 2 + 0
      rw [z 2 (by decide) (by decide)]
      have g2 : y.toInt = ν 0 + 0 := g.2
      rw [h0] at g2
      exact g2
    | 5, hv => cases hv
    | 6, hv => cases hv
    | 7, hv => cases hv
    | i + 8, hv => cases hv
  · show ab_I 14 (ac_ν0 L) (3, 0) (σ.1 1 : Int)
    rw [k3]
    exact ⟨by decide, by show (0 : Int) = ac_ν0 L 3 + 0; rw [z 3 (by decide) (by decide)]; rfl⟩
  · intro q hq
    have V := fun (c i k lo hi kl kh : Nat) (v : Int) (hg : (c, lo, hi, kl, kh, ((0, 0, v, v, 0, 0) : ab_T)) ∈ ac_exA) (h1 : lo ≤ i) (h2 : i ≤ hi) (h3 : kl ≤ k) (h4 : k ≤ kh) => ac_exV (c := c) (i := i) (k := k) h hg h1 h2 h3 h4
    have hq : q ∈ ac_OT := hq
    unfold ac_OT at hq
    rcases List.mem_cons.mp hq with rfl | hq
    · exact mk 12 0 50 4 0 (V 12 0 50 0 0 50 50 0 (by decide) (by decide) (by decide) (by decide) (by decide)) (z 4 (by decide) (by decide)) (by decide)
    rcases List.mem_cons.mp hq with rfl | hq
    · exact mk 13 41 0 5 0 (V 13 41 0 41 41 0 0 0 (by decide) (by decide) (by decide) (by decide) (by decide)) (z 5 (by decide) (by decide)) (by decide)
    rcases List.mem_cons.mp hq with rfl | hq
    · exact mk 13 41 1 6 0 (V 13 41 1 41 41 1 1 0 (by decide) (by decide) (by decide) (by decide) (by decide)) (z 6 (by decide) (by decide)) (by decide)
    rcases List.mem_cons.mp hq with rfl | hq
    · exact mk 12 0 46 7 0 (V 12 0 46 0 0 46 46 0 (by decide) (by decide) (by decide) (by decide) (by decide)) (z 7 (by decide) (by decide)) (by decide)
    rcases List.mem_cons.mp hq with rfl | hq
    · exact mk 13 21 0 8 0 (V 13 21 0 21 21 0 0 0 (by decide) (by decide) (by decide) (by decide) (by decide)) (z 8 (by decide) (by decide)) (by decide)
    rcases List.mem_cons.mp hq with rfl | hq
    · exact mk 13 21 1 9 0 (V 13 21 1 21 21 1 1 0 (by decide) (by decide) (by decide) (by decide) (by decide)) (z 9 (by decide) (by decide)) (by decide)
    rcases List.mem_cons.mp hq with rfl | hq
    · exact mk 13 21 2 10 0 (V 13 21 2 21 21 2 2 0 (by decide) (by decide) (by decide) (by decide) (by decide)) (z 10 (by decide) (by decide)) (by decide)
    rcases List.mem_cons.mp hq with rfl | hq
    · exact mk 13 22 0 11 1 (V 13 22 0 22 22 0 0 1 (by decide) (by decide) (by decide) (by decide) (by decide)) (o 11 (by decide) (by decide)) (by decide)
    rcases List.mem_cons.mp hq with rfl | hq
    · exact mk 13 22 1 12 1 (V 13 22 1 22 22 1 1 1 (by decide) (by decide) (by decide) (by decide) (by decide)) (o 12 (by decide) (by decide)) (by decide)
    rcases List.mem_cons.mp hq with rfl | hq
    · exact mk 13 22 2 13 1 (V 13 22 2 22 22 2 2 1 (by decide) (by decide) (by decide) (by decide) (by decide)) (o 13 (by decide) (by decide)) (by decide)
    cases hq
/-- a hall is made: by runs -/
theorem gd0b_ok : bb_gok sm_all (fun _ _ _ => true) := fun _ _ _ _ _ _ _ _ _ _ _ _ _ => trivial
theorem ac_entA0 : bb_entB (fun _ _ _ => true) ab_SP0 ac_eA0 = true := by decide +kernel
theorem ac_entA1 : bb_entB (fun _ _ _ => true) ab_SP0 ac_eA1 = true := by decide +kernel
theorem ac_entA2 : bb_entB (fun _ _ _ => true) (ab_SPx [ac_eA0, ac_eA1]) ac_eA2 = true := by decide +kernel
theorem ac_SPA_ok : bb_SPok CA (ab_SPx [ac_eA0, ac_eA1]) := bb_SPx_ok ev_CC_rule gd0b_ok (bb_SP0_ok CA) (fun e he => by
  rcases List.mem_cons.mp he with rfl | he
  · exact ac_entA0
  · rcases List.mem_cons.mp he with rfl | he
    · exact ac_entA1
    · cases he)
theorem ac_SPH_ok : bb_SPok CA (ab_SPx [ac_eA2]) := bb_SPx_ok ev_CC_rule gd0b_ok ac_SPA_ok (fun e he => by
  rcases List.mem_cons.mp he with rfl | he
  · exact ac_entA2
  · cases he)
theorem ac_iA2c : ∀ q ∈ ([(4, 1), (0, 0), (2, 0), (6, 0), (7, 0), (8, 0), (10, 0), (13, 0), (14, 0), (16, 0), (17, 0), (18, 0), (20, 0), (21, 0)] : List (Nat × Nat)), (q.1, ((0, (q.2 : Int)) : ab_E)) ∈ ac_iA2.1 := by decide
theorem st_SP_ok {l : Launch} (hl : l.stackTraces = false) : bb_SPok (g_CC l Gs) (ab_SPx [ac_eA2]) := by
  intro j args C H outs hs xs ν avs σ hc ha hp Q hQ hG
  have hs0 := hs
  unfold ab_SPx at hs
  cases hf : ([ac_eA2] : List ab_Ent).find? (fun e => Nat.beq e.1 j && (ab_eVs e.2.1 args && ab_imp2 C H e.2.2.1)) with
  | none => rw [hf] at hs; cases hs
  | some e =>
  have m1 := List.mem_of_find?_eq_some hf
  have m2 := List.find?_some hf
  rw [Bool.and_eq_true, Bool.and_eq_true] at m2
  have em := List.mem_singleton.mp m1
  subst em
  have e1 := Nat.eq_of_beq_eq_true m2.1
  have e2 := ab_eVs_ok m2.2.1
  have hin := ab_imp2_ok hc hp m2.2.2
  have e1 : (58 : Nat) = j := e1
  subst e1
  subst e2
  have hav : avs = [rf 4 0] := by
    cases avs with
    | nil => exact ha.elim
    | cons x t =>
      cases t with
      | cons _ _ => exact ha.2.elim
      | nil =>
        obtain ⟨r, rfl, g⟩ := ab_Va ha.1
        cases r with
        | none =>
          have g3 : ν 0 + 1 = 0 := g.2.2
          rw [hc.1.1] at g3
          cases g3
        | some p =>
          obtain ⟨p1, p2⟩ := p
          obtain ⟨-, -, -, g4, g5⟩ := g
          have g4 : p1 = 4 := g4
          have g5 : (p2 : Int) = ν 0 + 0 := g5
          rw [hc.1.1] at g5
          have e2 : p2 = 0 := by omega
          subst g4; subst e2
          rfl
  subst hav
  have cn : ∀ q ∈ ([(4, 1), (0, 0), (2, 0), (6, 0), (7, 0), (8, 0), (10, 0), (13, 0), (14, 0), (16, 0), (17, 0), (18, 0), (20, 0), (21, 0)] : List (Nat × Nat)), σ.1 q.1 = q.2 := by
    intro q hq
    have g := hin.1 _ (ac_iA2c q hq)
    have g2 : (σ.1 q.1 : Int) = ν 0 + (q.2 : Int) := g.2
    rw [hc.1.1] at g2
    omega
  obtain ⟨x, σ', r, hQ'⟩ := ac_SPH_ok 58 _ C H outs hs0 xs ν [rf 4 0] σ hc ha hp Q hQ
  have c4 : σ.1 4 = 1 := cn (4, 1) (by decide)
  obtain ⟨τ, r2, x2, x3, -, -⟩ := hl_run (σ := σ) (h := 0) (by omega)
  obtain ⟨rfl, rfl⟩ := ev_run_uni r r2
  refine ev_run_con hl r ⟨Or.inr ⟨?_, ?_, ?_, ?_⟩, hQ'⟩
  · refine hx_cg (B' := fun _ => 0) (fun c hc' => ?_) x2
    show 0 = if c = 4 then 0 else σ.1 c
    by_cases e : c = 4
    · rw [if_pos e]
    · rw [if_neg e]
      have z0 : ∀ q ∈ ([(0, 0), (2, 0), (6, 0), (7, 0), (8, 0), (10, 0), (13, 0), (14, 0), (16, 0), (17, 0), (18, 0), (20, 0), (21, 0)] : List (Nat × Nat)), σ.1 q.1 = q.2 := fun q hq => cn q (List.mem_cons_of_mem _ hq)
      have hm : (c, 0) ∈ ([(0, 0), (2, 0), (6, 0), (7, 0), (8, 0), (10, 0), (13, 0), (14, 0), (16, 0), (17, 0), (18, 0), (20, 0), (21, 0)] : List (Nat × Nat)) := by
        simp only [List.mem_cons, List.mem_nil_iff, or_false] at hc'
        simp only [List.mem_cons, List.mem_nil_iff, or_false, Prod.mk.injEq, and_true]
        omega
      exact (z0 _ hm).symm
  · rw [x3 17, cn (17, 0) (by decide)]; decide
  · rw [x3 13, cn (13, 0) (by decide)]; decide
  · rw [x3 14, cn (14, 0) (by decide)]; decide
/-- from the law's entry to its loop -/
theorem ac_begin (hl : l.stackTraces = false) (hL : L ≤ 4096) (hJ : ab_cl l ac_main0 (some (L, fc)) ac_Qt J) (h1 : ν 1 = (L : Int)) (h : ab_cx (some (L, fc)) ac_C0s ν) (hLs : ab_Ls 2 ν ac_S0.2.2.1 Lc) (hp : ab_hp 2 ν ac_H0 σ) : J 0 Lc [] σ 0 0 := by
  have hA := ac_stA
  cases ho : ac_outA with
  | none => rw [ho] at hA; cases hA
  | some os =>
    rw [ho] at hA
    dsimp only at hA
    have hg : bb_go st_gd (ab_SPx [ac_eA2]) ac_LPn ac_PLn ac_ABt ac_cA 4000 true 999 ac_main0 [] ac_S0 = some os := ho
    have hGs : Gs σ := Or.inl (by
      have g := hp.1 (17, (0, 0)) (by decide)
      have g2 : (σ.1 17 : Int) = ν 0 + 0 := g.2
      rw [h.1.1] at g2
      omega)
    refine bb_go_ok (g_rule hl st_st) st_gd_ok (st_SP_ok hl) 4000 true 999 ac_main0 [] ac_S0 os hg _ _ ν Lc [] σ ac_Qt (g_J Gs J) (fun _ => rfl) (ac_xlT (C := ac_C0s) (by decide) hL h1) (g_cl st_st (fun _ _ _ h => h) hJ) (fun p hp => by cases hp) h hLs trivial hp (fun z hz => ?_) hGs
    have hz2 := List.all_eq_true.mp hA z hz
    cases z with
    | inl e => cases hz2
    | inr S =>
      have hz3 : ac_ckA S = true := hz2
      unfold ac_ckA at hz3
      simp only [Bool.and_eq_true] at hz3
      obtain ⟨c1, c2, c3, c4, c5, c6⟩ := hz3
      intro ν' Lc' sc' σ' u hL' hs' hp' hG'
      have e3 := List.isEmpty_iff.mp c3
      rw [e3] at hs'
      have e4 := ab_Vs_0 hs'
      subst e4
      have hB := ab_imp2_ok u.1 hp' c4
      obtain ⟨d1, d2⟩ := ab_ckL_at c2
      have hL2 : ab_Ls S.1.1.length ν' ac_L0m Lc' := ⟨hL'.1.trans d1, fun i v hv => hL'.2 i v (d2 i v hv)⟩
      rw [Nat.eq_of_beq_eq_true c1, Nat.eq_of_beq_eq_true c5, Nat.eq_of_beq_eq_true c6]
      obtain ⟨x9, i9⟩ := iv_0 hB u.1.1.1 hG'
      exact ac_law (σ9 := σ') hl hL hJ x9 ((ac_hpG hB u.1.1.1).2.2) 512 0 rfl (ac_ν0 L) Lc' σ' 414 251731 (ac_At0 hB u.1.1.1 hL2 i9) ⟨by decide, by decide⟩
end ACN
