/-! the replays -/
def ac_rc : ac_Ct := match ac_LB_6_0 with
  | ct :: _ => ct
  | [] => (0, [], [], none, [], [], none)
theorem ac_rcm : ac_rc ∈ ac_AB_6 := List.mem_append_left _ (show ac_rc ∈ ac_LB_6_0 from List.mem_cons_self)
def ac_WR : List ab_G := ac_rc.2.2.1
def ac_otB (o : ac_O) : Bool := Nat.beq o.2.1.1 0 && (Nat.beq o.2.2.1.1 0 && (!(Nat.beq o.1 1) && (!(Nat.beq o.1 11) && (ab_le ((o.2.1.2.toNat : Int) + 1) (ad_cA o.1) && (Nat.blt o.1 22 && ac_WR.all (fun b => !(Nat.beq b.1 o.1 && (Nat.ble b.2.1 o.2.1.2.toNat && (Nat.ble o.2.1.2.toNat b.2.2.1 && (Nat.ble b.2.2.2.1 o.2.2.1.2.toNat && Nat.ble o.2.2.1.2.toNat b.2.2.2.2.1))))))))))
theorem ac_otA : ac_OT.all ac_otB = true := by decide +kernel
theorem ac_subKB : ac_subK ac_KB ac_K0 = true := by decide +kernel
section ACP
variable {l : Launch} {ν : ab_N} {σ σ' : mS}
theorem ac_ovS (h0 : ν 0 = 0) (hs : ∀ o ∈ ac_OT, m_get σ' o.1 o.2.1.2.toNat o.2.2.1.2.toNat = m_get σ o.1 o.2.1.2.toNat o.2.2.1.2.toNat) (hO : ∀ o ∈ ac_OT, ac_ov 14 ν σ o) : ∀ o ∈ ac_OT, ac_ov 14 ν σ' o := by
  intro o ho
  obtain ⟨a1, a2, a3⟩ := hO o ho
  refine ⟨a1, a2, fun i k hi hk => ?_⟩
  have g := List.all_eq_true.mp ac_otA o ho
  unfold ac_otB at g
  simp only [Bool.and_eq_true] at g
  have e1 := Nat.eq_of_beq_eq_true g.1
  have e2 := Nat.eq_of_beq_eq_true g.2.1
  have hi2 := hi
  have hk2 := hk
  rw [e1, h0] at hi2
  rw [e2, h0] at hk2
  have d1 : i = o.2.1.2.toNat := by omega
  have d2 : k = o.2.2.1.2.toNat := by omega
  have s := hs o ho
  rw [← d1, ← d2] at s
  rw [s]
  exact a3 i k hi hk
theorem ac_otR (hf : ac_fr ac_WR σ σ') : ∀ o ∈ ac_OT, m_get σ' o.1 o.2.1.2.toNat o.2.2.1.2.toNat = m_get σ o.1 o.2.1.2.toNat o.2.2.1.2.toNat := by
  intro o ho
  have g := List.all_eq_true.mp ac_otA o ho
  unfold ac_otB at g
  simp only [Bool.and_eq_true, Bool.not_eq_true'] at g
  obtain ⟨-, -, g1, -, -, -, g2⟩ := g
  rcases hf.2.2.2 o.1 o.2.1.2.toNat o.2.2.1.2.toNat (fun z => by rw [z.1] at g1; cases g1) with e | ⟨b, b1, ⟨f1, f2, f3, f4, f5⟩, -⟩
  · exact e
  · have q := List.all_eq_true.mp g2 b b1
    have q2 : (Nat.beq b.1 o.1 && (Nat.ble b.2.1 o.2.1.2.toNat && (Nat.ble o.2.1.2.toNat b.2.2.1 && (Nat.ble b.2.2.2.1 o.2.2.1.2.toNat && Nat.ble o.2.2.1.2.toNat b.2.2.2.2.1)))) = true := by
      simp only [Bool.and_eq_true, Nat.ble_eq]
      exact ⟨by rw [f1]; exact Nat.beq_refl _, f2, f3, f4, f5⟩
    rw [q2] at q
    cases q
theorem ac_otD (hf : ad_fr σ σ') : ∀ o ∈ ac_OT, m_get σ' o.1 o.2.1.2.toNat o.2.2.1.2.toNat = m_get σ o.1 o.2.1.2.toNat o.2.2.1.2.toNat := by
  intro o ho
  have g := List.all_eq_true.mp ac_otA o ho
  unfold ac_otB at g
  simp only [Bool.and_eq_true, Bool.not_eq_true', ab_le_ok, Nat.blt_eq] at g
  obtain ⟨-, -, g1, g2, g3, g4, -⟩ := g
  have c := hf.1 o.1 g4 (fun z => by rw [z] at g1; cases g1)
  exact hf.2.2.2.2 o.1 _ _ (Or.inr (by omega)) (fun z => by rw [z.1] at g2; cases g2)
/-- what is held behind a replay -/
theorem ac_repEnd (h0 : ν 0 = 0) (hp : ac_hp ac_kT σ 14 ν ac_HT σ) (hK : ac_KK ac_KB σ') (hc : σ'.1 1 = σ.1 1) (hs : ∀ o ∈ ac_OT, m_get σ' o.1 o.2.1.2.toNat o.2.2.1.2.toNat = m_get σ o.1 o.2.1.2.toNat o.2.2.1.2.toNat) : ac_hp ac_kT σ' 14 ν ac_HT σ' := by
  refine ⟨ac_subK_ok hK ac_subKB, ac_fr.rf, ?_, ac_ovS h0 hs hp.2.2.2.1, fun g hg => by cases hg⟩
  have g : ab_I 14 ν (3, 0) (σ.1 1 : Int) := hp.2.2.1
  show ab_I 14 ν (3, 0) (σ'.1 1 : Int)
  rw [hc]
  exact g
theorem ac_repB (hl : l.stackTraces = false) (hp : ac_hp ac_kT σ 14 ν ac_HT σ) (h0 : ν 0 = 0) (hB : ac_KK ac_KB σ) {Q : mX → mS → Prop} (hQ : ∀ v σ', ac_hp ac_kT σ' 14 ν ac_HT σ' → ac_KK ac_KB σ' → Q (.inl (some (.inl v))) σ') : m_ConI l 157 [.inr (.inr (some (11, 0)))] σ Q := by
  refine ac_oB_6 hl ac_rc ac_rcm [.inr (.inr (some (11, 0)))] σ ⟨⟨rfl, rfl, rfl, Int.le_refl _, Int.le_refl _⟩, trivial⟩ hB trivial Q (fun x σ' hK hf hc hr => ?_)
  have hE := ac_repEnd h0 hp hK hc (ac_otR hf)
  cases x with
  | inr e => exact absurd hr (fun z => by cases z)
  | inl r =>
    obtain ⟨⟨t, t1, t2⟩, -⟩ := hr
    have t1 : some (some (0, 0, 0, 1, 0, 0)) = some t := t1
    cases t1
    cases r with
    | none => exact t2.elim
    | some w =>
      rcases w with y | y | y
      · exact hQ y σ' hE hK
      · cases t2.1
      · cases t2.1
/-! the second hall is made new -/
def ac_zRp : mAl := ((yX11_replays, cX11_replays, 3, some .boolean, { frames := 7, cells := 347, slots := 4031, locals := 190 }, []), rw_X11_replays, false)
theorem ac_zRp_at : m_alF[157]? = some ac_zRp := rfl
def ac_cR (j pc : Nat) : Bool := Nat.beq j 157 && Nat.beq pc 18
def ac_LR : List (Option ab_V) := [some (.inr (.inr (.inl (11, (0, 0), (0, 1))))), none, none]
def ac_SR0 : ab_S := (ab_Ce, 0, ac_LR, [], ac_HR, 0, 0)
def ac_HGB : ab_H := ([], ac_lnB, ac_rwB.map ac_nl, [])
def ac_outR : Option (List ab_Z) := ad_go (ab_SPx [ac_eB0, ac_eB1]) ac_LPn ac_PLn ac_ABt ac_cR 4000 false 157 ac_zRp [] ac_SR0
def ac_ckR (S : ab_S) : Bool := Nat.beq S.2.1 18 && (ab_ckL ac_LR S.2.2.1 && (S.2.2.2.1.isEmpty && (ab_imp2 S.1 S.2.2.2.2.1 ac_HGB && (Nat.beq S.2.2.2.2.2.1 347 && Nat.beq S.2.2.2.2.2.2 4031))))
def ac_isR (z : ab_Z) : Bool := match z with
  | .inr S => ac_ckR S
  | .inl _ => false
theorem ac_stR : (match ac_outR with
  | some l => l.all ac_isR
  | none => false) = true := by decide +kernel
def ac_upB : Bool := (Nat.ble ac_KB.1.length 22 && Nat.ble ac_KB.2.length 22) && ((List.range 22).all (fun c => (ac_rw ac_KB c).all (fun g => ((Nat.beq c 1 || ab_le ((g.2.2.1 : Int) + 1) (ad_cA c)) && (!(Nat.beq c 11 && (Nat.ble g.2.2.2.1 2 && Nat.ble 2 g.2.2.2.2.1)) && (ac_rw ac_K0 c).any (ac_gImp g))) || ac_rwB.any (fun b => Nat.beq b.1 c && ac_gImp g b))) &&
  (List.range 22).all (fun c => (ac_ln ac_KB c).all (fun q => Nat.ble 13 c && ((ab_le ((q.2.1 : Int) + 1) (ad_cA c) && (ac_ln ac_K0 c).any (ac_eq3 q)) || ac_lnB.any (fun p => Nat.beq p.1 c && ac_eq3 q p.2)))))
theorem ac_upB_t : ac_upB = true := by decide +kernel
theorem ac_KKup (h : ac_KK ac_K0 σ) (hf : ad_fr σ σ') (hr : ∀ g ∈ ac_rwB, ∀ i k, g.2.1 ≤ i → i ≤ g.2.2.1 → g.2.2.2.1 ≤ k → k ≤ g.2.2.2.2.1 → ab_Tr g.2.2.2.2.2 (m_get σ' g.1 i k)) (hn : ∀ q ∈ ac_lnB, ∀ i, q.2.1 ≤ i → i ≤ q.2.2.1 → σ'.2.1 q.1 i = q.2.2.2) : ac_KK ac_KB σ' := by
  have hc := ac_upB_t
  unfold ac_upB at hc
  simp only [Bool.and_eq_true, Nat.ble_eq] at hc
  obtain ⟨⟨c0, c1⟩, c2, c3⟩ := hc
  refine ⟨fun c l hl g hg i k h1 h2 h3 h4 => ?_, fun c l hl q hq i h1 h2 => ?_, fun k hk => ?_⟩
  · have hlt := (List.getElem?_eq_some_iff.mp hl).1
    have b := List.all_eq_true.mp c2 c (List.mem_range.mpr (by omega))
    have e1 : ac_rw ac_KB c = l := by unfold ac_rw; rw [hl]
    rw [e1] at b
    rcases (Bool.or_eq_true _ _).mp (List.all_eq_true.mp b g hg) with b | b
    · rw [Bool.and_eq_true, Bool.and_eq_true] at b
      obtain ⟨b1, b2, b3⟩ := b
      obtain ⟨w, w1, w2⟩ := List.any_eq_true.mp b3
      have old : c = 1 ∨ i < σ.1 c := by
        rcases (Bool.or_eq_true _ _).mp b1 with b1 | b1
        · exact Or.inl (Nat.eq_of_beq_eq_true b1)
        · rw [ab_le_ok] at b1
          by_cases h9 : c = 1
          · exact Or.inl h9
          · have := hf.1 c (by omega) h9
            exact Or.inr (by omega)
      rw [hf.2.2.2.2 c i k old (fun z => by
        obtain ⟨z1, z2⟩ := z
        subst z1; subst z2
        have q : (Nat.beq 11 11 && (Nat.ble g.2.2.2.1 2 && Nat.ble 2 g.2.2.2.2.1)) = true := by
          simp only [Bool.and_eq_true, Nat.ble_eq]
          exact ⟨rfl, h3, h4⟩
        rw [q] at b2
        cases b2)]
      exact ac_rw_ok h.1 w1 w2 i k h1 h2 h3 h4
    · obtain ⟨w, w1, w2⟩ := List.any_eq_true.mp b
      rw [Bool.and_eq_true] at w2
      obtain ⟨w2, w3⟩ := w2
      have e := Nat.eq_of_beq_eq_true w2
      unfold ac_gImp at w3
      simp only [Bool.and_eq_true, Nat.ble_eq] at w3
      obtain ⟨g1, g2, g3, g4, g5⟩ := w3
      have t := hr w w1 i k (by omega) (by omega) (by omega) (by omega)
      rw [e] at t
      exact ab_Tle_ok g5 t
  · have hlt := (List.getElem?_eq_some_iff.mp hl).1
    have b := List.all_eq_true.mp c3 c (List.mem_range.mpr (by omega))
    have e1 : ac_ln ac_KB c = l := by unfold ac_ln; rw [hl]
    rw [e1] at b
    have b := List.all_eq_true.mp b q hq
    rw [Bool.and_eq_true, Nat.ble_eq] at b
    refine ⟨b.1, ?_⟩
    rcases (Bool.or_eq_true _ _).mp b.2 with b2 | b2
    · rw [Bool.and_eq_true, ab_le_ok] at b2
      obtain ⟨w, w1, w2⟩ := List.any_eq_true.mp b2.2
      unfold ac_eq3 at w2
      simp only [Bool.and_eq_true] at w2
      have d1 := Nat.eq_of_beq_eq_true w2.1
      have d2 := Nat.eq_of_beq_eq_true w2.2.1
      have d3 := Nat.eq_of_beq_eq_true w2.2.2
      have c9 := hf.1 c (by omega) (by omega)
      rw [hf.2.2.2.1 c i (Or.inr (by omega)), d3]
      unfold ac_ln at w1
      cases hk : ac_K0.2[c]? with
      | none => rw [hk] at w1; cases w1
      | some lb =>
        rw [hk] at w1
        exact (h.2.1 c lb hk w w1 i (by omega) (by omega)).2
    · obtain ⟨p, p1, p2⟩ := List.any_eq_true.mp b2
      unfold ac_eq3 at p2
      simp only [Bool.and_eq_true] at p2
      have d0 := Nat.eq_of_beq_eq_true p2.1
      have d1 := Nat.eq_of_beq_eq_true p2.2.1
      have d2 := Nat.eq_of_beq_eq_true p2.2.2.1
      have d3 := Nat.eq_of_beq_eq_true p2.2.2.2
      have t := hn p p1 i (by omega) (by omega)
      rw [d0] at t
      rw [t, d3]
  · have o12 : (σ.1 12 : Int) = 1 := hf.1 12 (by decide) (by decide)
    have o13 : (σ.1 13 : Int) = 42 := hf.1 13 (by decide) (by decide)
    have e1 : m_get σ' 12 0 ac_TR = m_get σ 12 0 ac_TR := hf.2.2.2.2 12 0 ac_TR (Or.inr (by omega)) (fun z => by cases z.1)
    have e2 : m_get σ' 13 ac_TF k = m_get σ 13 ac_TF k := hf.2.2.2.2 13 ac_TF k (Or.inr (by unfold ac_TF; omega)) (fun z => by cases z.1)
    rw [e2]
    unfold ac_tr at hk
    rw [e1] at hk
    exact h.2.2 k hk
theorem ac_cnH : ac_HR.1.all (fun q => Nat.beq q.2.1 0 && ac_cnA.any (fun p => Nat.beq p.1 q.1 && (ab_le (p.2 : Int) q.2.2 && ab_le q.2.2 (p.2 : Int)))) = true := by decide +kernel
theorem ac_cnF : (List.range 22).all (fun c => Nat.beq c 1 || ac_cnA.any (fun p => Nat.beq p.1 c && (ab_le (p.2 : Int) (ad_cA c) && ab_le (ad_cA c) (p.2 : Int)))) = true := by decide +kernel
theorem ac_hpR (hM : ac_MdA σ) : ad_hp σ 1 (fun _ => 0) ac_HR σ := by
  refine ⟨⟨fun q hq => ?_, fun q hq => (by cases hq), fun g hg => (by cases hg), fun o ho => ?_⟩, fun c h1 h2 => ?_, fun c => Nat.le_refl _, rfl, fun c i _ => rfl, fun c i k _ _ => rfl⟩
  · have g := List.all_eq_true.mp ac_cnH q hq
    rw [Bool.and_eq_true] at g
    obtain ⟨g1, g2⟩ := g
    obtain ⟨p, p1, p2⟩ := List.any_eq_true.mp g2
    simp only [Bool.and_eq_true, ab_le_ok] at p2
    have e := Nat.eq_of_beq_eq_true p2.1
    have e0 := Nat.eq_of_beq_eq_true g1
    have c := hM.2 p p1
    rw [e] at c
    refine ⟨by rw [e0]; exact Nat.zero_lt_one, ?_⟩
    show (σ.1 q.1 : Int) = 0 + q.2.2
    rw [c]
    omega
  · have e := List.mem_singleton.mp ho
    subst e
    show ab_Vr 1 (fun _ => 0) (.inr (.inr (.inl (0, (0, 0), (0, 0))))) (m_get σ 11 0 2)
    rw [hM.1]
    exact ⟨Nat.zero_lt_one, Nat.zero_lt_one, rfl⟩
  · have g := List.all_eq_true.mp ac_cnF c (List.mem_range.mpr h1)
    rcases (Bool.or_eq_true _ _).mp g with g | g
    · exact absurd (Nat.eq_of_beq_eq_true g) h2
    · obtain ⟨p, p1, p2⟩ := List.any_eq_true.mp g
      simp only [Bool.and_eq_true, ab_le_ok] at p2
      have e := Nat.eq_of_beq_eq_true p2.1
      have c9 := hM.2 p p1
      rw [e] at c9
      rw [c9]
      omega
/-- behind the second hall's making -/
def ac_kR : ac_Kp := (ac_KB, ac_WR)
def ac_SR1 : ac_S := (ac_C1, 18, ac_LR, [], (none, [], []), 347, 4031)
def ac_okR (z : ac_Z) : Bool := match z with
  | .inl e => (match e.2.1 with
    | .inl (some (.inl _)) => true
    | _ => false) && (match e.2.2.1 with
    | none => true
    | some _ => false)
  | .inr _ => false
theorem ac_stR1 : ac_allZ (ac_go ac_kR (ac_SPt ac_kR ac_AB_5) ac_LPB ac_PL ac_nc 4000 false 157 ac_zRp [] ac_SR1) ac_okR = true := by decide +kernel
theorem ac_LsR {n : Nat} {ν : ab_N} (h0 : ν 0 = 0) (hn : 0 < n) {Lc : List (Option mV)} (hlen : Lc.length = 3) (hx : m_ld Lc 0 = some (.inr (.inr (some (11, 0))))) : ab_Ls n ν ac_LR Lc := by
  refine ⟨hlen, fun i v hv => ?_⟩
  match i, hv with
  | 0, hv =>
    cases hv
    exact ⟨_, hx, hn, hn, by show ν 0 + 1 = 1; rw [h0]; rfl, rfl, by show (0 : Int) = ν 0 + 0; rw [h0]; rfl⟩
  | 1, hv => cases hv
  | 2, hv => cases hv
  | i + 3, hv => cases hv
theorem ac_repA (hl : l.stackTraces = false) (hp : ac_hp ac_kT σ 14 ν ac_HT σ) (h0 : ν 0 = 0) (hM : ac_MdA σ) {Q : mX → mS → Prop} (hQ : ∀ v σ', ac_hp ac_kT σ' 14 ν ac_HT σ' → ac_KK ac_KB σ' → Q (.inl (some (.inl v))) σ') : m_ConI l 157 [.inr (.inr (some (11, 0)))] σ Q := by
  refine ac_con hl ac_zRp_at rfl (by decide) (fun J hJ => ?_)
  have hA := ac_stR
  cases ho : ac_outR with
  | none => rw [ho] at hA; cases hA
  | some os =>
    rw [ho] at hA
    dsimp only at hA
    have hg : ad_go (ab_SPx [ac_eB0, ac_eB1]) ac_LPn ac_PLn ac_ABt ac_cR 4000 false 157 ac_zRp [] ac_SR0 = some os := ho
    have hcx : ab_cx none ab_Ce (fun _ => 0) := ac_cxB (B := [(0, 0)]) rfl (by decide) (fun j q hq => by
      match j, hq with
      | 0, hq => cases hq; exact ⟨Int.le_refl _, Int.le_refl _⟩
      | j + 1, hq => cases hq)
    refine ad_go_ok hl (ac_SPB_ok hl) 4000 false 157 ac_zRp [] ac_SR0 os hg none none (fun _ => 0) σ (m_L0 3 [.inr (.inr (some (11, 0)))]) [] σ Q J (fun w => by cases w) (fun w => by cases w) hJ (fun p hp => by cases hp) hcx (ac_LsR rfl (by decide) rfl rfl) trivial (ac_hpR hM) (fun z hz => ?_)
    have hz2 := List.all_eq_true.mp hA z hz
    cases z with
    | inl e => cases hz2
    | inr S =>
      have hz3 : ac_ckR S = true := hz2
      unfold ac_ckR at hz3
      simp only [Bool.and_eq_true] at hz3
      obtain ⟨c1, c2, c3, c4, c5, c6⟩ := hz3
      intro ν' Lc' sc' σ' u hL' hs' hp'
      have e3 := List.isEmpty_iff.mp c3
      rw [e3] at hs'
      have e4 := ab_Vs_0 hs'
      subst e4
      have hB := ab_imp2_ok u.1 hp'.1 c4
      obtain ⟨d1, d2⟩ := ab_ckL_at c2
      have hK : ac_KK ac_KB σ' := ac_KKup hp.1 hp'.2 (fun g hg i k h1 h2 h3 h4 => by
        obtain ⟨r1, r2, r3, r4, r5⟩ := ac_nl_rg g
        have t := hB.2.2.1 (ac_nl g) (List.mem_map.mpr ⟨g, hg, rfl⟩) i k (by omega) (by omega) (by omega) (by omega)
        rw [r1] at t
        exact ac_nl_ok t) (fun q hq i h1 h2 => hB.2.1 q hq i h1 h2)
      have hx : m_ld Lc' 0 = some (.inr (.inr (some (11, 0)))) := by
        obtain ⟨x, x1, x2⟩ := hL'.2 0 _ (d2 0 _ rfl)
        obtain ⟨r, rfl, g⟩ := ab_Va x2
        cases r with
        | none =>
          have g3 : ν' 0 + 1 = 0 := g.2.2
          rw [u.1.1.1] at g3
          cases g3
        | some p =>
          obtain ⟨p1, p2⟩ := p
          obtain ⟨-, -, -, g4, g5⟩ := g
          have g4 : p1 = 11 := g4
          have g5 : (p2 : Int) = ν' 0 + 0 := g5
          rw [u.1.1.1] at g5
          have e2 : p2 = 0 := by omega
          subst g4; subst e2
          exact x1
      rw [Nat.eq_of_beq_eq_true c1, Nat.eq_of_beq_eq_true c5, Nat.eq_of_beq_eq_true c6]
      obtain ⟨outs, o1, o2⟩ := ac_allZ_ok ac_stR1
      refine ac_go_ok hl (kp := ac_kR) (ac_SPt_ok (kp := ac_kR) (ac_oB_5 hl)) 4000 false 157 ac_zRp [] ac_SR1 outs o1 none none (fun _ => 0) σ' Lc' [] σ' Q J (fun w => by cases w) (fun w => by cases w) hJ (fun p hp => by cases hp) ac_cx1 (ac_LsR rfl (by decide) (hL'.1.trans d1) hx) trivial ⟨hK, ac_fr.rf, rfl, fun o ho => (by cases ho), fun g hg => (by cases hg)⟩ (fun z hz => ?_)
      have hz := o2 z hz
      cases z with
      | inr S => cases hz
      | inl e =>
        intro ν2 x σ2 u2 hx2 hσ2
        have hz : ((match e.2.1 with
          | .inl (some (.inl _)) => true
          | _ => false) && (match e.2.2.1 with
          | none => true
          | some _ => false)) = true := hz
        rw [Bool.and_eq_true] at hz
        obtain ⟨z1, z2⟩ := hz
        have hcn : σ2.1 1 = σ'.1 1 := by
          have := hσ2.2.2.1
          cases hH : e.2.2.1 with
          | none => rw [hH] at this; exact this
          | some _ => rw [hH] at z2; cases z2
        have hE := ac_repEnd h0 hp hσ2.1 (hcn.trans hp'.2.2.2.1) (fun o ho => (ac_otR hσ2.2.1 o ho).trans (ac_otD hp'.2 o ho))
        split at z1
        · rename_i v hv
          rw [hv] at hx2
          cases x with
          | inr y => exact hx2.elim
          | inl y =>
            cases y with
            | none => exact hx2.elim
            | some w =>
              have hx2 : ab_Vr e.1.1.length ν2 (.inl v) w := hx2
              obtain ⟨y, rfl, -⟩ := ab_Vi hx2
              exact hQ y σ2 hE hσ2.1
        · cases z1
theorem ac_rep (hl : l.stackTraces = false) : ac_RepOK l := by
  intro σ ν hp h0 hM Q hQ
  rcases hM with hM | hM
  · exact ac_repA hl hp h0 hM hQ
  · exact ac_repB hl hp h0 hM hQ
end ACP
