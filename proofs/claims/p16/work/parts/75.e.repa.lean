/-! a first replay -/
section ACP2
variable {l : Launch} {ν : ab_N} {σ σ' : mS}
theorem ac_LsR {n : Nat} {ν : ab_N} (h0 : ν 0 = 0) (hn : 0 < n) {Lc : List (Option mV)} (hlen : Lc.length = 3) (hx : m_ld Lc 0 = some (.inr (.inr (some (11, 0))))) : ab_Ls n ν ac_LR Lc := by
  refine ⟨hlen, fun i v hv => ?_⟩
  match i, hv with
  | 0, hv =>
    cases hv
    exact ⟨_, hx, hn, hn, by show ν 0 + 1 = 1; rw [h0]; rfl, rfl, by show (0 : Int) = ν 0 + 0; rw [h0]; rfl⟩
  | 1, hv => cases hv
  | 2, hv => cases hv
  | i + 3, hv => cases hv
theorem ac_repA (hl : l.stackTraces = false) (hp : ac_hp ac_kT σ 14 ν ac_HT σ) (h0 : ν 0 = 0) (hM : ac_MdA σ) {Q : mX → mS → Prop} (hQ : ∀ v σ', ac_hp ac_kT σ' 14 ν ac_HT σ' → ac_KK ac_KB σ' → Q (.inl (some (.inl v))) σ') : m_ConI l 157 [.inr (.inr (some (11, 0)))] σ Q := by
  refine ac_con hl ac_zRp_at rfl (by decide) (fun J hJ => ?_)
  have hA := ac_stR
  cases ho : ac_outR with
  | none => rw [ho] at hA; cases hA
  | some os =>
    rw [ho] at hA
    dsimp only at hA
    have hg : ad_go (ab_SPx [ac_eB0, ac_eB1]) ac_LPn ac_PLn ac_ABt ac_cR 4000 false 157 ac_zRp [] ac_SR0 = some os := ho
    have hcx : ab_cx none ab_Ce (fun _ => 0) := ac_cxB (B := [(0, 0)]) rfl (by decide) (fun j q hq => by
      match j, hq with
      | 0, hq => cases hq; exact ⟨Int.le_refl _, Int.le_refl _⟩
      | j + 1, hq => cases hq)
    refine ad_go_ok hl (ac_SPB_ok hl) 4000 false 157 ac_zRp [] ac_SR0 os hg none none (fun _ => 0) σ (m_L0 3 [.inr (.inr (some (11, 0)))]) [] σ Q J (fun w => by cases w) (fun w => by cases w) hJ (fun p hp => by cases hp) hcx (ac_LsR (n := 1) (ν := fun _ => 0) (Lc := m_L0 3 [.inr (.inr (some (11, 0)))]) rfl Nat.zero_lt_one rfl rfl) trivial (ac_hpR hM) (fun z hz => ?_)
    have hz2 := List.all_eq_true.mp hA z hz
    cases z with
    | inl e => cases hz2
    | inr S =>
      have hz3 : ac_ckRp S = true := hz2
      unfold ac_ckRp at hz3
      simp only [Bool.and_eq_true] at hz3
      obtain ⟨c1, c2, c3, c4, c5, c6⟩ := hz3
      intro ν' Lc' sc' σ' u hL' hs' hp'
      have e3 := List.isEmpty_iff.mp c3
      rw [e3] at hs'
      have e4 := ab_Vs_0 hs'
      subst e4
      have hB := ab_imp2_ok u.1 hp'.1 c4
      obtain ⟨d1, d2⟩ := ab_ckL_at c2
      have hK : ac_KK ac_KB σ' := ac_KKup hp.1 hp'.2 (fun g hg i k h1 h2 h3 h4 => by
        obtain ⟨r1, r2, r3, r4, r5⟩ := ac_nl_rg g
        have t := hB.2.2.1 (ac_nl g) (List.mem_map.mpr ⟨g, hg, rfl⟩) i k (by omega) (by omega) (by omega) (by omega)
        rw [r1] at t
        exact ac_nl_ok t) (fun q hq i h1 h2 => hB.2.1 q hq i h1 h2)
      have hx : m_ld Lc' 0 = some (.inr (.inr (some (11, 0)))) := by
        obtain ⟨x, x1, x2⟩ := hL'.2 0 _ (d2 0 _ rfl)
        obtain ⟨r, rfl, g⟩ := ab_Va x2
        cases r with
        | none =>
          have g3 : ν' 0 + 1 = 0 := g.2.2
          rw [u.1.1.1] at g3
          cases g3
        | some p =>
          obtain ⟨p1, p2⟩ := p
          obtain ⟨-, -, -, g4, g5⟩ := g
          have g4 : p1 = 11 := g4
          have g5 : (p2 : Int) = ν' 0 + 0 := g5
          rw [u.1.1.1] at g5
          have e2 : p2 = 0 := by omega
          subst g4; subst e2
          exact x1
      rw [Nat.eq_of_beq_eq_true c1, Nat.eq_of_beq_eq_true c5, Nat.eq_of_beq_eq_true c6]
      obtain ⟨outs, o1, o2⟩ := ac_allZ_ok ac_stR1
      refine ac_go_ok hl (kp := ac_kR) (ac_SPt_ok (kp := ac_kR) (ac_oB_5 hl)) 4000 false 157 ac_zRp [] ac_SR1 outs o1 none none (fun _ => 0) σ' Lc' [] σ' Q J (fun w => by cases w) (fun w => by cases w) hJ (fun p hp => by cases hp) ac_cx1 (ac_LsR (n := 1) (ν := fun _ => 0) rfl Nat.zero_lt_one (hL'.1.trans d1) hx) trivial ⟨hK, ac_fr.rf, rfl, fun o ho => (by cases ho), fun g hg => (by cases hg)⟩ (fun z hz => ?_)
      have hz := o2 z hz
      cases z with
      | inr S => cases hz
      | inl e =>
        intro ν2 x σ2 u2 hx2 hσ2
        have hz : ((match e.2.1 with
          | .inl (some (.inl _)) => true
          | _ => false) && (match e.2.2.1 with
          | none => true
          | some _ => false)) = true := hz
        rw [Bool.and_eq_true] at hz
        obtain ⟨z1, z2⟩ := hz
        have hcn : σ2.1 1 = σ'.1 1 := by
          have := hσ2.2.2.1
          cases hH : e.2.2.1 with
          | none => rw [hH] at this; exact this
          | some _ => rw [hH] at z2; cases z2
        have hE := ac_repEnd h0 hp hσ2.1 (hcn.trans hp'.2.2.2.1) (fun o ho => (ac_otR hσ2.2.1 o ho).trans (ac_otD hp'.2 o ho))
        split at z1
        · rename_i v hv
          rw [hv] at hx2
          cases x with
          | inr y => exact hx2.elim
          | inl y =>
            cases y with
            | none => exact hx2.elim
            | some w =>
              have hx2 : ab_Vr e.1.1.length ν2 (.inl v) w := hx2
              obtain ⟨y, rfl, -⟩ := ab_Vi hx2
              exact hQ y σ2 hE hσ2.1
        · cases z1
theorem ac_rep (hl : l.stackTraces = false) : ac_RepOK l := by
  intro σ ν hp h0 hM Q hQ
  rcases hM with hM | hM
  · exact ac_repA hl hp h0 hM hQ
  · exact ac_repB hl hp h0 hM hQ
end ACP2
