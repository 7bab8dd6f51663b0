/-! what all calls perform -/
theorem ar_t6 : ∀ q ∈ ar_fits, ar_ck q = true := by
  intro q hq
  have e : ar_fits = (ar_fits.drop 0).take 2 ++ ((ar_fits.drop 2).take 1 ++ ((ar_fits.drop 3).take 1 ++ ((ar_fits.drop 4).take 2 ++ ((ar_fits.drop 6).take 1 ++ ((ar_fits.drop 7).take 2 ++ ((ar_fits.drop 9).take 1 ++ ((ar_fits.drop 10).take 2 ++ ((ar_fits.drop 12).take 1 ++ ((ar_fits.drop 13).take 2 ++ ((ar_fits.drop 15).take 1 ++ ((ar_fits.drop 16).take 1))))))))))) := rfl
  rw [e] at hq
  rcases List.mem_append.mp hq with hq | hq
  · exact List.all_eq_true.mp ar_t6_0 q hq
  rcases List.mem_append.mp hq with hq | hq
  · exact List.all_eq_true.mp ar_t6_2 q hq
  rcases List.mem_append.mp hq with hq | hq
  · exact List.all_eq_true.mp ar_t6_3 q hq
  rcases List.mem_append.mp hq with hq | hq
  · exact List.all_eq_true.mp ar_t6_4 q hq
  rcases List.mem_append.mp hq with hq | hq
  · exact List.all_eq_true.mp ar_t6_6 q hq
  rcases List.mem_append.mp hq with hq | hq
  · exact List.all_eq_true.mp ar_t6_7 q hq
  rcases List.mem_append.mp hq with hq | hq
  · exact List.all_eq_true.mp ar_t6_9 q hq
  rcases List.mem_append.mp hq with hq | hq
  · exact List.all_eq_true.mp ar_t6_10 q hq
  rcases List.mem_append.mp hq with hq | hq
  · exact List.all_eq_true.mp ar_t6_12 q hq
  rcases List.mem_append.mp hq with hq | hq
  · exact List.all_eq_true.mp ar_t6_13 q hq
  rcases List.mem_append.mp hq with hq | hq
  · exact List.all_eq_true.mp ar_t6_15 q hq
  exact List.all_eq_true.mp ar_t6_16 q hq
abbrev ar_CC : Nat → List mV → mS → (mX → mS → Prop) → Prop := ev_CC sm_G
theorem ar_o1 : ∀ ct ∈ ar_L1, ar_cok ar_CC ac_K0 ct := fun ct hct => ar_chk_ok ev_CC_rule sm_gb_ok (fun W => ar_SP0_ok _ _) (List.all_eq_true.mp ar_t1 ct hct)
theorem ar_o2 : ∀ ct ∈ ar_A2, ar_cok ar_CC ac_K0 ct := fun ct hct => (List.mem_append.mp hct).elim (fun h => ar_chk_ok ev_CC_rule sm_gb_ok (fun W => ar_SPt_ok (kp := (ac_K0, W)) ar_o1) (List.all_eq_true.mp ar_t2 ct h)) (ar_o1 ct)
theorem ar_o3 : ∀ ct ∈ ar_A3, ar_cok ar_CC ac_K0 ct := fun ct hct => (List.mem_append.mp hct).elim (fun h => ar_chk_ok ev_CC_rule sm_gb_ok (fun W => ar_SPt_ok (kp := (ac_K0, W)) ar_o2) (List.all_eq_true.mp ar_t3 ct h)) (ar_o2 ct)
theorem ar_o4 : ∀ ct ∈ ar_A4, ar_cok ar_CC ac_K0 ct := fun ct hct => (List.mem_append.mp hct).elim (fun h => ar_chk_ok ev_CC_rule sm_gb_ok (fun W => ar_SPt_ok (kp := (ac_K0, W)) ar_o3) (List.all_eq_true.mp ar_t4 ct h)) (ar_o3 ct)
theorem ar_o5 : ∀ ct ∈ ar_A5, ar_cok ar_CC ac_K0 ct := fun ct hct => (List.mem_append.mp hct).elim (fun h => ar_chk_ok ev_CC_rule sm_gb_ok (fun W => ar_SPt_ok (kp := (ac_K0, W)) ar_o4) (List.all_eq_true.mp ar_t5 ct h)) (ar_o4 ct)
theorem ar_V0 : ∃ nn, ar_p0.2 = [.inr (.inr (.inl (4, (0, 0), (0, 1)))), .inr (.inr (.inl (1, ar_pe, nn)))] := ⟨_, rfl⟩
/-- a call performed in the first hall is a guarded run -/
theorem ar_perform {σ : mS} {i : Nat} {q : List (Int × Int)} (hq : q ∈ ar_fits) (hf : ar_fit σ i 0 q) (hi : i ≤ 511) (hK : ac_KK ac_K0 σ) : ∃ v σ', ev_run sm_G 61 [.inr (.inr (some (4, 0))), .inr (.inr (some (1, i)))] σ (.inl (some (.inr (.inl v)))) σ' ∧ ac_KK ac_K0 σ' ∧ ac_fr ar_W61 σ σ' ∧ σ'.1 1 = σ.1 1 := by
  have hT : ac_TrL [(2, 4, 0, 0, 1, 1), (2, 1, 0, 511, 1, 1)] [.inr (.inr (some (4, 0))), .inr (.inr (some (1, i)))] := ⟨⟨rfl, rfl, rfl, by decide, by decide⟩, ⟨rfl, rfl, rfl, by show (0 : Int) ≤ (i : Int); omega, by show (i : Int) ≤ 511; omega⟩, trivial⟩
  obtain ⟨ν1, u1, g1⟩ := ac_ini_ok ac_cx1 hT
  have he : ab_I ar_p0.1.1.length ν1 ar_pe (i : Int) := by
    obtain ⟨nn, e⟩ := ar_V0
    have g1 : ab_Vs ar_p0.1.1.length ν1 ar_p0.2 [.inr (.inr (some (4, 0))), .inr (.inr (some (1, i)))] := g1
    rw [e] at g1
    have g2 : ab_R ar_p0.1.1.length ν1 (1, ar_pe, nn) (some (1, i)) := g1.2.1
    exact ⟨g2.1, g2.2.2.2.2⟩
  obtain ⟨ν2, u2, g2⟩ := ar_iO_ok (σ := σ) (k := 0) (O := []) u1.1 he (fun o ho => by cases ho) hf
  have hck := ar_t6 q hq
  unfold ar_ck at hck
  cases hr : ar_ret ac_SP0 (ar_go sm_gb (ac_K0, ar_W61) (ac_SPt (ac_K0, ar_W61) ar_A5) ac_LP0 ac_PL ac_nc 4000) 61 ar_p0.2 (ar_iO ar_pe 0 q ar_p0.1 []).1 (none, (ar_iO ar_pe 0 q ar_p0.1 []).2, []) with
  | none => rw [hr] at hck; cases hck
  | some outs =>
  rw [hr] at hck
  dsimp only at hck
  have hp : ac_hp (ac_K0, ar_W61) σ (ar_iO ar_pe 0 q ar_p0.1 []).1.1.length ν2 (none, (ar_iO ar_pe 0 q ar_p0.1 []).2, []) σ := ⟨hK, ac_fr.rf, rfl, g2, fun g hg => by cases hg⟩
  obtain ⟨x, σ', h1, v, h2, h3, h4, h5⟩ := ar_ret_ok ev_CC_rule (ar_SP0_ok ar_CC _) (ar_go_ok ev_CC_rule (sm_gb_ok _) (ar_SPt_ok (kp := (ac_K0, ar_W61)) ar_o5) 4000) hr u2.1 (g1.ex u2.2.1 u2.2.2) hp (Q := fun x σ' => ∃ v, x = .inl (some (.inr (.inl v))) ∧ ac_KK ac_K0 σ' ∧ ac_fr ar_W61 σ σ' ∧ σ'.1 1 = σ.1 1) (fun e he' ν' x σ' u hxs hσ => by
    have hq := List.all_eq_true.mp hck e he'
    unfold ar_ckE at hq
    rw [Bool.and_eq_true] at hq
    obtain ⟨q1, q2⟩ := hq
    have hcn : σ'.1 1 = σ.1 1 := by
      have := hσ.2.2.1
      rw [Option.isNone_iff_eq_none.mp q1] at this
      exact this
    obtain ⟨eC, eo, eH⟩ := e
    dsimp only at q2 hxs hσ u
    rcases eo with (_ | w) | b
    · cases q2
    · cases x with
      | inr _ => exact hxs.elim
      | inl r =>
        cases r with
        | none => exact hxs.elim
        | some v =>
          have t2 := ab_in_ok u.1 (show ab_Vr _ _ w v from hxs) q2
          rcases v with a | a | a
          · exact absurd t2.1 (by decide)
          · exact ⟨a, rfl, hσ.1, hσ.2.1, hcn⟩
          · cases a with
            | none => exact absurd t2.1 (by decide)
            | some q => exact absurd t2.1 (by decide)
    · cases q2)
  subst h2
  exact ⟨v, σ', h1, h3, h4, h5⟩
