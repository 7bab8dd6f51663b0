/-! a call performed in the first hall, by what it is -/
/-- what the calls hold: bounds of their first fields -/
def ar_fits : List (List (Int × Int)) := [[(0, 0), (0, 4), (1, 1000000)],
  [(1, 1), ((-1), 4), (1, 1000000)],
  [(2, 2), (0, 4), (0, 2), (0, 1), (1, 9999), (1, 1000), (0, 1000), (0, 3)],
  [(3, 3), (0, 4), (0, 2), (0, 1), (1, 9999), (1, 1000), (1, 9999)],
  [(4, 4), (0, 119), (0, 119)],
  [(5, 5), (0, 119)],
  [(6, 6), (0, 4), (0, 2), (0, 2), (1, 1000), ((-9998), 9998)],
  [(7, 7), (0, 2), (0, 50)],
  [(8, 8), (0, 2)],
  [(9, 9), (0, 2)],
  [(10, 10), (0, 2), (2, 5)],
  [(11, 11), (0, 2), (1, 1000)],
  [(12, 12), (0, 199)],
  [(13, 13), ((-50), 50), ((-50), 50), ((-50), 50)],
  [(14, 14), (1, 50)],
  [(15, 15), (0, 2), (0, 4), (1, 9999)],
  [(16, 16)]]
def ar_fit (σ : mS) (i : Nat) : Nat → List (Int × Int) → Prop
  | _, [] => True
  | k, q :: t => (∃ y : Int32, m_get σ 1 i k = .inl y ∧ q.1 ≤ y.toInt ∧ y.toInt ≤ q.2) ∧ ar_fit σ i (k + 1) t
def ar_iO (e : ab_E) : Nat → List (Int × Int) → ab_C → List ac_O → ab_C × List ac_O
  | _, [], C, O => (C, O)
  | k, q :: t, C, O => ar_iO e (k + 1) t (ab_fr C q.1 q.2).1 ((1, e, (0, (k : Int)), .inl (ab_fr C q.1 q.2).2) :: O)
theorem ar_iO_ok {xs : ab_X} {e : ab_E} {σ : mS} {i : Nat} : ∀ {qs : List (Int × Int)} {k : Nat} {C : ab_C} {ν : ab_N} {O : List ac_O}, ab_cx xs C ν → ab_I C.1.length ν e (i : Int) → (∀ o ∈ O, ac_ov C.1.length ν σ o) → ar_fit σ i k qs → ∃ ν', ab_up xs C ν (ar_iO e k qs C O).1 ν' ∧ ∀ o ∈ (ar_iO e k qs C O).2, ac_ov (ar_iO e k qs C O).1.1.length ν' σ o
  | [], k, C, ν, O, h, _, hO, _ => ⟨ν, ab_up.rf h, hO⟩
  | q :: t, k, C, ν, O, h, he, hO, ⟨⟨y, y1, y2, y3⟩, ht⟩ => by
    obtain ⟨ν1, u1, g1⟩ := ab_fr_ok h y2 y3
    have he1 := u1.I he
    obtain ⟨ν2, u2, g2⟩ := ar_iO_ok (qs := t) (k := k + 1) (O := (1, e, (0, (k : Int)), .inl (ab_fr C q.1 q.2).2) :: O) u1.1 he1 (fun o ho => by
      rcases List.mem_cons.mp ho with rfl | ho
      · refine ⟨⟨he1.1, g1.1⟩, u1.1.2.1, fun i' k' hi hk => ?_⟩
        have hi : (i' : Int) = ν1 e.1 + e.2 := hi
        have hk : (k' : Int) = ν1 0 + (k : Int) := hk
        rw [u1.1.1.1] at hk
        have e1 : i' = i := by have := he1.2; omega
        have e2 : k' = k := by omega
        subst e1; subst e2
        show ab_Vr _ _ (.inl (ab_fr C q.1 q.2).2) (m_get σ 1 i' k')
        rw [y1]
        exact g1
      · exact (hO o ho).ex u1.2.1 u1.2.2) ht
    exact ⟨ν2, u1.tr u2, g2⟩
def ar_p0 : ab_C × List ab_V := ac_ini [(2, 4, 0, 0, 1, 1), (2, 1, 0, 511, 1, 1)] ac_C1
def ar_pe : ab_E := match ar_p0.2 with
  | _ :: .inr (.inr (.inl z)) :: _ => z.2.1
  | _ => (0, 0)
def ar_lng : ab_T := (1, 0, (-9223372036854775808), 9223372036854775807, 0, 0)
def ar_ckE (e : ac_Q) : Bool := e.2.2.1.isNone && match e.2.1 with
  | .inl (some v) => ab_in e.1 v ar_lng
  | _ => false
def ar_ck (q : List (Int × Int)) : Bool := match ar_ret ac_SP0 (ar_go sm_gb (ac_K0, ar_W61) (ac_SPt (ac_K0, ar_W61) ar_A5) ac_LP0 ac_PL ac_nc 4000) 61 ar_p0.2 (ar_iO ar_pe 0 q ar_p0.1 []).1 (none, (ar_iO ar_pe 0 q ar_p0.1 []).2, []) with
  | some outs => outs.all ar_ckE
  | none => false
theorem ar_t6_0 : ((ar_fits.drop 0).take 6).all ar_ck = true := by decide +kernel
theorem ar_t6_6 : ((ar_fits.drop 6).take 3).all ar_ck = true := by decide +kernel
theorem ar_t6_9 : ((ar_fits.drop 9).take 3).all ar_ck = true := by decide +kernel
theorem ar_t6_12 : ((ar_fits.drop 12).take 3).all ar_ck = true := by decide +kernel
theorem ar_t6_15 : ((ar_fits.drop 15).take 2).all ar_ck = true := by decide +kernel
theorem ar_t6 : ∀ q ∈ ar_fits, ar_ck q = true := by
  intro q hq
  have e : ar_fits = (ar_fits.drop 0).take 6 ++ ((ar_fits.drop 6).take 3 ++ ((ar_fits.drop 9).take 3 ++ ((ar_fits.drop 12).take 3 ++ (ar_fits.drop 15).take 2))) := rfl
  rw [e] at hq
  rcases List.mem_append.mp hq with hq | hq
  · exact List.all_eq_true.mp ar_t6_0 q hq
  rcases List.mem_append.mp hq with hq | hq
  · exact List.all_eq_true.mp ar_t6_6 q hq
  rcases List.mem_append.mp hq with hq | hq
  · exact List.all_eq_true.mp ar_t6_9 q hq
  rcases List.mem_append.mp hq with hq | hq
  · exact List.all_eq_true.mp ar_t6_12 q hq
  exact List.all_eq_true.mp ar_t6_15 q hq
abbrev ar_CC : Nat → List mV → mS → (mX → mS → Prop) → Prop := ev_CC sm_G
theorem ar_o1 : ∀ ct ∈ ar_L1, ar_cok ar_CC ac_K0 ct := fun ct hct => ar_chk_ok ev_CC_rule sm_gb_ok (fun W => ar_SP0_ok _ _) (List.all_eq_true.mp ar_t1 ct hct)
theorem ar_o2 : ∀ ct ∈ ar_A2, ar_cok ar_CC ac_K0 ct := fun ct hct => (List.mem_append.mp hct).elim (fun h => ar_chk_ok ev_CC_rule sm_gb_ok (fun W => ar_SPt_ok (kp := (ac_K0, W)) ar_o1) (List.all_eq_true.mp ar_t2 ct h)) (ar_o1 ct)
theorem ar_o3 : ∀ ct ∈ ar_A3, ar_cok ar_CC ac_K0 ct := fun ct hct => (List.mem_append.mp hct).elim (fun h => ar_chk_ok ev_CC_rule sm_gb_ok (fun W => ar_SPt_ok (kp := (ac_K0, W)) ar_o2) (List.all_eq_true.mp ar_t3 ct h)) (ar_o2 ct)
theorem ar_o4 : ∀ ct ∈ ar_A4, ar_cok ar_CC ac_K0 ct := fun ct hct => (List.mem_append.mp hct).elim (fun h => ar_chk_ok ev_CC_rule sm_gb_ok (fun W => ar_SPt_ok (kp := (ac_K0, W)) ar_o3) (List.all_eq_true.mp ar_t4 ct h)) (ar_o3 ct)
theorem ar_o5 : ∀ ct ∈ ar_A5, ar_cok ar_CC ac_K0 ct := fun ct hct => (List.mem_append.mp hct).elim (fun h => ar_chk_ok ev_CC_rule sm_gb_ok (fun W => ar_SPt_ok (kp := (ac_K0, W)) ar_o4) (List.all_eq_true.mp ar_t5 ct h)) (ar_o4 ct)
theorem ar_V0 : ∃ nn, ar_p0.2 = [.inr (.inr (.inl (4, (0, 0), (0, 1)))), .inr (.inr (.inl (1, ar_pe, nn)))] := ⟨_, rfl⟩
/-- a call performed in the first hall is a guarded run -/
theorem ar_perform {σ : mS} {i : Nat} {q : List (Int × Int)} (hq : q ∈ ar_fits) (hf : ar_fit σ i 0 q) (hi : i ≤ 511) (hK : ac_KK ac_K0 σ) : ∃ v σ', ev_run sm_G 61 [.inr (.inr (some (4, 0))), .inr (.inr (some (1, i)))] σ (.inl (some (.inr (.inl v)))) σ' ∧ ac_KK ac_K0 σ' ∧ ac_fr ar_W61 σ σ' ∧ σ'.1 1 = σ.1 1 := by
  have hT : ac_TrL [(2, 4, 0, 0, 1, 1), (2, 1, 0, 511, 1, 1)] [.inr (.inr (some (4, 0))), .inr (.inr (some (1, i)))] := ⟨⟨rfl, rfl, rfl, by decide, by decide⟩, ⟨rfl, rfl, rfl, by show (0 : Int) ≤ (i : Int); omega, by show (i : Int) ≤ 511; omega⟩, trivial⟩
  obtain ⟨ν1, u1, g1⟩ := ac_ini_ok ac_cx1 hT
  have he : ab_I ar_p0.1.1.length ν1 ar_pe (i : Int) := by
    obtain ⟨nn, e⟩ := ar_V0
    have g1 : ab_Vs ar_p0.1.1.length ν1 ar_p0.2 [.inr (.inr (some (4, 0))), .inr (.inr (some (1, i)))] := g1
    rw [e] at g1
    have g2 : ab_R ar_p0.1.1.length ν1 (1, ar_pe, nn) (some (1, i)) := g1.2.1
    exact ⟨g2.1, g2.2.2.2.2⟩
  obtain ⟨ν2, u2, g2⟩ := ar_iO_ok (σ := σ) (k := 0) (O := []) u1.1 he (fun o ho => by cases ho) hf
  have hck := ar_t6 q hq
  unfold ar_ck at hck
  cases hr : ar_ret ac_SP0 (ar_go sm_gb (ac_K0, ar_W61) (ac_SPt (ac_K0, ar_W61) ar_A5) ac_LP0 ac_PL ac_nc 4000) 61 ar_p0.2 (ar_iO ar_pe 0 q ar_p0.1 []).1 (none, (ar_iO ar_pe 0 q ar_p0.1 []).2, []) with
  | none => rw [hr] at hck; cases hck
  | some outs =>
  rw [hr] at hck
  dsimp only at hck
  have hp : ac_hp (ac_K0, ar_W61) σ (ar_iO ar_pe 0 q ar_p0.1 []).1.1.length ν2 (none, (ar_iO ar_pe 0 q ar_p0.1 []).2, []) σ := ⟨hK, ac_fr.rf, rfl, g2, fun g hg => by cases hg⟩
  obtain ⟨x, σ', h1, v, h2, h3, h4, h5⟩ := ar_ret_ok ev_CC_rule (ar_SP0_ok ar_CC _) (ar_go_ok ev_CC_rule (sm_gb_ok _) (ar_SPt_ok (kp := (ac_K0, ar_W61)) ar_o5) 4000) hr u2.1 (g1.ex u2.2.1 u2.2.2) hp (Q := fun x σ' => ∃ v, x = .inl (some (.inr (.inl v))) ∧ ac_KK ac_K0 σ' ∧ ac_fr ar_W61 σ σ' ∧ σ'.1 1 = σ.1 1) (fun e he' ν' x σ' u hx hσ => by
    have hq := List.all_eq_true.mp hck e he'
    unfold ar_ckE at hq
    rw [Bool.and_eq_true] at hq
    obtain ⟨q1, q2⟩ := hq
    have hcn : σ'.1 1 = σ.1 1 := by
      have := hσ.2.2.1
      rw [Option.isNone_iff_eq_none.mp q1] at this
      exact this
    obtain ⟨eC, eo, eH⟩ := e
    dsimp only at q2 hx hσ u
    rcases eo with (_ | w) | b
    · cases q2
    · cases x with
      | inr _ => exact hx.elim
      | inl r =>
        cases r with
        | none => exact hx.elim
        | some v =>
          have t2 := ab_in_ok u.1 (show ab_Vr _ _ w v from hx) q2
          rcases v with a | a | a
          · exact absurd t2.1 (by decide)
          · exact ⟨a, rfl, hσ.1, hσ.2.1, hcn⟩
          · cases a with
            | none => exact absurd t2.1 (by decide)
            | some q => exact absurd t2.1 (by decide)
    · cases q2)
  subst h2
  exact ⟨v, σ', h1, h3, h4, h5⟩
