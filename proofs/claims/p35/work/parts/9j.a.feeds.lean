/-! the reference's feed by hand: no more messages than prices -/
def ac_zF : mAl := ((yX12_feeds, cX12_feeds, 2, none, { frames := 1, cells := 0, slots := 0, locals := 22 }, []), rw_X12_feeds, false)
set_option maxRecDepth 100000 in
theorem ac_zF_at : m_alF[197]? = some ac_zF := rfl
def ac_WF : List ab_G := [(12, 0, 0, 50, 50, (0, 0, (-2147483648), 2147483647, 0, 0)), (13, 40, 40, 0, 29, (0, 0, (-2147483648), 2147483647, 0, 0)), (14, 18, 19, 0, 59999, (1, 0, (-9223372036854775808), 9223372036854775807, 0, 0)), (14, 20, 20, 0, 29, (1, 0, (-9223372036854775808), 9223372036854775807, 0, 0))]
def ac_kF : ac_Kp := (ac_K0, ac_WF)
def ac_r12 : ab_V := .inr (.inr (.inl (12, (0, 0), (0, 1))))
def ac_S1F : ac_S := (([(0, 0), (0, 30660000)], [], []), 0, [some ac_r12, none], [], (none, [(12, (0, 0), (0, 50), .inl (1, 0))], []), 0, 0)
def ac_TF9 : ac_Ta := ([some ac_r12, some (.inl (1, 0))], none, [(12, (0, 0), (0, 50), .inl (2, 0))])
def ac_cF (j pc : Nat) : Bool := Nat.beq j 197 && Nat.beq pc 96
def ac_atF (es : List ab_E) (S : ac_S) : Bool := Nat.beq S.2.1 96 && (ac_can S es ac_TF9 && (Nat.beq S.2.2.2.2.2.1 0 && Nat.beq S.2.2.2.2.2.2 0))
def ac_ok1F (z : ac_Z) : Bool := match z with
  | .inr S => ac_atF [(0, 0), (0, 0), (1, 0)] S
  | .inl _ => false
def ac_ok2F (z : ac_Z) : Bool := match z with
  | .inr S => ac_atF [(0, 0), (1, 1), (2, 0)] S || ac_atF [(0, 0), (1, 1), (2, 1)] S
  | .inl _ => false
def ac_ok3F (z : ac_Z) : Bool := match z with
  | .inr _ => false
  | .inl e => (match e.2.1 with
    | .inl none => true
    | _ => false) && ((match e.2.2.1 with
    | none => true
    | some _ => false) && (match ac_find e.1 e.2.2.2.1 12 (0, 0) (0, 50) with
    | some (.inl t) => ab_eE t (2, 0)
    | _ => false))
def ac_S2F : ac_S := (([(0, 0), (0, 59999), (0, 30719999)], [], []), 96, ac_TF9.1, [], (none, ac_TF9.2.2, []), 0, 0)
def ac_S3F : ac_S := (([(0, 0), (60000, 60000), (0, 30720000)], [], []), 96, ac_TF9.1, [], (none, ac_TF9.2.2, []), 0, 0)
def ac_gF : ac_GT := ac_go ac_kF ac_SP0 ac_LP0 ac_PL ac_cF 4000
def ac_allZ (o : Option (List ac_Z)) (ok : ac_Z → Bool) : Bool := match o with
  | some l => l.all ok
  | none => false
theorem ac_allZ_ok {o : Option (List ac_Z)} {ok : ac_Z → Bool} (h : ac_allZ o ok = true) : ∃ l, o = some l ∧ ∀ z ∈ l, ok z = true := by
  unfold ac_allZ at h
  cases o with
  | none => cases h
  | some l => exact ⟨l, rfl, fun z hz => List.all_eq_true.mp h z hz⟩
theorem ac_f1 : ac_allZ (ac_gF false 197 ac_zF [] ac_S1F) ac_ok1F = true := by decide +kernel
theorem ac_f2 : ac_allZ (ac_body ac_kF ac_SP0 ac_gF false 197 ac_zF [] ac_S2F) ac_ok2F = true := by decide +kernel
theorem ac_f3 : ac_allZ (ac_body ac_kF ac_SP0 ac_gF false 197 ac_zF [] ac_S3F) ac_ok3F = true := by decide +kernel
def ac_ms0 (σ : mS) (m : Int) : Prop := ∃ y : Int32, m_get σ 12 0 50 = .inl y ∧ y.toInt = m
theorem ac_feeds {l : Launch} (hl : l.stackTraces = false) {σ : mS} {m : Int} (hK : ac_KK ac_K0 σ) (hm : ac_ms0 σ m) (h0 : 0 ≤ m) (h1 : m ≤ 30660000) {Q : mX → mS → Prop}
    (hQ : ∀ σ' m', ac_KK ac_K0 σ' → ac_fr ac_WF σ σ' → σ'.1 1 = σ.1 1 → ac_ms0 σ' m' → 0 ≤ m' → m' ≤ m + 60000 → Q (.inl none) σ') : m_ConI l 197 [.inr (.inr (some (12, 0)))] σ Q := by
  refine ac_con hl ac_zF_at rfl (by decide) (fun J hJ => ?_)
  have GO : ac_GOK l ac_kF ac_gF := ac_go_ok hl (ac_SP0_ok l _) 4000
  have head : ∀ (d : Nat) (ν : ab_N) (Lc : List (Option mV)) (σ' : mS), ν 0 = 0 → 0 ≤ ν 1 → ν 1 + (d : Int) = 60000 → 0 ≤ ν 2 → ν 2 ≤ m + ν 1 → ab_Ls 3 ν ac_TF9.1 Lc → ac_hp ac_kF σ 3 ν (none, ac_TF9.2.2, []) σ' → J 96 Lc [] σ' 0 0 := by
    intro d
    induction d with
    | zero =>
      intro ν Lc σ' n0 n1 n2 n3 n4 hL hp
      obtain ⟨outs, o1, o2⟩ := ac_allZ_ok ac_f3
      have hcx : ab_cx none ac_S3F.1 ν := ac_cxB (B := [(0, 0), (60000, 60000), (0, 30720000)]) n0 (by decide) (fun j q hq => by
        match j, hq with
        | 0, hq => cases hq; exact ⟨by omega, by omega⟩
        | 1, hq => cases hq; exact ⟨by dsimp only; omega, by dsimp only; omega⟩
        | 2, hq => cases hq; exact ⟨by dsimp only; omega, by dsimp only; omega⟩
        | j + 3, hq => cases hq)
      refine ac_body_ok (S := ac_S3F) (xs := none) (xs0 := none) hl (ac_SP0_ok l _) GO o1 (fun w => by cases w) (fun w => by cases w) hJ (fun p hp => by cases hp) hcx hL trivial hp (fun z hz => ?_)
      have hz := o2 z hz
      cases z with
      | inr S => cases hz
      | inl e =>
        intro ν' x σ'' u hx hp'
        obtain ⟨eC, eo, eH⟩ := e
        unfold ac_ok3F at hz
        dsimp only at hz hx hp' u
        rw [Bool.and_eq_true, Bool.and_eq_true] at hz
        obtain ⟨z1, z2, z3⟩ := hz
        split at z1
        · have hx2 : x = .inl none := by
            cases x with
            | inl w =>
              cases w with
              | none => rfl
              | some _ => exact hx.elim
            | inr _ => exact hx.elim
          subst hx2
          cases hq : ac_find eC eH.2.1 12 (0, 0) (0, 50) with
          | none => rw [hq] at z3; cases z3
          | some w =>
            rw [hq] at z3
            rcases w with t | w
            · have e1 := ab_eE_ok z3
              subst e1
              have g := ac_find_ok (i := 0) (k := 50) u.1 hp'.2.2.2.1 (ab_con u.1) (ab_con u.1) hq
              obtain ⟨y, y1, y2⟩ := ab_Vi g
              have hu : ν' 2 = ν 2 := u.2.1 2 (by decide)
              have y3 : y.toInt = ν' 2 + 0 := y2.2
              have hc : σ''.1 1 = σ.1 1 := by
                have c1 := hp'.2.2.1
                cases hH : eH.1 with
                | none => rw [hH] at c1; exact c1
                | some _ => rw [hH] at z2; cases z2
              exact hQ σ'' (ν 2) hp'.1 hp'.2.1 hc ⟨y, y1, by omega⟩ n3 (by omega)
            · cases z3
        · cases z1
    | succ d ih =>
      intro ν Lc σ' n0 n1 n2 n3 n4 hL hp
      obtain ⟨outs, o1, o2⟩ := ac_allZ_ok ac_f2
      have hcx : ab_cx none ac_S2F.1 ν := ac_cxB (B := [(0, 0), (0, 59999), (0, 30719999)]) n0 (by decide) (fun j q hq => by
        match j, hq with
        | 0, hq => cases hq; exact ⟨by omega, by omega⟩
        | 1, hq => cases hq; exact ⟨by dsimp only; omega, by dsimp only; omega⟩
        | 2, hq => cases hq; exact ⟨by dsimp only; omega, by dsimp only; omega⟩
        | j + 3, hq => cases hq)
      refine ac_body_ok (S := ac_S2F) (xs := none) (xs0 := none) hl (ac_SP0_ok l _) GO o1 (fun w => by cases w) (fun w => by cases w) hJ (fun p hp => by cases hp) hcx hL trivial hp (fun z hz => ?_)
      have hz := o2 z hz
      cases z with
      | inl e => cases hz
      | inr S =>
        intro ν' Lc' sc' σ'' u hL' hs' hp'
        have hu1 : ν' 1 = ν 1 := u.2.1 1 (by decide)
        have hu2 : ν' 2 = ν 2 := u.2.1 2 (by decide)
        have key : ∀ es : List ab_E, es.length = 3 → ac_nu es ν' 1 = ν 1 + 1 → (ac_nu es ν' 2 = ν 2 ∨ ac_nu es ν' 2 = ν 2 + 1) → ac_atF es S = true → J S.2.1 Lc' sc' σ'' S.2.2.2.2.2.1 S.2.2.2.2.2.2 := by
          intro es he k1 k2 hat
          unfold ac_atF at hat
          simp only [Bool.and_eq_true] at hat
          obtain ⟨a1, a2, a3, a4⟩ := hat
          obtain ⟨b1, b2, b3, b4, -⟩ := ac_can_ok u.1 hL' hs' hp' a2
          rw [Nat.eq_of_beq_eq_true a1, Nat.eq_of_beq_eq_true a3, Nat.eq_of_beq_eq_true a4, b1]
          rw [he] at b2 b3
          have n2' : ν 1 + ((d : Int) + 1) = 60000 := by have e9 : ((d + 1 : Nat) : Int) = (d : Int) + 1 := rfl; rw [e9] at n2; exact n2
          refine ih (ac_nu es ν') Lc' σ'' b4 (by omega) (by omega) ?_ ?_ b2 b3
          · rcases k2 with k2 | k2 <;> omega
          · rcases k2 with k2 | k2 <;> omega
        have hz : (ac_atF [(0, 0), (1, 1), (2, 0)] S || ac_atF [(0, 0), (1, 1), (2, 1)] S) = true := hz
        rcases (Bool.or_eq_true _ _).mp hz with hz | hz
        · exact key _ rfl (by show ν' 1 + 1 = _; rw [hu1]) (Or.inl (by show ν' 2 + 0 = _; rw [hu2]; omega)) hz
        · exact key _ rfl (by show ν' 1 + 1 = _; rw [hu1]) (Or.inr (by show ν' 2 + 1 = _; rw [hu2])) hz
  obtain ⟨outs, o1, o2⟩ := ac_allZ_ok ac_f1
  obtain ⟨y, y1, y2⟩ := hm
  have hcx : ab_cx none ac_S1F.1 (fun j => if j = 1 then m else 0) := ac_cxB (B := [(0, 0), (0, 30660000)]) rfl (by decide) (fun j q hq => by
    match j, hq with
    | 0, hq => cases hq; exact ⟨Int.le_refl _, Int.le_refl _⟩
    | 1, hq => cases hq; exact ⟨h0, h1⟩
    | j + 2, hq => cases hq)
  have hr : ab_Vr 2 (fun j => if j = 1 then m else 0) ac_r12 (.inr (.inr (some (12, 0)))) := ⟨Nat.zero_lt_succ _, Nat.zero_lt_succ _, rfl, rfl, rfl⟩
  have hL : ab_Ls 2 (fun j => if j = 1 then m else 0) ac_S1F.2.2.1 (m_L0 2 [.inr (.inr (some (12, 0)))]) := ab_L0_ok (nL := 2) (args := [ac_r12]) ⟨hr, trivial⟩
  have hp : ac_hp ac_kF σ 2 (fun j => if j = 1 then m else 0) (none, [(12, (0, 0), (0, 50), .inl (1, 0))], []) σ := by
    refine ⟨hK, ac_fr.rf, rfl, fun o ho => ?_, fun g hg => by cases hg⟩
    have e := List.mem_singleton.mp ho
    subst e
    refine ⟨⟨Nat.zero_lt_succ _, Nat.lt_succ_self 1⟩, Nat.zero_lt_succ _, fun i k hi hk => ?_⟩
    have e1 : i = 0 := by have hi : (i : Int) = 0 + 0 := hi; omega
    have e2 : k = 50 := by have hk : (k : Int) = 0 + 50 := hk; omega
    subst e1; subst e2
    show ab_Vr _ _ (.inl (1, 0)) (m_get σ 12 0 50)
    rw [y1]
    exact ⟨Nat.lt_succ_self 1, by show y.toInt = m + 0; omega⟩
  refine GO false 197 ac_zF [] ac_S1F outs o1 none none _ σ _ [] σ Q J (fun w => by cases w) (fun w => by cases w) hJ (fun p hp => by cases hp) hcx hL trivial hp (fun z hz => ?_)
  have hz := o2 z hz
  cases z with
  | inl e => cases hz
  | inr S =>
    intro ν' Lc' sc' σ'' u hL' hs' hp'
    have hz : ac_atF [(0, 0), (0, 0), (1, 0)] S = true := hz
    unfold ac_atF at hz
    simp only [Bool.and_eq_true] at hz
    obtain ⟨a1, a2, a3, a4⟩ := hz
    obtain ⟨b1, b2, b3, b4, -⟩ := ac_can_ok u.1 hL' hs' hp' a2
    rw [Nat.eq_of_beq_eq_true a1, Nat.eq_of_beq_eq_true a3, Nat.eq_of_beq_eq_true a4, b1]
    have hu1 : ν' 1 = m := u.2.1 1 (by decide)
    have hu0 : ν' 0 = 0 := u.1.1.1
    have k1 : ac_nu [(0, 0), (0, 0), (1, 0)] ν' 1 = 0 := by show ν' 0 + 0 = 0; rw [hu0]; rfl
    have k2 : ac_nu [(0, 0), (0, 0), (1, 0)] ν' 2 = m := by show ν' 1 + 0 = m; rw [hu1]; omega
    exact head 60000 (ac_nu [(0, 0), (0, 0), (1, 0)] ν') Lc' σ'' b4 (by omega) (by omega) (by omega) (by omega) b2 b3
/-! the calls of the law's turns: the feed by hand, all others by the tables -/
def ac_oF1 (C : ab_C) (H : ac_H) (e : ab_E) : ac_Q := (ab_asle (ab_fr C 0 30720000).1 (ab_fr C 0 30720000).2 (e.1, e.2 + 60000), .inl none, (H.1, (12, (0, 0), (0, 50), .inl (ab_fr C 0 30720000).2) :: ac_oF C ac_WF H.2.1, []))
def ac_SPf (kp : ac_Kp) (args : List ab_V) (C : ab_C) (H : ac_H) : Option (List ac_Q) := bif ac_inL C args [(2, 12, 0, 0, 1, 1)] && ac_subW ac_WF kp.2 then (match ac_find C H.2.1 12 (0, 0) (0, 50) with
  | some (.inl e) => bif ab_le 0 (ab_iv C.1 e).1 && ab_le (ab_iv C.1 e).2 30660000 then some [ac_oF1 C H e] else none
  | _ => none) else none
def ac_SPl (kp : ac_Kp) : ac_SP := fun j args C H => bif Nat.beq j 197 then ac_SPf kp args C H else ac_SPt kp ac_A0_6 j args C H
theorem ac_SPl_ok {l : Launch} (hl : l.stackTraces = false) (W : List ab_G) : ac_SPok l (ac_K0, W) (ac_SPl (ac_K0, W)) := by
  intro j args C H outs hs xs ν σ0 avs σ h ha hp Q hQ
  unfold ac_SPl at hs
  cases hj : Nat.beq j 197 with
  | false =>
    rw [hj] at hs
    exact ac_SPt_ok (kp := (ac_K0, W)) (ac_o0_6 hl) j args C H outs hs xs ν σ0 avs σ h ha hp Q hQ
  | true =>
    rw [hj] at hs
    have e1 := Nat.eq_of_beq_eq_true hj
    subst e1
    dsimp only [cond_true] at hs
    unfold ac_SPf at hs
    cases hb : (ac_inL C args [(2, 12, 0, 0, 1, 1)] && ac_subW ac_WF W) with
    | false => rw [hb] at hs; cases hs
    | true =>
    rw [hb] at hs
    rw [Bool.and_eq_true] at hb
    dsimp only [cond_true] at hs
    split at hs
    · rename_i e hf
      cases hc : (ab_le 0 (ab_iv C.1 e).1 && ab_le (ab_iv C.1 e).2 30660000) with
      | false => rw [hc] at hs; cases hs
      | true =>
        rw [hc] at hs
        rw [Bool.and_eq_true, ab_le_ok, ab_le_ok] at hc
        cases hs
        have hT := ac_inL_ok h ha hb.1
        have hav : avs = [.inr (.inr (some (12, 0)))] := by
          cases avs with
          | nil => exact hT.elim
          | cons x t =>
            cases t with
            | cons _ _ => exact hT.2.elim
            | nil =>
              have hx := hT.1
              rcases x with y | y | r
              · cases hx.1
              · cases hx.1
              · cases r with
                | none => cases hx.2
                | some p =>
                  obtain ⟨p1, p2⟩ := p
                  obtain ⟨-, -, a3, a4, a5⟩ := hx
                  have a3 : p1 = 12 := a3
                  have a4 : (0 : Int) ≤ (p2 : Int) := a4
                  have a5 : (p2 : Int) ≤ 0 := a5
                  have a6 : p2 = 0 := by omega
                  subst a3; subst a6
                  rfl
        subst hav
        have g := ac_find_ok (i := 0) (k := 50) h hp.2.2.2.1 (ab_con h) (ab_con h) hf
        obtain ⟨y, y1, y2⟩ := ab_Vi g
        have iy := ab_iv_ok h.1 y2
        refine ac_feeds hl hp.1 ⟨y, y1, rfl⟩ (by omega) (by omega) (fun σ' m' k1 k2 k3 k4 k5 k6 => ?_)
        obtain ⟨w, w1, w2⟩ := k4
        obtain ⟨ν1, u1, g1⟩ := ab_fr_ok h (x := m') (lo := 0) (hi := 30720000) k5 (by omega)
        have ge := u1.I y2
        have g2 := ab_asle_ok (f := (e.1, e.2 + 60000)) (y := y.toInt + 60000) u1.1 g1 ⟨ge.1, by show y.toInt + 60000 = ν1 e.1 + (e.2 + 60000); have := ge.2; omega⟩ k6
        have u2 : ab_up xs C ν (ab_asle (ab_fr C 0 30720000).1 (ab_fr C 0 30720000).2 (e.1, e.2 + 60000)) ν1 := ⟨g2.1, u1.2.1, by rw [g2.2]; exact u1.2.2⟩
        refine hQ (ac_oF1 C H e) List.mem_cons_self ν1 (.inl none) σ' u2 trivial ⟨k1, ac_fr_tr hp.2.1 k2 hb.2, (ac_cn_fr hp.2.2.1 k3).ex u2.2.1 u2.2.2, fun o ho => ?_, fun g hg => by cases hg⟩
        rcases List.mem_cons.mp ho with rfl | ho
        · have gg : ab_I (ab_asle (ab_fr C 0 30720000).1 (ab_fr C 0 30720000).2 (e.1, e.2 + 60000)).1.length ν1 (ab_fr C 0 30720000).2 m' := ⟨Nat.lt_of_lt_of_eq g1.1 g2.2.symm, g1.2⟩
          refine ⟨⟨u2.1.2.1, gg.1⟩, u2.1.2.1, fun i k hi hk => ?_⟩
          have e1 : i = 0 := by have hi : (i : Int) = ν1 0 + 0 := hi; rw [u2.1.1.1] at hi; omega
          have e2 : k = 50 := by have hk : (k : Int) = ν1 0 + 50 := hk; rw [u2.1.1.1] at hk; omega
          subst e1; subst e2
          show ab_Vr _ _ (.inl (ab_fr C 0 30720000).2) (m_get σ' 12 0 50)
          rw [w1]
          show ab_I _ _ _ w.toInt
          rw [w2]
          exact gg
        · exact (ac_oF_ok h hp.2.2.2.1 k2 k3 o ho).ex u2.2.1 u2.2.2
    · cases hs
