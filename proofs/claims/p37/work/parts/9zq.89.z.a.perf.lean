/-! a call performed in the first hall, by what it is -/
/-- what the calls hold: bounds of their first fields -/
def ar_fits : List (List (Int × Int)) := [[(0, 0), (0, 4), (1, 1000000)],
  [(1, 1), ((-1), 4), (1, 1000000)],
  [(2, 2), (0, 4), (0, 2), (0, 1), (1, 9999), (1, 1000), (0, 1000), (0, 3)],
  [(3, 3), (0, 4), (0, 2), (0, 1), (1, 9999), (1, 1000), (1, 9999)],
  [(4, 4), (0, 119), (0, 119)],
  [(5, 5), (0, 119)],
  [(6, 6), (0, 4), (0, 2), (0, 2), (1, 1000), ((-9998), 9998)],
  [(7, 7), (0, 2), (0, 50)],
  [(8, 8), (0, 2)],
  [(9, 9), (0, 2)],
  [(10, 10), (0, 2), (2, 5)],
  [(11, 11), (0, 2), (1, 1000)],
  [(12, 12), (0, 199)],
  [(13, 13), ((-50), 50), ((-50), 50), ((-50), 50)],
  [(14, 14), (1, 50)],
  [(15, 15), (0, 2), (0, 4), (1, 9999)],
  [(16, 16)]]
def ar_fit (σ : mS) (i : Nat) : Nat → List (Int × Int) → Prop
  | _, [] => True
  | k, q :: t => (∃ y : Int32, m_get σ 1 i k = .inl y ∧ q.1 ≤ y.toInt ∧ y.toInt ≤ q.2) ∧ ar_fit σ i (k + 1) t
def ar_iO (e : ab_E) : Nat → List (Int × Int) → ab_C → List ac_O → ab_C × List ac_O
  | _, [], C, O => (C, O)
  | k, q :: t, C, O => ar_iO e (k + 1) t (ab_fr C q.1 q.2).1 ((1, e, (0, (k : Int)), .inl (ab_fr C q.1 q.2).2) :: O)
theorem ar_iO_ok {xs : ab_X} {e : ab_E} {σ : mS} {i : Nat} : ∀ {qs : List (Int × Int)} {k : Nat} {C : ab_C} {ν : ab_N} {O : List ac_O}, ab_cx xs C ν → ab_I C.1.length ν e (i : Int) → (∀ o ∈ O, ac_ov C.1.length ν σ o) → ar_fit σ i k qs → ∃ ν', ab_up xs C ν (ar_iO e k qs C O).1 ν' ∧ ∀ o ∈ (ar_iO e k qs C O).2, ac_ov (ar_iO e k qs C O).1.1.length ν' σ o
  | [], k, C, ν, O, h, _, hO, _ => ⟨ν, ab_up.rf h, hO⟩
  | q :: t, k, C, ν, O, h, he, hO, ⟨⟨y, y1, y2, y3⟩, ht⟩ => by
    obtain ⟨ν1, u1, g1⟩ := ab_fr_ok h y2 y3
    have he1 := u1.I he
    obtain ⟨ν2, u2, g2⟩ := ar_iO_ok (qs := t) (k := k + 1) (O := (1, e, (0, (k : Int)), .inl (ab_fr C q.1 q.2).2) :: O) u1.1 he1 (fun o ho => by
      rcases List.mem_cons.mp ho with rfl | ho
      · refine ⟨⟨he1.1, g1.1⟩, u1.1.2.1, fun i' k' hi hk => ?_⟩
        have hi : (i' : Int) = ν1 e.1 + e.2 := hi
        have hk : (k' : Int) = ν1 0 + (k : Int) := hk
        rw [u1.1.1.1] at hk
        have e1 : i' = i := by have := he1.2; omega
        have e2 : k' = k := by omega
        subst e1; subst e2
        show ab_Vr _ _ (.inl (ab_fr C q.1 q.2).2) (m_get σ 1 i' k')
        rw [y1]
        exact g1
      · exact (hO o ho).ex u1.2.1 u1.2.2) ht
    exact ⟨ν2, u1.tr u2, g2⟩
def ar_p0 : ab_C × List ab_V := ac_ini [(2, 4, 0, 0, 1, 1), (2, 1, 0, 511, 1, 1)] ac_C1
def ar_pe : ab_E := match ar_p0.2 with
  | _ :: .inr (.inr (.inl z)) :: _ => z.2.1
  | _ => (0, 0)
def ar_lng : ab_T := (1, 0, (-9223372036854775808), 9223372036854775807, 0, 0)
def ar_ckE (e : ac_Q) : Bool := e.2.2.1.isNone && match e.2.1 with
  | .inl (some v) => ab_in e.1 v ar_lng
  | _ => false
def ar_ck (q : List (Int × Int)) : Bool := match ar_ret ac_SP0 (ar_go sm_gb (ac_K0, ar_W61) (ac_SPt (ac_K0, ar_W61) ar_A5) ac_LP0 ac_PL ac_nc 4000) 61 ar_p0.2 (ar_iO ar_pe 0 q ar_p0.1 []).1 (none, (ar_iO ar_pe 0 q ar_p0.1 []).2, []) with
  | some outs => outs.all ar_ckE
  | none => false
