/-! contracts of the second analysis: a method, kinds of its arguments, boxes that it may write, what it returns, what it throws, cells that are known behind it (class, number, at which argument or at the result, bounds) -/
abbrev ac_Po : Type := Nat × Nat × Option Nat × Int × Int
abbrev ac_Pr : Type := Nat × Nat × Nat × Nat × Int
abbrev ac_Ct : Type := Nat × List ab_T × List ab_G × Option (Option ab_T) × List Nat × List ac_Po × Option ac_Pr
def ac_inL (C : ab_C) : List ab_V → List ab_T → Bool
  | [], [] => true
  | v :: vs, T :: Ts => ab_in C v T && ac_inL C vs Ts
  | _, _ => false
def ac_TrL : List ab_T → List mV → Prop
  | [], [] => True
  | T :: Ts, x :: xs => ab_Tr T x ∧ ac_TrL Ts xs
  | _, _ => False
def ac_subB (b b' : ab_G) : Bool := Nat.beq b.1 b'.1 && (Nat.ble b'.2.1 b.2.1 && (Nat.ble b.2.2.1 b'.2.2.1 && (Nat.ble b'.2.2.2.1 b.2.2.2.1 && (Nat.ble b.2.2.2.2.1 b'.2.2.2.2.1 && ab_Tle b.2.2.2.2.2 b'.2.2.2.2.2))))
def ac_subW (W W' : List ab_G) : Bool := W.all (fun b => W'.any (ac_subB b))
def ac_hitW (C : ab_C) (W : List ab_G) (o : ac_O) : Bool := W.any (fun b => Nat.beq b.1 o.1 && ac_over (ab_iv C.1 o.2.1) (ab_iv C.1 o.2.2.1) b)
def ac_srcE (args : List ab_V) (v : Option ab_V) (s : Option Nat) : Option ab_E := match s with
  | none => (match v with
    | some (.inl e) => some e
    | _ => none)
  | some a => (match args[a]? with
    | some (.inl e) => some e
    | _ => none)
def ac_src (avs : List mV) (x : Option mV) (s : Option Nat) : Option Int := match s with
  | none => (match x with
    | some (.inl y) => some y.toInt
    | _ => none)
  | some a => (match avs[a]? with
    | some (.inl y) => some y.toInt
    | _ => none)
/-- what is known behind -/
def ac_pst (avs : List mV) (x : Option mV) (σ : mS) (p : ac_Po) : Prop := ∀ z, ac_src avs x p.2.2.1 = some z → ∀ k : Nat, (k : Int) = z → ab_Tr (ac_TI p.2.2.2.1 p.2.2.2.2) (m_get σ p.1 p.2.1 k)
def ac_pd (C : ab_C) (O : List ac_O) (w : Int) (args : List ab_V) (p : ac_Po) : Bool := Nat.beq p.1 13 && (Nat.beq p.2.1 ac_ST && ((ab_le (w + 1) p.2.2.2.1 || ab_le (p.2.2.2.2 + 1) w) && (match p.2.2.1 with
  | some a => (match args[a]? with
    | some (.inl e) => ab_le 0 (ab_iv C.1 e).1 && (ab_le (ab_iv C.1 e).2 119 && (match ac_find C O 13 (0, (ac_ST : Int)) e with
      | some (.inl f) => ab_le w (ab_iv C.1 f).1 && ab_le (ab_iv C.1 f).2 w
      | _ => false))
    | _ => false)
  | none => false)))
def ac_hS (b : ab_G) : Bool := Nat.beq b.1 13 && (Nat.ble b.2.1 ac_ST && Nat.ble ac_ST b.2.2.1)
def ac_gW (W : List ab_G) (w : Int) : Nat := bif W.all (fun b => !(ac_hS b)) then 0 else bif W.all (fun b => !(ac_hS b) || (Nat.beq b.2.2.2.2.2.1 0 && (ab_le (b.2.2.2.2.2.2.2.2.1 + 1) w || ab_le (w + 1) b.2.2.2.2.2.2.2.1))) then 1 else 2
def ac_gN (C : ab_C) (O : List ac_O) (args : List ab_V) (ct : ac_Ct) (gh : List (Int × ab_E)) : ab_C × List (Int × ab_E) := match gh with
  | [g] => (match ac_gW ct.2.2.1 g.1 with
    | 0 => (C, [g])
    | 1 => (ab_asle (ab_fr C 0 120).1 ((ab_fr C 0 120).2.1, (ab_fr C 0 120).2.2 + (bif ct.2.2.2.2.2.1.any (ac_pd C O g.1 args) then 1 else 0)) g.2, [(g.1, (ab_fr C 0 120).2)])
    | _ => ((ab_fr C 0 120).1, [(g.1, (ab_fr C 0 120).2)]))
  | _ => (C, [])
def ac_pO (args : List ab_V) (v : Option ab_V) : List ac_Po → ab_C → List ac_O → ab_C × List ac_O
  | [], C, O => (C, O)
  | p :: ps, C, O => match ac_srcE args v p.2.2.1 with
    | some e => bif ab_le p.2.2.2.1 p.2.2.2.2 then ac_pO args v ps (ab_fr C p.2.2.2.1 p.2.2.2.2).1 ((p.1, (0, (p.2.1 : Int)), e, .inl (ab_fr C p.2.2.2.1 p.2.2.2.2).2) :: O) else ac_pO args v ps C O
    | none => ac_pO args v ps C O
def ac_oF (C : ab_C) (W : List ab_G) (O : List ac_O) : List ac_O := O.filter (fun o => !(ac_hitW C W o))
def ac_nr1 (args : List ab_V) (v : Option ab_V) (c : Option ab_E) (ps : List ac_Po) (C : ab_C) (O : List ac_O) (gh : List (Int × ab_E)) : ac_Q := ((ac_pO args v ps C O).1, .inl v, (c, (ac_pO args v ps C O).2, gh))
def ac_nrm (ct : ac_Ct) (args : List ab_V) (C : ab_C) (H : ac_H) (t : Option ab_T) : ac_Q := match t with
  | none => ac_nr1 args none H.1 ct.2.2.2.2.2.1 (ac_gN C H.2.1 args ct H.2.2).1 (ac_oF C ct.2.2.1 H.2.1) (ac_gN C H.2.1 args ct H.2.2).2
  | some T => ac_nr1 args (some (ab_of (ac_gN C H.2.1 args ct H.2.2).1 T).2) H.1 ct.2.2.2.2.2.1 (ab_of (ac_gN C H.2.1 args ct H.2.2).1 T).1 (ac_oF C ct.2.2.1 H.2.1) (ac_gN C H.2.1 args ct H.2.2).2
def ac_app (kp : ac_Kp) (ct : ac_Ct) (args : List ab_V) (C : ab_C) (H : ac_H) : Option (List ac_Q) :=
  bif ac_inL C args ct.2.1 && ac_subW ct.2.2.1 kp.2 then some ((match ct.2.2.2.1 with
    | none => []
    | some t => [ac_nrm ct args C H t]) ++ ct.2.2.2.2.1.map (fun x => (C, .inr x, (H.1, ac_oF C ct.2.2.1 H.2.1, [])))) else none
def ac_prO (C : ab_C) (p : ac_Pr) (o : ac_O) : Bool := Nat.beq o.1 p.1 && (ab_eE o.2.1 (0, (p.2.1 : Int)) && (ab_le (p.2.2.1 : Int) (ab_iv C.1 o.2.2.1).1 && (ab_le (ab_iv C.1 o.2.2.1).2 (p.2.2.2.1 : Int) && ab_in C o.2.2.2 (ac_TI p.2.2.2.2 p.2.2.2.2))))
/-- what must be known ahead -/
def ac_prB (C : ab_C) (O : List ac_O) (p : Option ac_Pr) : Bool := match p with
  | none => true
  | some p => O.any (ac_prO C p)
def ac_pre (σ : mS) (p : Option ac_Pr) : Prop := match p with
  | none => True
  | some p => ∃ k : Nat, p.2.2.1 ≤ k ∧ k ≤ p.2.2.2.1 ∧ ab_Tr (ac_TI p.2.2.2.2 p.2.2.2.2) (m_get σ p.1 p.2.1 k)
def ac_SPt (kp : ac_Kp) (cts : List ac_Ct) : ac_SP := fun j args C H => match cts.find? (fun ct => Nat.beq ct.1 j && (ac_inL C args ct.2.1 && ac_prB C H.2.1 ct.2.2.2.2.2.2)) with
  | some ct => ac_app kp ct args C H
  | none => none
def ac_res (ct : ac_Ct) (avs : List mV) (x : mX) (σ : mS) : Prop := match x with
  | .inl r => (∃ t, ct.2.2.2.1 = some t ∧ match t, r with
    | none, none => True
    | some T, some w => ab_Tr T w
    | _, _ => False) ∧ ∀ p ∈ ct.2.2.2.2.2.1, ac_pst avs r σ p
  | .inr e => e ∈ ct.2.2.2.2.1
/-- the contract holds -/
def ac_cok (l : Launch) (K : ac_Kd) (ct : ac_Ct) : Prop := ∀ (avs : List mV) (σ : mS), ac_TrL ct.2.1 avs → ac_KK K σ → ac_pre σ ct.2.2.2.2.2.2 → ∀ Q : mX → mS → Prop, (∀ x σ', ac_KK K σ' → ac_fr ct.2.2.1 σ σ' → σ'.1 1 = σ.1 1 → ac_res ct avs x σ' → Q x σ') → m_ConI l ct.1 avs σ Q
section ACH
variable {xs : ab_X} {C : ab_C} {ν ν' : ab_N} {kp : ac_Kp} {σ0 σ σ' : mS} {H : ac_H} {n : Nat} {l : Launch}
theorem ac_inL_ok (h : ab_cx xs C ν) : ∀ {vs : List ab_V} {Ts : List ab_T} {avs : List mV}, ab_Vs C.1.length ν vs avs → ac_inL C vs Ts = true → ac_TrL Ts avs
  | [], [], [], _, _ => trivial
  | v :: vs, T :: Ts, x :: xs, ⟨h1, h2⟩, hi => by
    unfold ac_inL at hi
    rw [Bool.and_eq_true] at hi
    exact ⟨ab_in_ok h h1 hi.1, ac_inL_ok h h2 hi.2⟩
  | [], _, _ :: _, h, _ => h.elim
  | _ :: _, _, [], h, _ => h.elim
  | [], _ :: _, [], _, hi => by cases hi
  | _ :: _, [], _ :: _, _, hi => by cases hi
theorem ac_fr_tr {W W' : List ab_G} (h : ac_fr W' σ0 σ) (g : ac_fr W σ σ') (hs : ac_subW W W' = true) : ac_fr W' σ0 σ' := by
  refine ⟨fun c hc => (g.1 c hc).trans (h.1 c hc), Nat.le_trans h.2.1 g.2.1, fun c i hc => (g.2.2.1 c i hc).trans (h.2.2.1 c i hc), fun c i k hn => ?_⟩
  have a1 := h.2.1
  have a2 := g.2.1
  rcases g.2.2.2 c i k (fun z => hn ⟨z.1, by omega, z.2.2⟩) with e | ⟨b, b1, b2, b3⟩
  · rw [e]
    exact h.2.2.2 c i k (fun z => hn ⟨z.1, z.2.1, by omega⟩)
  · obtain ⟨b', c1, c2⟩ := List.any_eq_true.mp (List.all_eq_true.mp hs b b1)
    unfold ac_subB at c2
    simp only [Bool.and_eq_true, Nat.ble_eq] at c2
    obtain ⟨d1, d2, d3, d4, d5, d6⟩ := c2
    obtain ⟨f1, f2, f3, f4, f5⟩ := b2
    exact Or.inr ⟨b', c1, ⟨(Nat.eq_of_beq_eq_true d1).symm.trans f1, by omega, by omega, by omega, by omega⟩, ab_Tle_ok d6 b3⟩
theorem ac_oF_ok {W : List ab_G} {O : List ac_O} (h : ab_cx xs C ν) (hO : ∀ o ∈ O, ac_ov C.1.length ν σ o) (g : ac_fr W σ σ') (hc : σ'.1 1 = σ.1 1) : ∀ o ∈ ac_oF C W O, ac_ov C.1.length ν σ' o := by
  intro o ho
  obtain ⟨m1, m2⟩ := List.mem_filter.mp ho
  obtain ⟨q1, q2, q3⟩ := hO o m1
  refine ⟨q1, q2, fun i k hi hk => ?_⟩
  rcases g.2.2.2 o.1 i k (fun z => by omega) with e | ⟨b, b1, b2, b3⟩
  · rw [e]
    exact q3 i k hi hk
  · have hm : ac_hitW C W o = false := by simpa using m2
    have ht : ac_hitW C W o = true := by
      unfold ac_hitW
      refine List.any_eq_true.mpr ⟨b, b1, ?_⟩
      obtain ⟨f1, f2, f3, f4, f5⟩ := b2
      have i1 := ab_iv_ok h.1 (e := o.2.1) (x := (i : Int)) ⟨q1.1, hi⟩
      have i2 := ab_iv_ok h.1 (e := o.2.2.1) (x := (k : Int)) ⟨q2, hk⟩
      unfold ac_over
      simp only [Bool.and_eq_true, ab_le_ok]
      exact ⟨by rw [f1]; exact Nat.beq_refl _, by omega, by omega, by omega, by omega⟩
    rw [ht] at hm
    cases hm
theorem ac_srcE_ok {args : List ab_V} {avs : List mV} {v : Option ab_V} {x : Option mV} {s : Option Nat} {e : ab_E} (ha : ab_Vs n ν args avs) (hv : ab_xo n ν (.inl v) (.inl x)) (he : ac_srcE args v s = some e) : ∃ z, ac_src avs x s = some z ∧ ab_I n ν e z := by
  unfold ac_srcE at he
  unfold ac_src
  cases s with
  | none =>
    dsimp only at he ⊢
    split at he
    · rename_i e'
      cases he
      cases x with
      | none => exact hv.elim
      | some w =>
        obtain ⟨y, rfl, g⟩ := ab_Vi (show ab_Vr n ν (.inl e) w from hv)
        exact ⟨_, rfl, g⟩
    · cases he
  | some a =>
    dsimp only at he ⊢
    split at he
    · rename_i e' hq
      cases he
      have key : ∀ {args : List ab_V} {avs : List mV} {a : Nat}, ab_Vs n ν args avs → args[a]? = some (.inl e) → ∃ y : Int32, avs[a]? = some (.inl y) ∧ ab_I n ν e y.toInt := by
        intro args
        induction args with
        | nil => intro avs a _ hq; cases hq
        | cons v vs ih =>
          intro avs a hv hq
          cases avs with
          | nil => exact hv.elim
          | cons y ys =>
            cases a with
            | zero =>
              have e1 : v = .inl e := by simpa using hq
              subst e1
              obtain ⟨z, rfl, g⟩ := ab_Vi hv.1
              exact ⟨z, rfl, g⟩
            | succ a =>
              obtain ⟨z, z1, z2⟩ := ih hv.2 (show vs[a]? = some (.inl e) by simpa using hq)
              exact ⟨z, by simpa using z1, z2⟩
      obtain ⟨y, y1, y2⟩ := key ha hq
      rw [y1]
      exact ⟨_, rfl, y2⟩
    · cases he
theorem ac_xo_ex {n n' : Nat} {ν ν' : ab_N} {o : Option ab_V ⊕ Nat} {x : mX} (h : ab_xo n ν o x) (g : ab_ex n ν ν') (hn : n ≤ n') : ab_xo n' ν' o x := by
  rcases o with v | a
  · cases v with
    | none =>
      cases x with
      | inl w =>
        cases w with
        | none => trivial
        | some _ => exact h.elim
      | inr _ => exact h.elim
    | some v =>
      cases x with
      | inl w =>
        cases w with
        | none => exact h.elim
        | some w => exact ab_Vr.ex (v := v) (x := w) h g hn
      | inr _ => exact h.elim
  · cases x with
    | inl w => cases w <;> exact h.elim
    | inr b => exact h
theorem ac_pO_ok {args : List ab_V} {avs : List mV} {v : Option ab_V} {x : Option mV} : ∀ {ps : List ac_Po} {C : ab_C} {ν : ab_N} {O : List ac_O}, ab_cx xs C ν → ab_Vs C.1.length ν args avs → ab_xo C.1.length ν (.inl v) (.inl x) → (∀ o ∈ O, ac_ov C.1.length ν σ o) → (∀ p ∈ ps, ac_pst avs x σ p) → ∃ ν', ab_up xs C ν (ac_pO args v ps C O).1 ν' ∧ ∀ o ∈ (ac_pO args v ps C O).2, ac_ov (ac_pO args v ps C O).1.1.length ν' σ o
  | [], C, ν, O, h, _, _, hO, _ => ⟨ν, ab_up.rf h, hO⟩
  | p :: ps, C, ν, O, h, ha, hv, hO, hp => by
    have tl := fun q hq => hp q (List.mem_cons_of_mem p hq)
    unfold ac_pO
    cases he : ac_srcE args v p.2.2.1 with
    | none => exact ac_pO_ok h ha hv hO tl
    | some e =>
      dsimp only
      cases hb : ab_le p.2.2.2.1 p.2.2.2.2 with
      | false => exact ac_pO_ok h ha hv hO tl
      | true =>
        rw [ab_le_ok] at hb
        dsimp only [cond_true]
        obtain ⟨y, y1, y2⟩ := ac_srcE_ok ha hv he
        have h2 := hp p List.mem_cons_self y y1
        have key : ∃ z : Int, p.2.2.2.1 ≤ z ∧ z ≤ p.2.2.2.2 ∧ ∀ k : Nat, (k : Int) = y → ∃ w : Int32, m_get σ p.1 p.2.1 k = .inl w ∧ w.toInt = z := by
          by_cases hn : 0 ≤ y
          · obtain ⟨w, w1, w2, w3⟩ := ac_TI_ok (h2 y.toNat (by omega))
            refine ⟨w.toInt, w2, w3, fun k hk => ?_⟩
            have e1 : k = y.toNat := by omega
            subst e1
            exact ⟨w, w1, rfl⟩
          · exact ⟨p.2.2.2.1, Int.le_refl _, hb, fun k hk => by omega⟩
        obtain ⟨z, z1, z2, z3⟩ := key
        obtain ⟨ν1, u1, g1⟩ := ab_fr_ok h z1 z2
        obtain ⟨ν2, u2, g2⟩ := ac_pO_ok (ps := ps) (O := (p.1, (0, (p.2.1 : Int)), e, .inl (ab_fr C p.2.2.2.1 p.2.2.2.2).2) :: O) u1.1 (ha.ex u1.2.1 u1.2.2) (ac_xo_ex hv u1.2.1 u1.2.2) (fun o ho => by
          rcases List.mem_cons.mp ho with rfl | ho
          · have hx1 := u1.I y2
            refine ⟨⟨u1.1.2.1, g1.1⟩, hx1.1, fun i k hi hk => ?_⟩
            have e1 : i = p.2.1 := by
              have hi : (i : Int) = ν1 0 + (p.2.1 : Int) := hi
              rw [u1.1.1.1] at hi
              omega
            subst e1
            have hk : (k : Int) = ν1 e.1 + e.2 := hk
            obtain ⟨w, w1, w2⟩ := z3 k (hk.trans hx1.2.symm)
            show ab_Vr _ _ (.inl (ab_fr C p.2.2.2.1 p.2.2.2.2).2) (m_get σ p.1 p.2.1 k)
            rw [w1]
            show ab_I _ _ _ w.toInt
            rw [w2]
            exact g1
          · exact (hO o ho).ex u1.2.1 u1.2.2) tl
        exact ⟨ν2, u1.tr u2, g2⟩
theorem ac_cnt_le {p q : Nat → Bool} : ∀ {l : List Nat}, (∀ k ∈ l, q k = true → p k = true) → (l.filter q).length ≤ (l.filter p).length
  | [], _ => Nat.le_refl _
  | a :: t, h => by
    have ih := ac_cnt_le (l := t) (fun k hk => h k (List.mem_cons_of_mem _ hk))
    rw [List.filter_cons, List.filter_cons]
    by_cases hq : q a = true
    · rw [if_pos hq, if_pos (h a List.mem_cons_self hq)]
      exact Nat.succ_le_succ ih
    · rw [if_neg hq]
      by_cases hp : p a = true
      · rw [if_pos hp]
        exact Nat.le_succ_of_le ih
      · rw [if_neg hp]
        exact ih
theorem ac_cnt_lt {p q : Nat → Bool} {b : Nat} : ∀ {l : List Nat}, (∀ k ∈ l, q k = true → p k = true) → b ∈ l → p b = true → q b = false → (l.filter q).length < (l.filter p).length
  | [], _, hb, _, _ => by cases hb
  | a :: t, h, hb, h1, h2 => by
    have hle := ac_cnt_le (l := t) (fun k hk => h k (List.mem_cons_of_mem _ hk))
    rw [List.filter_cons, List.filter_cons]
    rcases List.mem_cons.mp hb with rfl | hb
    · rw [if_pos h1, if_neg (by rw [h2]; exact fun z => by cases z)]
      exact Nat.lt_succ_of_le hle
    · have ih := ac_cnt_lt (l := t) (fun k hk => h k (List.mem_cons_of_mem _ hk)) hb h1 h2
      by_cases hq : q a = true
      · rw [if_pos hq, if_pos (h a List.mem_cons_self hq)]
        exact Nat.succ_lt_succ ih
      · rw [if_neg hq]
        by_cases hp : p a = true
        · rw [if_pos hp]
          exact Nat.lt_succ_of_lt ih
        · rw [if_neg hp]
          exact ih
theorem ac_gN_ok {ct : ac_Ct} {args : List ab_V} {avs : List mV} {r : Option mV} (h : ab_cx xs C ν) (ha : ab_Vs C.1.length ν args avs) (hO : ∀ o ∈ H.2.1, ac_ov C.1.length ν σ o) (hg : ∀ g ∈ H.2.2, ab_I C.1.length ν g.2 (ac_ct g.1 σ : Int)) (hf : ac_fr ct.2.2.1 σ σ') (hps : ∀ p ∈ ct.2.2.2.2.2.1, ac_pst avs r σ' p) :
    ∃ ν', ab_up xs C ν (ac_gN C H.2.1 args ct H.2.2).1 ν' ∧ ∀ g ∈ (ac_gN C H.2.1 args ct H.2.2).2, ab_I (ac_gN C H.2.1 args ct H.2.2).1.1.length ν' g.2 (ac_ct g.1 σ' : Int) := by
  unfold ac_gN
  split
  · rename_i g hgh
    have hg1 := hg g (by rw [hgh]; exact List.mem_cons_self)
    have hcell : ∀ k, m_get σ' 13 ac_ST k = m_get σ 13 ac_ST k ∨ ∃ b ∈ ct.2.2.1, ac_hS b = true ∧ ab_Tr b.2.2.2.2.2 (m_get σ' 13 ac_ST k) := fun k => by
      rcases hf.2.2.2 13 ac_ST k (fun z => by omega) with e | ⟨b, b1, b2, b3⟩
      · exact Or.inl e
      · refine Or.inr ⟨b, b1, ?_, b3⟩
        obtain ⟨f1, f2, f3, -, -⟩ := b2
        unfold ac_hS
        rw [Bool.and_eq_true, Bool.and_eq_true, Nat.ble_eq, Nat.ble_eq]
        exact ⟨by rw [f1]; rfl, f2, f3⟩
    unfold ac_gW
    cases h0 : ct.2.2.1.all (fun b => !(ac_hS b)) with
    | true =>
      refine ⟨ν, ab_up.rf h, fun q hq => ?_⟩
      have e := List.mem_singleton.mp hq
      subst e
      have e2 : ac_ct q.1 σ' = ac_ct q.1 σ := by
        unfold ac_ct
        congr 2
        funext k
        rcases hcell k with e | ⟨b, b1, b2, -⟩
        · rw [e]
        · have := List.all_eq_true.mp h0 b b1
          rw [b2] at this
          cases this
      rw [e2]
      exact hg1
    | false =>
    dsimp only [cond_false]
    cases h1 : ct.2.2.1.all (fun b => !(ac_hS b) || (Nat.beq b.2.2.2.2.2.1 0 && (ab_le (b.2.2.2.2.2.2.2.2.1 + 1) g.1 || ab_le (g.1 + 1) b.2.2.2.2.2.2.2.1))) with
    | false =>
      obtain ⟨ν1, u1, g1⟩ := ab_fr_ok h (x := (ac_ct g.1 σ' : Int)) (lo := 0) (hi := 120) (by omega) (by have := ac_ct_le (σ := σ') (w := g.1); omega)
      refine ⟨ν1, u1, fun q hq => ?_⟩
      have e := List.mem_singleton.mp hq
      subst e
      exact g1
    | true =>
      dsimp only [cond_true]
      have mono : ∀ k, ac_isw g.1 (m_get σ' 13 ac_ST k) = true → ac_isw g.1 (m_get σ 13 ac_ST k) = true := by
        intro k hk
        rcases hcell k with e | ⟨b, b1, b2, b3⟩
        · rw [← e]; exact hk
        · have hb := List.all_eq_true.mp h1 b b1
          rw [b2] at hb
          simp only [Bool.not_true, Bool.false_or, Bool.and_eq_true, Bool.or_eq_true, ab_le_ok] at hb
          obtain ⟨y, y1, y2⟩ := ac_isw_ok.mp hk
          rw [y1] at b3
          obtain ⟨t1, t2, t3⟩ := b3
          omega
      have le0 : ac_ct g.1 σ' ≤ ac_ct g.1 σ := ac_cnt_le (fun k _ hk => mono k hk)
      have dd : ac_ct g.1 σ' + (bif ct.2.2.2.2.2.1.any (ac_pd C H.2.1 g.1 args) then 1 else 0) ≤ ac_ct g.1 σ := by
        cases hany : ct.2.2.2.2.2.1.any (ac_pd C H.2.1 g.1 args) with
        | false => exact le0
        | true =>
          dsimp only [cond_true]
          obtain ⟨p, p1, p2⟩ := List.any_eq_true.mp hany
          have hpp := hps p p1
          unfold ac_pd at p2
          rw [Bool.and_eq_true, Bool.and_eq_true, Bool.and_eq_true, Bool.or_eq_true, ab_le_ok, ab_le_ok] at p2
          obtain ⟨q1, q2, q3, q4⟩ := p2
          split at q4
          · rename_i a hs
            split at q4
            · rename_i e he
              rw [Bool.and_eq_true, Bool.and_eq_true, ab_le_ok, ab_le_ok] at q4
              obtain ⟨r1, r2, r3⟩ := q4
              obtain ⟨z, z1, z2⟩ := ac_srcE_ok (v := none) (x := none) (s := some a) (e := e) ha (by trivial) (by unfold ac_srcE; dsimp only; rw [he])
              have z1' : ac_src avs r p.2.2.1 = some z := by rw [hs]; exact z1
              have bz := ab_iv_ok h.1 z2
              have hz := hpp z z1' z.toNat (by omega)
              rw [Nat.eq_of_beq_eq_true q1, Nat.eq_of_beq_eq_true q2] at hz
              obtain ⟨w', w1, w2, w3⟩ := ac_TI_ok hz
              split at r3
              · rename_i f hfnd
                rw [Bool.and_eq_true, ab_le_ok, ab_le_ok] at r3
                have gf := ac_find_ok (i := ac_ST) (k := z.toNat) h hO (ab_con h) (by have e9 : ((z.toNat : Nat) : Int) = z := by omega
                                                                                      rw [e9]; exact z2) hfnd
                obtain ⟨y, y1, y2⟩ := ab_Vi gf
                have by2 := ab_iv_ok h.1 y2
                refine ac_cnt_lt (b := z.toNat) (fun k _ hk => mono k hk) (List.mem_range.mpr (by omega)) (ac_isw_ok.mpr ⟨y, y1, by omega⟩) ?_
                cases hw : ac_isw g.1 (m_get σ' 13 ac_ST z.toNat) with
                | false => rfl
                | true =>
                  obtain ⟨y', y3, y4⟩ := ac_isw_ok.mp hw
                  rw [w1] at y3
                  cases y3
                  omega
              · cases r3
            · cases q4
          · cases q4
      obtain ⟨ν1, u1, g1⟩ := ab_fr_ok h (x := (ac_ct g.1 σ' : Int)) (lo := 0) (hi := 120) (by omega) (by have := ac_ct_le (σ := σ') (w := g.1); omega)
      have hge := u1.I hg1
      have g2 := ab_asle_ok (e := ((ab_fr C 0 120).2.1, (ab_fr C 0 120).2.2 + (bif ct.2.2.2.2.2.1.any (ac_pd C H.2.1 g.1 args) then 1 else 0))) (f := g.2) (x := (ac_ct g.1 σ' : Int) + (bif ct.2.2.2.2.2.1.any (ac_pd C H.2.1 g.1 args) then 1 else 0)) (y := (ac_ct g.1 σ : Int)) u1.1 ⟨g1.1, by rw [g1.2]; exact Int.add_assoc _ _ _⟩ hge (by
        cases hany : ct.2.2.2.2.2.1.any (ac_pd C H.2.1 g.1 args) with
        | true => rw [hany] at dd; dsimp only [cond_true] at dd ⊢; omega
        | false => rw [hany] at dd; dsimp only [cond_false] at dd ⊢; omega)
      refine ⟨ν1, ⟨g2.1, u1.2.1, Nat.le_trans u1.2.2 (Nat.le_of_eq g2.2.symm)⟩, fun q hq => ?_⟩
      have e := List.mem_singleton.mp hq
      subst e
      exact ⟨Nat.lt_of_lt_of_eq g1.1 g2.2.symm, g1.2⟩
  · exact ⟨ν, ab_up.rf h, fun q hq => by cases hq⟩
theorem ac_cn_fr {o : Option ab_E} (h : ac_cn n ν o σ0 σ) (hc : σ'.1 1 = σ.1 1) : ac_cn n ν o σ0 σ' := by
  cases o with
  | none => exact hc.trans h
  | some e =>
    show ab_I n ν e (σ'.1 1 : Int)
    rw [hc]
    exact h
theorem ac_nr_ok {ct : ac_Ct} {args : List ab_V} {avs : List mV} {C1 : ab_C} {v : Option ab_V} {x : Option mV} {gh : List (Int × ab_E)} {Q : mX → mS → Prop} (h : ab_cx xs C ν) (ha : ab_Vs C.1.length ν args avs) (hp : ac_hp kp σ0 C.1.length ν H σ) (hk : ac_KK kp.1 σ') (hf : ac_fr ct.2.2.1 σ σ') (hc : σ'.1 1 = σ.1 1) (hs : ac_subW ct.2.2.1 kp.2 = true) (hps : ∀ p ∈ ct.2.2.2.2.2.1, ac_pst avs x σ' p)
    (u : ab_up xs C ν C1 ν') (hx : ab_xo C1.1.length ν' (.inl v) (.inl x)) (hgh : ∀ g ∈ gh, ab_I C1.1.length ν' g.2 (ac_ct g.1 σ' : Int))
    (hQ : ∀ ν'' x σ'', ab_up xs C ν (ac_nr1 args v H.1 ct.2.2.2.2.2.1 C1 (ac_oF C ct.2.2.1 H.2.1) gh).1 ν'' → ab_xo (ac_nr1 args v H.1 ct.2.2.2.2.2.1 C1 (ac_oF C ct.2.2.1 H.2.1) gh).1.1.length ν'' (ac_nr1 args v H.1 ct.2.2.2.2.2.1 C1 (ac_oF C ct.2.2.1 H.2.1) gh).2.1 x → ac_hp kp σ0 (ac_nr1 args v H.1 ct.2.2.2.2.2.1 C1 (ac_oF C ct.2.2.1 H.2.1) gh).1.1.length ν'' (ac_nr1 args v H.1 ct.2.2.2.2.2.1 C1 (ac_oF C ct.2.2.1 H.2.1) gh).2.2 σ'' → Q x σ'') : Q (.inl x) σ' := by
  obtain ⟨ν2, u2, g2⟩ := ac_pO_ok (σ := σ') (v := v) (x := x) (args := args) (avs := avs) (ps := ct.2.2.2.2.2.1) (O := ac_oF C ct.2.2.1 H.2.1) u.1 (ha.ex u.2.1 u.2.2) hx (fun o ho => (ac_oF_ok h hp.2.2.2.1 hf hc o ho).ex u.2.1 u.2.2) hps
  exact hQ ν2 (.inl x) σ' (u.tr u2) (ac_xo_ex hx u2.2.1 u2.2.2) ⟨hk, ac_fr_tr hp.2.1 hf hs, ((ac_cn_fr hp.2.2.1 hc).ex u.2.1 u.2.2).ex u2.2.1 u2.2.2, g2, fun g hg => (hgh g hg).ex u2.2.1 u2.2.2⟩
theorem ac_SPt_ok {cts : List ac_Ct} (hcts : ∀ ct ∈ cts, ac_cok l kp.1 ct) : ac_SPok l kp (ac_SPt kp cts) := by
  intro j args C H outs hs xs ν σ0 avs σ h ha hp Q hQ
  unfold ac_SPt at hs
  cases hf : cts.find? (fun ct => Nat.beq ct.1 j && (ac_inL C args ct.2.1 && ac_prB C H.2.1 ct.2.2.2.2.2.2)) with
  | none => rw [hf] at hs; cases hs
  | some ct =>
  rw [hf] at hs
  dsimp only at hs
  have m1 := List.mem_of_find?_eq_some hf
  have m2 := List.find?_some hf
  rw [Bool.and_eq_true, Bool.and_eq_true] at m2
  have e1 := Nat.eq_of_beq_eq_true m2.1
  subst e1
  have hpre : ac_pre σ ct.2.2.2.2.2.2 := by
    have hb := m2.2.2
    unfold ac_prB at hb
    unfold ac_pre
    cases hq : ct.2.2.2.2.2.2 with
    | none => trivial
    | some p =>
      rw [hq] at hb
      obtain ⟨o, o1, o2⟩ := List.any_eq_true.mp hb
      unfold ac_prO at o2
      rw [Bool.and_eq_true, Bool.and_eq_true, Bool.and_eq_true, Bool.and_eq_true, ab_le_ok, ab_le_ok] at o2
      obtain ⟨a1, a2, a3, a4, a5⟩ := o2
      obtain ⟨⟨b1, b2⟩, b3, b4⟩ := hp.2.2.2.1 o o1
      have a2 := ab_eE_ok a2
      have iv2 := ab_iv_ok h.1 (e := o.2.2.1) (x := ν o.2.2.1.1 + o.2.2.1.2) ⟨b3, rfl⟩
      have hn : 0 ≤ ν o.2.2.1.1 + o.2.2.1.2 := by omega
      have gv := b4 p.2.1 (ν o.2.2.1.1 + o.2.2.1.2).toNat (by rw [a2]; show (p.2.1 : Int) = ν 0 + (p.2.1 : Int); rw [h.1.1]; omega) (by omega)
      rw [Nat.eq_of_beq_eq_true a1] at gv
      exact ⟨(ν o.2.2.1.1 + o.2.2.1.2).toNat, by omega, by omega, ab_in_ok h gv a5⟩
  unfold ac_app at hs
  cases hb : (ac_inL C args ct.2.1 && ac_subW ct.2.2.1 kp.2) with
  | false => rw [hb] at hs; cases hs
  | true =>
  rw [hb] at hs
  rw [Bool.and_eq_true] at hb
  have hs := Option.some.inj hs
  refine hcts ct m1 avs σ (ac_inL_ok h ha m2.2.1) hp.1 hpre Q (fun x σ' hk hfr hc hres => ?_)
  cases x with
  | inr b =>
    have hres : b ∈ ct.2.2.2.2.1 := hres
    refine hQ (C, .inr b, (H.1, ac_oF C ct.2.2.1 H.2.1, [])) (by rw [← hs]; exact List.mem_append_right _ (List.mem_map.mpr ⟨b, hres, rfl⟩)) ν (.inr b) σ' (ab_up.rf h) rfl ⟨hk, ac_fr_tr hp.2.1 hfr hb.2, ac_cn_fr hp.2.2.1 hc, ac_oF_ok h hp.2.2.2.1 hfr hc, fun g hg => by cases hg⟩
  | inl r =>
    obtain ⟨⟨t, t1, t2⟩, hps⟩ := hres
    have hmem : ac_nrm ct args C H t ∈ outs := by
      rw [← hs, t1]
      exact List.mem_append_left _ List.mem_cons_self
    have hq := hQ _ hmem
    obtain ⟨ν1, u1, g1⟩ := ac_gN_ok (H := H) h ha hp.2.2.2.1 hp.2.2.2.2 hfr hps
    cases t with
    | none =>
      cases r with
      | some _ => exact t2.elim
      | none => exact ac_nr_ok (v := none) h ha hp hk hfr hc hb.2 hps u1 trivial g1 hq
    | some T =>
      cases r with
      | none => exact t2.elim
      | some w =>
        obtain ⟨ν2, u2, g2⟩ := ab_of_ok u1.1 (show ab_Tr T w from t2)
        exact ac_nr_ok (v := some (ab_of (ac_gN C H.2.1 args ct H.2.2).1 T).2) h ha hp hk hfr hc hb.2 hps (u1.tr u2) g2 (fun g hg => (g1 g hg).ex u2.2.1 u2.2.2) hq
end ACH
/-! a contract out of the method's body -/
def ac_SP0 : ac_SP := fun _ _ _ _ => none
theorem ac_SP0_ok (l : Launch) (kp : ac_Kp) : ac_SPok l kp ac_SP0 := fun _ _ _ _ _ h => by cases h
def ac_ini : List ab_T → ab_C → ab_C × List ab_V
  | [], C => (C, [])
  | T :: Ts, C => ((ac_ini Ts (ab_of C T).1).1, (ab_of C T).2 :: (ac_ini Ts (ab_of C T).1).2)
def ac_ckP (kp : ac_Kp) (C : ab_C) (H : ac_H) (args : List ab_V) (v : Option ab_V) (p : ac_Po) : Bool := match ac_srcE args v p.2.2.1 with
  | some e => ab_le (ab_iv C.1 e).2 (-1) || (match ac_rd kp C H p.1 (0, (p.2.1 : Int)) e with
    | some r => ab_in r.1 r.2.1 (ac_TI p.2.2.2.1 p.2.2.2.2)
    | none => false)
  | none => false
def ac_ckE (kp : ac_Kp) (ct : ac_Ct) (args : List ab_V) (e : ac_Q) : Bool := (match e.2.2.1 with
  | none => true
  | some _ => false) && (match e.2.1 with
  | .inl v => (match ct.2.2.2.1, v with
    | some none, none => true
    | some (some T), some w => ab_in e.1 w T
    | _, _ => false) && ct.2.2.2.2.2.1.all (ac_ckP kp e.1 e.2.2 args v)
  | .inr x => ct.2.2.2.2.1.any (Nat.beq x))
def ac_C1 : ab_C := ([(0, 0)], [], [])
def ac_ch1 (K : ac_Kd) (SP : ac_Kp → ac_SP) (LP : Nat → Nat → Option ac_An) (PL : Nat → Nat → List (Nat × Option Int)) (nc : Nat → Nat → Bool) (ct : ac_Ct) (O : List ac_O) : Bool := match ac_ret ac_SP0 (ac_go (K, ct.2.2.1) (SP (K, ct.2.2.1)) LP PL nc 4000) ct.1 (ac_ini ct.2.1 ac_C1).2 (ac_ini ct.2.1 ac_C1).1 (none, O, []) with
  | some outs => outs.all (ac_ckE (K, ct.2.2.1) ct (ac_ini ct.2.1 ac_C1).2)
  | none => false
def ac_chk (K : ac_Kd) (SP : ac_Kp → ac_SP) (LP : Nat → Nat → Option ac_An) (PL : Nat → Nat → List (Nat × Option Int)) (nc : Nat → Nat → Bool) (ct : ac_Ct) : Bool := match ct.2.2.2.2.2.2 with
  | none => ac_ch1 K SP LP PL nc ct []
  | some p => (List.range (p.2.2.2.1 + 1)).all (fun k => Nat.blt k p.2.2.1 || ac_ch1 K SP LP PL nc ct [(p.1, (0, (p.2.1 : Int)), (0, (k : Int)), .inl (0, p.2.2.2.2))])
section ACI
variable {xs : ab_X} {l : Launch}
theorem ac_ini_ok : ∀ {Ts : List ab_T} {avs : List mV} {C : ab_C} {ν : ab_N}, ab_cx xs C ν → ac_TrL Ts avs → ∃ ν', ab_up xs C ν (ac_ini Ts C).1 ν' ∧ ab_Vs (ac_ini Ts C).1.1.length ν' (ac_ini Ts C).2 avs
  | [], [], C, ν, h, _ => ⟨ν, ab_up.rf h, trivial⟩
  | T :: Ts, x :: xs, C, ν, h, ⟨h1, h2⟩ => by
    obtain ⟨ν1, u1, g1⟩ := ab_of_ok h h1
    obtain ⟨ν2, u2, g2⟩ := ac_ini_ok u1.1 h2
    exact ⟨ν2, u1.tr u2, g1.ex u2.2.1 u2.2.2, g2⟩
  | [], _ :: _, _, _, _, h => h.elim
  | _ :: _, [], _, _, _, h => h.elim
theorem ac_cx1 : ab_cx none ac_C1 (fun _ => 0) := by
  refine ⟨⟨rfl, fun k q hq => ?_⟩, Nat.zero_lt_one, fun q hq => (by cases hq), fun q hq => (by cases hq)⟩
  cases k with
  | zero =>
    have hq' : some ((0 : Int), (0 : Int)) = some q := hq
    cases hq'
    exact ⟨Int.le_refl _, Int.le_refl _⟩
  | succ k => cases hq
theorem ac_ckP_ok {kp : ac_Kp} {C : ab_C} {ν : ab_N} {σ0 σ : mS} {H : ac_H} {args : List ab_V} {avs : List mV} {v : Option ab_V} {x : Option mV} {p : ac_Po} (h : ab_cx xs C ν) (ha : ab_Vs C.1.length ν args avs) (hx : ab_xo C.1.length ν (.inl v) (.inl x)) (hp : ac_hp kp σ0 C.1.length ν H σ) (hc : ac_ckP kp C H args v p = true) : ac_pst avs x σ p := by
  unfold ac_ckP at hc
  cases he : ac_srcE args v p.2.2.1 with
  | none => rw [he] at hc; cases hc
  | some e =>
    rw [he] at hc
    dsimp only at hc
    obtain ⟨z, z1, z2⟩ := ac_srcE_ok ha hx he
    intro z' hz' k hk
    rw [z1] at hz'
    cases hz'
    rcases (Bool.or_eq_true _ _).mp hc with hc | hc
    · rw [ab_le_ok] at hc
      have := ab_iv_ok h.1 z2
      omega
    · cases hr : ac_rd kp C H p.1 (0, (p.2.1 : Int)) e with
      | none => rw [hr] at hc; cases hc
      | some r =>
        rw [hr] at hc
        obtain ⟨ν', u, g, -⟩ := ac_rd_ok h hp (ab_con h) (by rw [hk]; exact z2) hr
        exact ab_in_ok u.1 g hc
theorem ac_ch1_ok (hl : l.stackTraces = false) {K : ac_Kd} {SP : ac_Kp → ac_SP} (hSP : ∀ W, ac_SPok l (K, W) (SP (K, W))) {LP : Nat → Nat → Option ac_An} {PL : Nat → Nat → List (Nat × Option Int)} {nc : Nat → Nat → Bool} {ct : ac_Ct} {O : List ac_O} (hc : ac_ch1 K SP LP PL nc ct O = true) {avs : List mV} {σ : mS} (hT : ac_TrL ct.2.1 avs) (hK : ac_KK K σ) (hO : ∀ (n : Nat) (ν : ab_N), 0 < n → ν 0 = 0 → ∀ o ∈ O, ac_ov n ν σ o) {Q : mX → mS → Prop} (hQ : ∀ x σ', ac_KK K σ' → ac_fr ct.2.2.1 σ σ' → σ'.1 1 = σ.1 1 → ac_res ct avs x σ' → Q x σ') : m_ConI l ct.1 avs σ Q := by
  unfold ac_ch1 at hc
  cases hr : ac_ret ac_SP0 (ac_go (K, ct.2.2.1) (SP (K, ct.2.2.1)) LP PL nc 4000) ct.1 (ac_ini ct.2.1 ac_C1).2 (ac_ini ct.2.1 ac_C1).1 (none, O, []) with
  | none => rw [hr] at hc; cases hc
  | some outs =>
  rw [hr] at hc
  dsimp only at hc
  obtain ⟨ν1, u1, g1⟩ := ac_ini_ok ac_cx1 hT
  have hp : ac_hp (K, ct.2.2.1) σ (ac_ini ct.2.1 ac_C1).1.1.length ν1 (none, O, []) σ := ⟨hK, ac_fr.rf, rfl, hO _ _ u1.1.2.1 u1.1.1.1, fun g hg => by cases hg⟩
  refine ac_ret_ok hl (ac_SP0_ok l _) (ac_go_ok hl (hSP ct.2.2.1) 4000) hr u1.1 g1 hp (fun e he ν' x σ' u hx hσ => ?_)
  have hq := List.all_eq_true.mp hc e he
  unfold ac_ckE at hq
  rw [Bool.and_eq_true] at hq
  obtain ⟨q1, q2⟩ := hq
  have hcn : σ'.1 1 = σ.1 1 := by
    have := hσ.2.2.1
    cases hH : e.2.2.1 with
    | none => rw [hH] at this; exact this
    | some _ => rw [hH] at q1; cases q1
  refine hQ x σ' hσ.1 hσ.2.1 hcn ?_
  obtain ⟨eC, eo, eH⟩ := e
  dsimp only at q2 hx hσ u
  rcases eo with v | b
  · dsimp only at q2
    rw [Bool.and_eq_true] at q2
    obtain ⟨q3, q4⟩ := q2
    cases x with
    | inr _ => cases v <;> exact hx.elim
    | inl r =>
      refine ⟨?_, fun p hp' => ac_ckP_ok u.1 (g1.ex u.2.1 u.2.2) hx hσ (List.all_eq_true.mp q4 p hp')⟩
      split at q3
      · rename_i ht
        refine ⟨none, ht, ?_⟩
        cases r with
        | none => trivial
        | some _ => exact hx.elim
      · rename_i T w ht
        refine ⟨some T, ht, ?_⟩
        cases r with
        | none => exact hx.elim
        | some r => exact ab_in_ok u.1 hx q3
      · cases q3
  · cases x with
    | inl r => cases r <;> exact hx.elim
    | inr x =>
      have e1 : b = x := hx
      subst e1
      obtain ⟨y, y1, y2⟩ := List.any_eq_true.mp q2
      have e2 := Nat.eq_of_beq_eq_true y2
      subst e2
      exact y1
theorem ac_chk_ok (hl : l.stackTraces = false) {K : ac_Kd} {SP : ac_Kp → ac_SP} (hSP : ∀ W, ac_SPok l (K, W) (SP (K, W))) {LP : Nat → Nat → Option ac_An} {PL : Nat → Nat → List (Nat × Option Int)} {nc : Nat → Nat → Bool} {ct : ac_Ct} (hc : ac_chk K SP LP PL nc ct = true) : ac_cok l K ct := by
  intro avs σ hT hK hpre Q hQ
  unfold ac_chk at hc
  cases hp : ct.2.2.2.2.2.2 with
  | none =>
    rw [hp] at hc
    exact ac_ch1_ok hl hSP hc hT hK (fun n ν hn h0 o ho => by cases ho) hQ
  | some p =>
    rw [hp] at hc hpre
    obtain ⟨k, k1, k2, k3⟩ := hpre
    have hk := List.all_eq_true.mp hc k (List.mem_range.mpr (by omega))
    have hb : Nat.blt k p.2.2.1 = false := by
      cases hb : Nat.blt k p.2.2.1 with
      | false => rfl
      | true => rw [Nat.blt_eq] at hb; omega
    rw [hb, Bool.false_or] at hk
    refine ac_ch1_ok hl hSP hk hT hK (fun n ν hn h0 o ho => ?_) hQ
    have e := List.mem_singleton.mp ho
    subst e
    refine ⟨⟨hn, hn⟩, hn, fun i k' hi hk' => ?_⟩
    have e1 : i = p.2.1 := by
      have hi : (i : Int) = ν 0 + (p.2.1 : Int) := hi
      omega
    have e2 : k' = k := by
      have hk' : (k' : Int) = ν 0 + (k : Int) := hk'
      omega
    subst e1; subst e2
    obtain ⟨y, y1, y2, y3⟩ := ac_TI_ok k3
    show ab_Vr n ν (.inl (0, p.2.2.2.2)) (m_get σ p.1 p.2.1 k')
    rw [y1]
    exact ⟨hn, by show y.toInt = ν 0 + p.2.2.2.2; omega⟩
end ACI
