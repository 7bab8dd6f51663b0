/-! loops of the second analysis: dead locals, whether the counter goes up, kinds of locals (the counter first), cells given up, cells known at a local's number, a count that goes down while the trades stay as many -/
abbrev ac_An : Type := List Nat × Bool × List (Nat × ab_T) × List (Nat × Option Int × Option Int) × List (Nat × Nat × Nat × Int × Int) × Option (Int × Bool) × Option Nat
def ac_offL (an : ac_An) (i : Nat) : Bool := an.1.any (fun p => Nat.beq p i) || an.2.2.1.any (fun p => Nat.beq p.1 i)
def ac_oz (z : Option Int) (e : ab_E) : Bool := match z with
  | none => true
  | some z => Nat.beq e.1 0 && (ab_le z e.2 && ab_le e.2 z)
def ac_off (an : ac_An) (o : ac_O) : Bool := an.2.2.2.1.any (fun q => Nat.beq q.1 o.1 && (ac_oz q.2.1 o.2.1 && ac_oz q.2.2 o.2.2.1))
def ac_eO2 (o p : ac_O) : Bool := Nat.beq o.1 p.1 && (ab_eE o.2.2.1 p.2.2.1 && (ab_eE o.2.1 p.2.1 && ab_eV o.2.2.2 p.2.2.2))
theorem ac_eO2_ok {o p : ac_O} (h : ac_eO2 o p = true) : o = p := by
  unfold ac_eO2 at h
  simp only [Bool.and_eq_true] at h
  exact Prod.ext (Nat.eq_of_beq_eq_true h.1) (Prod.ext (ab_eE_ok h.2.2.1) (Prod.ext (ab_eE_ok h.2.1) (ab_eV_ok h.2.2.2)))
def ac_eC (a b : Option ab_E) : Bool := match a, b with
  | none, none => true
  | some e, some f => ab_eE e f
  | _, _ => false
theorem ac_eC_ok {a b : Option ab_E} (h : ac_eC a b = true) : a = b := by
  cases a with
  | none =>
    cases b with
    | none => rfl
    | some _ => cases h
  | some e =>
    cases b with
    | none => cases h
    | some f => exact congrArg some (ab_eE_ok h)
def ac_TI (lo hi : Int) : ab_T := (0, 0, lo, hi, 0, 0)
def ac_ckT (C : ab_C) (L : List (Option ab_V)) (O : List ac_O) (t : Nat × Nat × Nat × Int × Int) : Bool := match ab_ld L t.2.2.1 with
  | some (.inl e) => ab_le (ab_iv C.1 e).2 (-1) || (match ac_find C O t.1 (0, (t.2.1 : Int)) e with
    | some v => ab_in C v (ac_TI t.2.2.2.1 t.2.2.2.2)
    | none => false)
  | _ => false
def ac_ckR (an : ac_An) (C : ab_C) (L : List (Option ab_V)) (H : ac_H) : Bool :=
  an.2.2.1.all (fun p => match ab_ld L p.1 with
    | some v => ab_in C v p.2
    | none => false) && an.2.2.2.2.1.all (ac_ckT C L H.2.1)
def ac_tie (Lc : List (Option mV)) (σ : mS) (t : Nat × Nat × Nat × Int × Int) : Prop := ∃ y : Int32, m_ld Lc t.2.2.1 = some (.inl y) ∧ ∀ k : Nat, (k : Int) = y.toInt → ab_Tr (ac_TI t.2.2.2.1 t.2.2.2.2) (m_get σ t.1 t.2.1 k)
/-- what is held at a loop's head -/
def ac_LI (kp : ac_Kp) (σ0 : mS) (an : ac_An) (n : Nat) (ν : ab_N) (B : List (Option ab_V)) (Hb : ac_H) (Lc : List (Option mV)) (σ : mS) : Prop :=
  ab_Ls n ν B Lc ∧ ac_hp kp σ0 n ν Hb σ ∧ (∀ p ∈ an.2.2.1, ∃ x, m_ld Lc p.1 = some x ∧ ab_Tr p.2 x) ∧ ∀ t ∈ an.2.2.2.2.1, ac_tie Lc σ t
def ac_ivT (L : List (Option ab_V)) : List (Nat × Nat × Nat × Int × Int) → ab_C → List ac_O → ab_C × List ac_O
  | [], C, O => (C, O)
  | t :: ts, C, O => match ab_ld L t.2.2.1 with
    | some (.inl e) => bif ab_le t.2.2.2.1 t.2.2.2.2 then ac_ivT L ts (ab_fr C t.2.2.2.1 t.2.2.2.2).1 ((t.1, (0, (t.2.1 : Int)), e, .inl (ab_fr C t.2.2.2.1 t.2.2.2.2).2) :: O) else ac_ivT L ts C O
    | _ => ac_ivT L ts C O
def ac_gI (K : ac_Kd) (C : ab_C) (O : List ac_O) (g : Option (Int × Bool)) : Option (ab_C × List ac_O × List (Int × ab_E)) := match g with
  | none => some (C, O, [])
  | some w => match ac_rdT K C [] 12 (0, 0) (0, (ac_TR : Int)) with
    | some T => some ((ab_fr (ab_of C T).1 0 120).1, (12, (0, 0), (0, (ac_TR : Int)), (ab_of C T).2) :: O, [(w.1, (ab_fr (ab_of C T).1 0 120).2)])
    | none => none
abbrev ac_Lp : Type := Nat × ac_An × Nat × List (Option ab_V) × ac_H × Nat × Nat × ab_E × ab_E
def ac_Hf (an : ac_An) (H : ac_H) : ac_H := (H.1, H.2.1.filter (fun o => !(ac_off an o)), [])
def ac_eL (an : ac_An) (C : ab_C) (L : List (Option ab_V)) : ab_C × List (Option ab_V) := ab_ivL an.2.2.1 C (ab_mask (ac_offL an) 0 L)
def ac_eT (an : ac_An) (C : ab_C) (L : List (Option ab_V)) (H : ac_H) : ab_C × List ac_O := ac_ivT (ac_eL an C L).2 an.2.2.2.2.1 (ac_eL an C L).1 (ac_Hf an H).2.1
/-- the state at a loop's head with all given up -/
def ac_eS (K : ac_Kd) (an : ac_An) (S : ac_S) : Option ac_S := match ac_gI K (ac_eT an S.1 S.2.2.1 S.2.2.2.2.1).1 (ac_eT an S.1 S.2.2.1 S.2.2.2.2.1).2 an.2.2.2.2.2.1 with
  | some r => some (r.1, S.2.1, (ac_eL an S.1 S.2.2.1).2, [], (S.2.2.2.2.1.1, r.2.1, r.2.2), S.2.2.2.2.2.1, S.2.2.2.2.2.2)
  | none => none
def ac_lp (an : ac_An) (S : ac_S) (e : ab_E × ab_E) : ac_Lp := (S.2.1, an, S.1.1.length, ab_mask (ac_offL an) 0 S.2.2.1, ac_Hf an S.2.2.2.2.1, S.2.2.2.2.2.1, S.2.2.2.2.2.2, e.1, e.2)
def ac_skip (an : ac_An) (C : ab_C) (L : List (Option ab_V)) : Bool := match an.2.2.2.2.2.2 with
  | none => false
  | some i => match ab_ld L i with
    | some (.inl e) => ab_le (ab_iv C.1 e).2 0 && ab_le 0 (ab_iv C.1 e).1
    | _ => false
/-- the loop of a place, but for a state that leaves it at once -/
def ac_lpx (LP : Nat → Nat → Option ac_An) (j : Nat) (S : ac_S) : Option ac_An := match LP j S.2.1 with
  | none => none
  | some an => bif ac_skip an S.1 S.2.2.1 then none else some an
def ac_eOk (an : ac_An) (S : ac_S) : Bool := S.2.2.2.1.isEmpty && ac_ckR an S.1 S.2.2.1 S.2.2.2.2.1
/-- what goes on: the counter; or the trades and the count -/
def ac_ms (an : ac_An) (C : ab_C) (L : List (Option ab_V)) (H : ac_H) : Option (ab_E × ab_E) := match an.2.2.2.2.2.1 with
  | none => (match an.2.2.1 with
    | p :: _ => (match ab_ld L p.1 with
      | some (.inl e) => some (e, (0, 0))
      | _ => none)
    | [] => none)
  | some w => match H.2.2 with
    | [g] => (bif ab_le g.1 w.1 && ab_le w.1 g.1 then (bif w.2 then (match ac_find C H.2.1 12 (0, 0) (0, (ac_TR : Int)) with
      | some (.inl t) => some (t, g.2)
      | _ => none) else some ((0, 0), g.2)) else none)
    | _ => none
def ac_mu (an : ac_An) (x y : Int) : Nat := match an.2.2.2.2.2.1 with
  | some _ => (200 - x).toNat * 121 + y.toNat
  | none => match an.2.2.1 with
    | p :: _ => bif an.2.1 then (p.2.2.2.2.1 - x).toNat else (x - p.2.2.2.1).toNat
    | [] => 0
def ac_mz (an : ac_An) (Lc : List (Option mV)) (σ : mS) : Nat := match an.2.2.2.2.2.1 with
  | some w => ac_mu an (bif w.2 then ac_tr σ else 0) (ac_ct w.1 σ : Int)
  | none => match an.2.2.1 with
    | p :: _ => (match m_ld Lc p.1 with
      | some (.inl y) => ac_mu an y.toInt 0
      | _ => 0)
    | [] => 0
def ac_dec (an : ac_An) (C : ab_C) (a b : ab_E × ab_E) : Bool := match an.2.2.2.2.2.1 with
  | some _ => ab_le (ab_iv C.1 b.1).2 200 && (ab_leq C (a.1.1, a.1.2 + 1) b.1 || (ab_leq C a.1 b.1 && ab_leq C (b.2.1, b.2.2 + 1) a.2))
  | none => match an.2.2.1 with
    | p :: _ => bif an.2.1 then ab_leq C (a.1.1, a.1.2 + 1) b.1 && ab_hio C b.1 p.2.2.2.2.1 else ab_leq C (b.1.1, b.1.2 + 1) a.1 && ab_le p.2.2.2.1 (ab_iv C.1 b.1).1
    | [] => false
def ac_ckH (Hb H : ac_H) : Bool := ac_eC Hb.1 H.1 && Hb.2.1.all (fun o => H.2.1.any (ac_eO2 o))
/-- back at a loop's head -/
def ac_re (l : ac_Lp) (S : ac_S) : Bool := S.2.2.2.1.isEmpty && (ac_ckR l.2.1 S.1 S.2.2.1 S.2.2.2.2.1 && (ab_ckL l.2.2.2.1 S.2.2.1 && (ac_ckH l.2.2.2.2.1 S.2.2.2.2.1 && (Nat.beq S.2.2.2.2.2.1 l.2.2.2.2.2.1 && (Nat.beq S.2.2.2.2.2.2 l.2.2.2.2.2.2.1 && (match ac_ms l.2.1 S.1 S.2.2.1 S.2.2.2.2.1 with
  | some b => ac_dec l.2.1 S.1 (l.2.2.2.2.2.2.2.1, l.2.2.2.2.2.2.2.2) b
  | none => false))))))
section ACE
variable {xs : ab_X} {C : ab_C} {ν ν' : ab_N} {kp : ac_Kp} {σ0 : mS} {H Hb : ac_H} {σ : mS} {L B : List (Option ab_V)} {Lc : List (Option mV)} {n n' : Nat} {an : ac_An}
theorem ac_ct_le {w : Int} : ac_ct w σ ≤ 120 := by
  unfold ac_ct
  have := List.length_filter_le (fun k => ac_isw w (m_get σ 13 ac_ST k)) (List.range 120)
  rw [List.length_range] at this
  exact this
theorem ac_TI_ok {lo hi : Int} {x : mV} (h : ab_Tr (ac_TI lo hi) x) : ∃ y : Int32, x = .inl y ∧ lo ≤ y.toInt ∧ y.toInt ≤ hi := by
  rcases x with y | y | r
  · exact ⟨y, rfl, h.2⟩
  · have := h.1; cases this
  · cases r with
    | none => have := h.1; cases this
    | some q => have := h.1; cases this
theorem ac_hp.filt (h : ac_hp kp σ0 n ν H σ) (p : ac_O → Bool) : ac_hp kp σ0 n ν (H.1, H.2.1.filter p, []) σ := ⟨h.1, h.2.1, h.2.2.1, fun o ho => h.2.2.2.1 o (List.mem_filter.mp ho).1, fun g hg => by cases hg⟩
/-- the checks give what is held -/
theorem ac_ckR_ok (h : ab_cx xs C ν) (hL : ab_Ls C.1.length ν L Lc) (hp : ac_hp kp σ0 C.1.length ν H σ) (hc : ac_ckR an C L H = true) :
    (∀ p ∈ an.2.2.1, ∃ x, m_ld Lc p.1 = some x ∧ ab_Tr p.2 x) ∧ ∀ t ∈ an.2.2.2.2.1, ac_tie Lc σ t := by
  unfold ac_ckR at hc
  rw [Bool.and_eq_true] at hc
  obtain ⟨c1, c2⟩ := hc
  refine ⟨fun p hq => ?_, fun t ht => ?_⟩
  · have g := List.all_eq_true.mp c1 p hq
    cases hv : ab_ld L p.1 with
    | none => rw [hv] at g; cases g
    | some v =>
      rw [hv] at g
      obtain ⟨x, h1, h2⟩ := hL.ld hv
      exact ⟨x, h1, ab_in_ok h h2 g⟩
  · have g := List.all_eq_true.mp c2 t ht
    unfold ac_ckT at g
    split at g
    · rename_i e he
      obtain ⟨x, h1, h2⟩ := hL.ld he
      obtain ⟨y, rfl, h3⟩ := ab_Vi h2
      refine ⟨y, h1, fun k hk => ?_⟩
      rcases (Bool.or_eq_true _ _).mp g with g | g
      · rw [ab_le_ok] at g
        have := ab_iv_ok h.1 h3
        omega
      · cases hf : ac_find C H.2.1 t.1 (0, (t.2.1 : Int)) e with
        | none => rw [hf] at g; cases g
        | some v =>
          rw [hf] at g
          exact ab_in_ok h (ac_find_ok h hp.2.2.2.1 (ab_con h) (by rw [hk]; exact h3) hf) g
    · cases g
theorem ac_ckH_ok {ν0 : ab_N} {n0 : Nat} {σ1 : mS} (h0 : ac_hp kp σ0 n0 ν0 Hb σ1) (hg : Hb.2.2 = []) (hp : ac_hp kp σ0 n ν H σ) (hc : ac_ckH Hb H = true) : ac_hp kp σ0 n0 ν Hb σ := by
  unfold ac_ckH at hc
  rw [Bool.and_eq_true] at hc
  obtain ⟨c1, c2⟩ := hc
  have c1 := ac_eC_ok c1
  refine ⟨hp.1, hp.2.1, ?_, fun o ho => ?_, fun g hq => by rw [hg] at hq; cases hq⟩
  · have a := h0.2.2.1
    have b := hp.2.2.1
    rw [← c1] at b
    cases hH : Hb.1 with
    | none => rw [hH] at b; exact b
    | some e =>
      rw [hH] at a b
      have a : ab_I n0 ν0 e (σ1.1 1 : Int) := a
      have b : ab_I n ν e (σ.1 1 : Int) := b
      exact ⟨a.1, b.2⟩
  · obtain ⟨o', o1, o2⟩ := List.any_eq_true.mp (List.all_eq_true.mp c2 o ho)
    have e := ac_eO2_ok o2
    subst e
    obtain ⟨⟨a1, a2⟩, a3, -⟩ := h0.2.2.2.1 o ho
    obtain ⟨-, -, b3⟩ := hp.2.2.2.1 o o1
    exact ⟨⟨a1, a2⟩, a3, fun i k hi hk => ac_vs_sc a2 (b3 i k hi hk)⟩
theorem ac_ivT_ok : ∀ {ts : List (Nat × Nat × Nat × Int × Int)} {C : ab_C} {ν : ab_N} {O : List ac_O}, ab_cx xs C ν → ab_Ls C.1.length ν L Lc → (∀ o ∈ O, ac_ov C.1.length ν σ o) → (∀ t ∈ ts, ac_tie Lc σ t) → ∃ ν', ab_up xs C ν (ac_ivT L ts C O).1 ν' ∧ ∀ o ∈ (ac_ivT L ts C O).2, ac_ov (ac_ivT L ts C O).1.1.length ν' σ o
  | [], C, ν, O, h, _, hO, _ => ⟨ν, ab_up.rf h, hO⟩
  | t :: ts, C, ν, O, h, hL, hO, ht => by
    have tl := fun p hp => ht p (List.mem_cons_of_mem t hp)
    unfold ac_ivT
    split
    · rename_i e he
      cases hb : ab_le t.2.2.2.1 t.2.2.2.2 with
      | false => exact ac_ivT_ok h hL hO tl
      | true =>
        rw [ab_le_ok] at hb
        dsimp only [cond_true]
        obtain ⟨y, h1, h2⟩ := ht t List.mem_cons_self
        obtain ⟨x, x1, x2⟩ := hL.ld he
        rw [h1] at x1
        cases x1
        have hx : ab_I C.1.length ν e y.toInt := x2
        have key : ∃ z : Int, t.2.2.2.1 ≤ z ∧ z ≤ t.2.2.2.2 ∧ ∀ k : Nat, (k : Int) = y.toInt → ∃ w : Int32, m_get σ t.1 t.2.1 k = .inl w ∧ w.toInt = z := by
          by_cases hn : 0 ≤ y.toInt
          · obtain ⟨w, w1, w2, w3⟩ := ac_TI_ok (h2 y.toInt.toNat (by omega))
            refine ⟨w.toInt, w2, w3, fun k hk => ?_⟩
            have e1 : k = y.toInt.toNat := by omega
            subst e1
            exact ⟨w, w1, rfl⟩
          · exact ⟨t.2.2.2.1, Int.le_refl _, hb, fun k hk => by omega⟩
        obtain ⟨z, z1, z2, z3⟩ := key
        obtain ⟨ν1, u1, g1⟩ := ab_fr_ok h z1 z2
        obtain ⟨ν2, u2, g2⟩ := ac_ivT_ok (ts := ts) (O := (t.1, (0, (t.2.1 : Int)), e, .inl (ab_fr C t.2.2.2.1 t.2.2.2.2).2) :: O) u1.1 (hL.ex u1.2.1 u1.2.2) (fun o ho => by
          rcases List.mem_cons.mp ho with rfl | ho
          · have hx1 := u1.I hx
            refine ⟨⟨u1.1.2.1, g1.1⟩, hx1.1, fun i k hi hk => ?_⟩
            have e1 : i = t.2.1 := by
              have hi : (i : Int) = ν1 0 + (t.2.1 : Int) := hi
              rw [u1.1.1.1] at hi
              omega
            subst e1
            have hk : (k : Int) = ν1 e.1 + e.2 := hk
            obtain ⟨w, w1, w2⟩ := z3 k (hk.trans hx1.2.symm)
            show ab_Vr _ _ (.inl (ab_fr C t.2.2.2.1 t.2.2.2.2).2) (m_get σ t.1 t.2.1 k)
            rw [w1]
            show ab_I _ _ _ w.toInt
            rw [w2]
            exact g1
          · exact (hO o ho).ex u1.2.1 u1.2.2) tl
        exact ⟨ν2, u1.tr u2, g2⟩
    · exact ac_ivT_ok h hL hO tl
theorem ac_gI_ok {K : ac_Kd} {O : List ac_O} {g : Option (Int × Bool)} {r : ab_C × List ac_O × List (Int × ab_E)} (h : ab_cx xs C ν) (hK : ac_KK K σ) (hO : ∀ o ∈ O, ac_ov C.1.length ν σ o) (hr : ac_gI K C O g = some r) : ∃ ν', ab_up xs C ν r.1 ν' ∧ (∀ o ∈ r.2.1, ac_ov r.1.1.length ν' σ o) ∧ ∀ q ∈ r.2.2, ab_I r.1.1.length ν' q.2 (ac_ct q.1 σ : Int) := by
  unfold ac_gI at hr
  cases g with
  | none =>
    cases hr
    exact ⟨ν, ab_up.rf h, hO, fun q hq => by cases hq⟩
  | some w =>
    dsimp only at hr
    cases hT : ac_rdT K C [] 12 (0, 0) (0, (ac_TR : Int)) with
    | none => rw [hT] at hr; cases hr
    | some T =>
      rw [hT] at hr
      cases hr
      have g := ac_rdT_ok (i := 0) (k := ac_TR) h hK (fun o ho => by cases ho) (ab_con h) (ab_con h) hT
      obtain ⟨ν1, u1, g1⟩ := ab_of_ok h g
      obtain ⟨ν2, u2, g2⟩ := ab_fr_ok u1.1 (x := (ac_ct w.1 σ : Int)) (lo := 0) (hi := 120) (by omega) (by have := ac_ct_le (σ := σ) (w := w.1); omega)
      refine ⟨ν2, u1.tr u2, fun o ho => ?_, fun q hq => ?_⟩
      · rcases List.mem_cons.mp ho with rfl | ho
        · have g3 := g1.ex u2.2.1 u2.2.2
          refine ⟨⟨u2.1.2.1, ac_vs_of g3⟩, u2.1.2.1, fun i k hi hk => ?_⟩
          have e1 : i = 0 := by
            have hi : (i : Int) = ν2 0 + 0 := hi
            rw [u2.1.1.1] at hi
            omega
          have e2 : k = ac_TR := by
            have hk : (k : Int) = ν2 0 + (ac_TR : Int) := hk
            rw [u2.1.1.1] at hk
            omega
          subst e1; subst e2
          exact g3
        · exact ((hO o ho).ex u1.2.1 u1.2.2).ex u2.2.1 u2.2.2
      · have e := List.mem_singleton.mp hq
        subst e
        exact g2
theorem ac_ms_ok {e : ab_E × ab_E} (h : ab_cx xs C ν) (hL : ab_Ls C.1.length ν L Lc) (hp : ac_hp kp σ0 C.1.length ν H σ) (hm : ac_ms an C L H = some e) : ∃ x y, ab_I C.1.length ν e.1 x ∧ ab_I C.1.length ν e.2 y ∧ ac_mz an Lc σ = ac_mu an x y ∧ (an.2.2.2.2.2.1 ≠ none → 0 ≤ y ∧ y ≤ 120) := by
  unfold ac_ms at hm
  unfold ac_mz
  cases hg : an.2.2.2.2.2.1 with
  | none =>
    rw [hg] at hm
    dsimp only at hm ⊢
    cases hq : an.2.2.1 with
    | nil => rw [hq] at hm; cases hm
    | cons p t =>
      rw [hq] at hm
      dsimp only at hm ⊢
      split at hm
      · rename_i e' he
        cases hm
        obtain ⟨x, x1, x2⟩ := hL.ld he
        obtain ⟨y, rfl, x3⟩ := ab_Vi x2
        rw [x1]
        exact ⟨y.toInt, 0, x3, ab_con h, rfl, fun z => absurd rfl z⟩
      · cases hm
  | some w =>
    rw [hg] at hm
    dsimp only at hm ⊢
    split at hm
    · rename_i g hgh
      cases hb : (ab_le g.1 w.1 && ab_le w.1 g.1) with
      | false => rw [hb] at hm; cases hm
      | true =>
        rw [hb] at hm
        rw [Bool.and_eq_true, ab_le_ok, ab_le_ok] at hb
        have e1 : g.1 = w.1 := by omega
        have g1 := hp.2.2.2.2 g (by rw [hgh]; exact List.mem_cons_self)
        rw [e1] at g1
        cases hw : w.2 with
        | false =>
          rw [hw] at hm
          cases hm
          exact ⟨0, (ac_ct w.1 σ : Int), ab_con h, g1, rfl, fun _ => ⟨by omega, by have := ac_ct_le (σ := σ) (w := w.1); omega⟩⟩
        | true =>
          rw [hw] at hm
          dsimp only [cond_true] at hm ⊢
          split at hm
          · rename_i t hf
            cases hm
            exact ⟨ac_tr σ, (ac_ct w.1 σ : Int), ac_tr_ok h hp.2.2.2.1 hf, g1, rfl, fun _ => ⟨by omega, by have := ac_ct_le (σ := σ) (w := w.1); omega⟩⟩
          · cases hm
    · cases hm
theorem ac_dec_ok {a b : ab_E × ab_E} {x y x' y' : Int} (h : ab_cx xs C ν) (h1 : ab_I C.1.length ν a.1 x) (h2 : ab_I C.1.length ν a.2 y) (h3 : ab_I C.1.length ν b.1 x') (h4 : ab_I C.1.length ν b.2 y') (hy : an.2.2.2.2.2.1 ≠ none → 0 ≤ y' ∧ y' ≤ 120) (hd : ac_dec an C a b = true) : ac_mu an x' y' < ac_mu an x y := by
  unfold ac_dec at hd
  unfold ac_mu
  cases hg : an.2.2.2.2.2.1 with
  | some w =>
    rw [hg] at hd
    dsimp only at hd ⊢
    have hy := hy (by rw [hg]; exact fun z => by cases z)
    rw [Bool.and_eq_true, ab_le_ok] at hd
    have b1 := ab_iv_ok h.1 h3
    rcases (Bool.or_eq_true _ _).mp hd.2 with d | d
    · have := ab_leq_ok1 h h1 h3 d
      omega
    · rw [Bool.and_eq_true] at d
      have d1 := ab_leq_ok h h1 h3 d.1
      have d2 := ab_leq_ok1 h h4 h2 d.2
      omega
  | none =>
    rw [hg] at hd
    dsimp only at hd ⊢
    cases hq : an.2.2.1 with
    | nil => rw [hq] at hd; cases hd
    | cons p t =>
      rw [hq] at hd
      dsimp only at hd ⊢
      cases hup : an.2.1 with
      | true =>
        rw [hup] at hd
        dsimp only [cond_true] at hd ⊢
        rw [Bool.and_eq_true] at hd
        have d1 := ab_leq_ok1 h h1 h3 hd.1
        have d2 := ab_hio_ok h h3 hd.2
        omega
      | false =>
        rw [hup] at hd
        dsimp only [cond_false] at hd ⊢
        rw [Bool.and_eq_true, ab_le_ok] at hd
        have d1 := ab_leq_ok1 h h3 h1 hd.1
        have b1 := ab_iv_ok h.1 h3
        omega
theorem ac_entry {S : ac_S} {sc : List mV} (h : ab_cx xs S.1 ν) (hL : ab_Ls S.1.1.length ν S.2.2.1 Lc) (hst : ab_Vs S.1.1.length ν S.2.2.2.1 sc) (hp : ac_hp kp σ0 S.1.1.length ν S.2.2.2.2.1 σ) (ho : ac_eOk an S = true) : sc = [] ∧ ac_LI kp σ0 an S.1.1.length ν (ab_mask (ac_offL an) 0 S.2.2.1) (ac_Hf an S.2.2.2.2.1) Lc σ := by
  unfold ac_eOk at ho
  rw [Bool.and_eq_true] at ho
  have e0 := List.isEmpty_iff.mp ho.1
  rw [e0] at hst
  exact ⟨ab_Vs_0 hst, hL.mask, hp.filt _, ac_ckR_ok h hL hp ho.2⟩
theorem ac_invS {S S' : ac_S} (h : ab_cx xs S.1 ν) (hI : ac_LI kp σ0 an S.1.1.length ν (ab_mask (ac_offL an) 0 S.2.2.1) (ac_Hf an S.2.2.2.2.1) Lc σ) (he : ac_eS kp.1 an S = some S') :
    ∃ ν', ab_up xs S.1 ν S'.1 ν' ∧ ab_Ls S'.1.1.length ν' S'.2.2.1 Lc ∧ ac_hp kp σ0 S'.1.1.length ν' S'.2.2.2.2.1 σ ∧ S'.2.1 = S.2.1 ∧ S'.2.2.2.1 = [] ∧ S'.2.2.2.2.2 = S.2.2.2.2.2 := by
  obtain ⟨i1, i2, i3, i4⟩ := hI
  unfold ac_eS at he
  cases hg : ac_gI kp.1 (ac_eT an S.1 S.2.2.1 S.2.2.2.2.1).1 (ac_eT an S.1 S.2.2.1 S.2.2.2.2.1).2 an.2.2.2.2.2.1 with
  | none => rw [hg] at he; cases he
  | some r =>
  rw [hg] at he
  cases he
  obtain ⟨ν1, u1, g1⟩ := ab_ivL_ok (ps := an.2.2.1) h i1 i3
  have i2' := i2.ex u1.2.1 u1.2.2
  obtain ⟨ν2, u2, g2⟩ := ac_ivT_ok (L := (ac_eL an S.1 S.2.2.1).2) (σ := σ) (ts := an.2.2.2.2.1) (O := (ac_Hf an S.2.2.2.2.1).2.1) u1.1 g1 i2'.2.2.2.1 i4
  obtain ⟨ν3, u3, g3, g4⟩ := ac_gI_ok u2.1 i2.1 g2 hg
  have i2'' := (i2'.ex u2.2.1 u2.2.2).ex u3.2.1 u3.2.2
  exact ⟨ν3, (u1.tr u2).tr u3, (g1.ex u2.2.1 u2.2.2).ex u3.2.1 u3.2.2, ⟨i2.1, i2.2.1, i2''.2.2.1, g3, g4⟩, rfl, rfl, rfl⟩
end ACE
