/-! the second analysis: the kinds of cells are a constant, what is known of single cells is a list, what may be written is a list of boxes -/
abbrev ac_O : Type := Nat × ab_E × ab_E × ab_V
/-- how many calls are made (if that is followed), cells that are known, a count of orders in a state -/
abbrev ac_H : Type := Option ab_E × List ac_O × List (Int × ab_E)
abbrev ac_Kd : Type := List (List ab_G) × List (List (Nat × Nat × Nat))
abbrev ac_Kp : Type := ac_Kd × List ab_G
def ac_ST : Nat := 28
def ac_TR : Nat := 35
def ac_TF : Nat := 38
def ac_isw (w : Int) (x : mV) : Bool := match x with
  | .inl y => ab_le y.toInt w && ab_le w y.toInt
  | _ => false
/-- how many of the reference's orders are in the state w -/
def ac_ct (w : Int) (σ : mS) : Nat := ((List.range 120).filter (fun k => ac_isw w (m_get σ 13 ac_ST k))).length
def ac_tr (σ : mS) : Int := match m_get σ 12 0 ac_TR with
  | .inl y => y.toInt
  | _ => 0
def ac_rows (K : ac_Kd) (σ : mS) : Prop := ∀ c l, K.1[c]? = some l → ∀ g ∈ l, ∀ i k, g.2.1 ≤ i → i ≤ g.2.2.1 → g.2.2.2.1 ≤ k → k ≤ g.2.2.2.2.1 → ab_Tr g.2.2.2.2.2 (m_get σ c i k)
def ac_lens (K : ac_Kd) (σ : mS) : Prop := ∀ c l, K.2[c]? = some l → ∀ q ∈ l, ∀ i, q.1 ≤ i → i ≤ q.2.1 → 13 ≤ c ∧ σ.2.1 c i = q.2.2
def ac_TT : ab_T := (0, 0, 1, 125, 0, 0)
/-- the trades that were made have what they may be divided by -/
def ac_U (σ : mS) : Prop := ∀ k : Nat, (k : Int) < ac_tr σ → ab_Tr ac_TT (m_get σ 13 ac_TF k)
def ac_KK (K : ac_Kd) (σ : mS) : Prop := ac_rows K σ ∧ ac_lens K σ ∧ ac_U σ
def ac_inB (b : ab_G) (c i k : Nat) : Prop := b.1 = c ∧ b.2.1 ≤ i ∧ i ≤ b.2.2.1 ∧ b.2.2.2.1 ≤ k ∧ k ≤ b.2.2.2.2.1
/-- what has changed lies in the boxes, or is new -/
def ac_fr (W : List ab_G) (σ0 σ : mS) : Prop := (∀ c, c ≠ 1 → σ.1 c = σ0.1 c) ∧ σ0.1 1 ≤ σ.1 1 ∧ (∀ c i, 13 ≤ c → σ.2.1 c i = σ0.2.1 c i) ∧ ∀ c i k, ¬ (c = 1 ∧ σ0.1 1 ≤ i ∧ i < σ.1 1) → m_get σ c i k = m_get σ0 c i k ∨ ∃ b ∈ W, ac_inB b c i k ∧ ab_Tr b.2.2.2.2.2 (m_get σ c i k)
def ac_vs (n : Nat) (v : ab_V) : Prop := match v with
  | .inl e => e.1 < n
  | .inr (.inl e) => e.1 < n
  | .inr (.inr (.inl z)) => z.2.1.1 < n ∧ z.2.2.1 < n
  | .inr (.inr (.inr q)) => q.1.1 < n ∧ q.2.1 < n
def ac_ov (n : Nat) (ν : ab_N) (σ : mS) (o : ac_O) : Prop := (o.2.1.1 < n ∧ ac_vs n o.2.2.2) ∧ o.2.2.1.1 < n ∧ ∀ i k : Nat, (i : Int) = ν o.2.1.1 + o.2.1.2 → (k : Int) = ν o.2.2.1.1 + o.2.2.1.2 → ab_Vr n ν o.2.2.2 (m_get σ o.1 i k)
def ac_cn (n : Nat) (ν : ab_N) (o : Option ab_E) (σ0 σ : mS) : Prop := match o with
  | some e => ab_I n ν e (σ.1 1 : Int)
  | none => σ.1 1 = σ0.1 1
def ac_hp (kp : ac_Kp) (σ0 : mS) (n : Nat) (ν : ab_N) (H : ac_H) (σ : mS) : Prop := ac_KK kp.1 σ ∧ ac_fr kp.2 σ0 σ ∧ ac_cn n ν H.1 σ0 σ ∧ (∀ o ∈ H.2.1, ac_ov n ν σ o) ∧ ∀ g ∈ H.2.2, ab_I n ν g.2 (ac_ct g.1 σ : Int)
def ac_nm (C : ab_C) (e : ab_E) : ab_E := bif Nat.beq e.1 0 then e else bif ab_le (ab_iv C.1 e).2 (ab_iv C.1 e).1 then (0, (ab_iv C.1 e).1) else e
/-- a place that is known, beside one that is asked for -/
def ac_sm (C : ab_C) (e k : ab_E) : Bool := bif Nat.beq e.1 0 then ab_eE e k else bif Nat.beq k.1 0 then ab_eE (ac_nm C e) k else ab_eE e k
def ac_at (C : ab_C) (c : Nat) (e k : ab_E) (o : ac_O) : Bool := Nat.beq o.1 c && (ac_sm C o.2.2.1 k && ac_sm C o.2.1 e)
def ac_find (C : ab_C) (O : List ac_O) (c : Nat) (e k : ab_E) : Option ab_V := match O.find? (ac_at C c (ac_nm C e) (ac_nm C k)) with
  | some o => some o.2.2.2
  | none => none
def ac_fits (p q : Int × Int) (g : ab_G) : Bool := ab_le (g.2.2.2.1 : Int) q.1 && (ab_le q.2 (g.2.2.2.2.1 : Int) && (ab_le (g.2.1 : Int) p.1 && ab_le p.2 (g.2.2.1 : Int)))
def ac_over (p q : Int × Int) (g : ab_G) : Bool := ab_le (g.2.2.2.1 : Int) q.2 && (ab_le q.1 (g.2.2.2.2.1 : Int) && (ab_le (g.2.1 : Int) p.2 && ab_le p.1 (g.2.2.1 : Int)))
def ac_isU (C : ab_C) (O : List ac_O) (c : Nat) (e k : ab_E) : Bool := Nat.beq c 13 && (ab_eE (ac_nm C e) (0, (ac_TF : Int)) && (match ac_find C O 12 (0, 0) (0, (ac_TR : Int)) with
  | some (.inl t) => ab_leq C (k.1, k.2 + 1) t
  | _ => false))
/-- the row of a place: it mostly stands at the field's number -/
def ac_row (l : List ab_G) (p q : Int × Int) : Option ab_T := match l[q.1.toNat]? with
  | some g => bif ac_fits p q g then some g.2.2.2.2.2 else (match l.find? (ac_fits p q) with
    | some g => some g.2.2.2.2.2
    | none => none)
  | none => (match l.find? (ac_fits p q) with
    | some g => some g.2.2.2.2.2
    | none => none)
def ac_rdT (K : ac_Kd) (C : ab_C) (O : List ac_O) (c : Nat) (e k : ab_E) : Option ab_T := bif ac_isU C O c e k then some ac_TT else match K.1[c]? with
  | some l => ac_row l (ab_iv C.1 e) (ab_iv C.1 k)
  | none => none
/-- a cell is read: it is known from there on -/
def ac_rd (kp : ac_Kp) (C : ab_C) (H : ac_H) (c : Nat) (e k : ab_E) : Option (ab_C × ab_V × ac_H) := match ac_find C H.2.1 c e k with
  | some v => some (C, v, H)
  | none => match ac_rdT kp.1 C H.2.1 c e k with
    | some T => some ((ab_of C T).1, (ab_of C T).2, (H.1, (c, ac_nm C e, ac_nm C k, (ab_of C T).2) :: H.2.1, H.2.2))
    | none => none
def ac_may (C : ab_C) (e f : ab_E) : Bool := bif Nat.beq e.1 f.1 then ab_le e.2 f.2 && ab_le f.2 e.2 else ab_le (ab_iv C.1 e).1 (ab_iv C.1 f).2 && ab_le (ab_iv C.1 f).1 (ab_iv C.1 e).2
def ac_mayO (C : ab_C) (c : Nat) (e k : ab_E) (o : ac_O) : Bool := Nat.beq o.1 c && (ac_may C o.2.2.1 k && ac_may C o.2.1 e)
def ac_inW (C : ab_C) (W : List ab_G) (c : Nat) (p q : Int × Int) (v : ab_V) : Bool := W.any (fun b => Nat.beq b.1 c && (ac_fits p q b && ab_in C v b.2.2.2.2.2))
def ac_okR (K : ac_Kd) (C : ab_C) (c : Nat) (p q : Int × Int) (v : ab_V) : Bool := match K.1[c]? with
  | some l => l.all (fun g => !(ac_over p q g) || ab_in C v g.2.2.2.2.2)
  | none => true
def ac_ins (p : Int × Int) (z : Nat) : Bool := ab_le p.1 (z : Int) && ab_le (z : Int) p.2
def ac_okV (C : ab_C) (O : List ac_O) (v : ab_V) : Bool := match v with
  | .inl f => (match ac_find C O 12 (0, 0) (0, (ac_TR : Int)) with
    | some (.inl t) => ab_eE f (t.1, t.2 + 1) && (match ac_find C O 13 (0, (ac_TF : Int)) t with
      | some w => ab_in C w ac_TT
      | none => false)
    | _ => false)
  | _ => false
def ac_okU (C : ab_C) (O : List ac_O) (c : Nat) (p q : Int × Int) (v : ab_V) : Bool :=
  (!(Nat.beq c 13 && ac_ins p ac_TF) || ab_in C v ac_TT) && (!(Nat.beq c 12 && ac_ins q ac_TR) || ac_okV C O v)
/-- a cell is written -/
def ac_wr (kp : ac_Kp) (C : ab_C) (H : ac_H) (c : Nat) (e k : ab_E) (v : ab_V) : Option ac_H :=
  bif ac_okR kp.1 C c (ab_iv C.1 e) (ab_iv C.1 k) v && (ac_inW C kp.2 c (ab_iv C.1 e) (ab_iv C.1 k) v && ac_okU C H.2.1 c (ab_iv C.1 e) (ab_iv C.1 k) v) then
    some (H.1, (c, ac_nm C e, ac_nm C k, v) :: H.2.1.filter (fun o => !(ac_mayO C c e k o)), bif Nat.beq c 13 && ac_ins (ab_iv C.1 e) ac_ST then [] else H.2.2)
  else none
/-- one more call -/
def ac_nw (kp : ac_Kp) (C : ab_C) (H : ac_H) (e : ab_E) : Option ac_H := match kp.1.1[1]? with
  | some l => bif l.all (fun g => ab_Tle (ab_zT g.2.2.2.2.2) g.2.2.2.2.2) then some (some (e.1, e.2 + 1), H.2.1.filter (fun o => !(Nat.beq o.1 1 && ac_may C o.2.1 e)), H.2.2) else none
  | none => none
section AC1
variable {xs : ab_X} {C C' : ab_C} {ν ν' : ab_N} {kp : ac_Kp} {σ0 σ : mS} {H H' : ac_H} {c i k : Nat} {e f : ab_E} {v : ab_V} {x : mV} {n n' : Nat}
theorem ac_fr.rf {W : List ab_G} : ac_fr W σ σ := ⟨fun _ _ => rfl, Nat.le_refl _, fun _ _ _ => rfl, fun _ _ _ _ => Or.inl rfl⟩
theorem ac_vs.up (h : ac_vs n v) (hn : n ≤ n') : ac_vs n' v := by
  rcases v with a | a | a | a
  · exact Nat.lt_of_lt_of_le h hn
  · exact Nat.lt_of_lt_of_le h hn
  · exact ⟨Nat.lt_of_lt_of_le h.1 hn, Nat.lt_of_lt_of_le h.2 hn⟩
  · exact ⟨Nat.lt_of_lt_of_le h.1 hn, Nat.lt_of_lt_of_le h.2 hn⟩
theorem ac_vs_of (h : ab_Vr n ν v x) : ac_vs n v := by
  rcases v with a | a | a | a
  · obtain ⟨y, rfl, g⟩ := ab_Vi h
    exact g.1
  · obtain ⟨y, rfl, g⟩ := ab_Vl h
    exact g.1
  · obtain ⟨y, rfl, g⟩ := ab_Va h
    exact ⟨g.1, g.2.1⟩
  · obtain ⟨y, z, rfl, g, g'⟩ := ab_Vc h
    exact ⟨g.1, g'.1⟩
theorem ac_vs_sc (h : ac_vs n' v) (g : ab_Vr n ν v x) : ab_Vr n' ν v x := by
  rcases v with a | a | a | a
  · obtain ⟨y, rfl, g⟩ := ab_Vi g
    exact ⟨h, g.2⟩
  · obtain ⟨y, rfl, g⟩ := ab_Vl g
    exact ⟨h, g.2⟩
  · obtain ⟨y, rfl, g⟩ := ab_Va g
    exact ⟨h.1, h.2, g.2.2⟩
  · obtain ⟨y, z, rfl, g, g'⟩ := ab_Vc g
    exact ⟨y, z, rfl, ⟨h.1, g.2⟩, ⟨h.2, g'.2⟩⟩
theorem ac_ov.ex {o : ac_O} (h : ac_ov n ν σ o) (g : ab_ex n ν ν') (hn : n ≤ n') : ac_ov n' ν' σ o := by
  obtain ⟨⟨h1, h4⟩, h2, h3⟩ := h
  refine ⟨⟨Nat.lt_of_lt_of_le h1 hn, h4.up hn⟩, Nat.lt_of_lt_of_le h2 hn, fun i k hi hk => ?_⟩
  rw [g _ h1] at hi
  rw [g _ h2] at hk
  exact (h3 i k hi hk).ex g hn
theorem ac_cn.ex {o : Option ab_E} (h : ac_cn n ν o σ0 σ) (g : ab_ex n ν ν') (hn : n ≤ n') : ac_cn n' ν' o σ0 σ := by
  cases o with
  | none => exact h
  | some e => exact ab_I.ex h g hn
theorem ac_hp.ex (h : ac_hp kp σ0 n ν H σ) (g : ab_ex n ν ν') (hn : n ≤ n') : ac_hp kp σ0 n' ν' H σ :=
  ⟨h.1, h.2.1, h.2.2.1.ex g hn, fun o ho => (h.2.2.2.1 o ho).ex g hn, fun q hq => (h.2.2.2.2 q hq).ex g hn⟩
theorem ac_nm_ok {z : Int} (h : ab_cx xs C ν) (he : ab_I C.1.length ν e z) : ab_I C.1.length ν (ac_nm C e) z := by
  unfold ac_nm
  cases h0 : Nat.beq e.1 0 with
  | true => exact he
  | false =>
  cases hb : ab_le (ab_iv C.1 e).2 (ab_iv C.1 e).1 with
  | false => exact he
  | true =>
    rw [ab_le_ok] at hb
    have b := ab_iv_ok h.1 he
    have e1 : z = (ab_iv C.1 e).1 := by omega
    rw [← e1]
    exact ab_con h
theorem ac_sm_ok {y z : Int} (h : ab_cx xs C ν) (he : ab_I C.1.length ν e y) (hf : ab_I C.1.length ν f z) (hs : ac_sm C e f = true) : y = z := by
  have raw : ∀ {e : ab_E}, ab_I C.1.length ν e y → ab_eE e f = true → y = z := by
    intro e he h1
    have e1 := ab_eE_ok h1
    subst e1
    exact he.2.trans hf.2.symm
  unfold ac_sm at hs
  cases h0 : Nat.beq e.1 0 with
  | true => rw [h0] at hs; exact raw he hs
  | false =>
    rw [h0] at hs
    dsimp only [cond_false] at hs
    cases h1 : Nat.beq f.1 0 with
    | true => rw [h1] at hs; exact raw (ac_nm_ok h he) hs
    | false => rw [h1] at hs; exact raw he hs
theorem ac_find_ok {O : List ac_O} (h : ab_cx xs C ν) (hO : ∀ o ∈ O, ac_ov C.1.length ν σ o) (he : ab_I C.1.length ν e (i : Int)) (hk : ab_I C.1.length ν f (k : Int)) (hf : ac_find C O c e f = some v) : ab_Vr C.1.length ν v (m_get σ c i k) := by
  unfold ac_find at hf
  cases hq : O.find? (ac_at C c (ac_nm C e) (ac_nm C f)) with
  | none => rw [hq] at hf; cases hf
  | some o =>
    rw [hq] at hf
    cases hf
    have g1 := hO o (List.mem_of_find?_eq_some hq)
    have g2 := List.find?_some hq
    unfold ac_at at g2
    rw [Bool.and_eq_true, Bool.and_eq_true] at g2
    obtain ⟨a1, a2, a3⟩ := g2
    have a1 := Nat.eq_of_beq_eq_true a1
    have b1 := ac_sm_ok h (e := o.2.1) (y := ν o.2.1.1 + o.2.1.2) ⟨g1.1.1, rfl⟩ (ac_nm_ok h he) a3
    have b2 := ac_sm_ok h (e := o.2.2.1) (y := ν o.2.2.1.1 + o.2.2.1.2) ⟨g1.2.1, rfl⟩ (ac_nm_ok h hk) a2
    rw [← a1]
    exact g1.2.2 i k b1.symm b2.symm
theorem ac_tr_ok (h : ab_cx xs C ν) {t : ab_E} {O : List ac_O} (hO : ∀ o ∈ O, ac_ov C.1.length ν σ o) (hf : ac_find C O 12 (0, 0) (0, (ac_TR : Int)) = some (.inl t)) : ab_I C.1.length ν t (ac_tr σ) := by
  have g := ac_find_ok (i := 0) (k := ac_TR) h hO (ab_con h) (ab_con h) hf
  obtain ⟨y, h1, h2⟩ := ab_Vi g
  unfold ac_tr
  rw [h1]
  exact h2
theorem ac_row_ok {l : List ab_G} {p q : Int × Int} {T : ab_T} (h : ac_row l p q = some T) : ∃ g ∈ l, ac_fits p q g = true ∧ g.2.2.2.2.2 = T := by
  have fnd : (match l.find? (ac_fits p q) with
    | some g => some g.2.2.2.2.2
    | none => none) = some T → ∃ g ∈ l, ac_fits p q g = true ∧ g.2.2.2.2.2 = T := by
    intro h
    cases hq : l.find? (ac_fits p q) with
    | none => rw [hq] at h; cases h
    | some g =>
      rw [hq] at h
      exact ⟨g, List.mem_of_find?_eq_some hq, List.find?_some hq, Option.some.inj h⟩
  unfold ac_row at h
  cases hq : l[q.1.toNat]? with
  | none => rw [hq] at h; exact fnd h
  | some g =>
    rw [hq] at h
    dsimp only at h
    cases hb : ac_fits p q g with
    | true => rw [hb] at h; exact ⟨g, List.mem_of_getElem? hq, hb, Option.some.inj h⟩
    | false => rw [hb] at h; exact fnd h
theorem ac_rdT_ok {T : ab_T} {O : List ac_O} {K : ac_Kd} (h : ab_cx xs C ν) (hK : ac_KK K σ) (hO : ∀ o ∈ O, ac_ov C.1.length ν σ o) (he : ab_I C.1.length ν e (i : Int)) (hk : ab_I C.1.length ν f (k : Int)) (hr : ac_rdT K C O c e f = some T) : ab_Tr T (m_get σ c i k) := by
  unfold ac_rdT at hr
  cases hb : ac_isU C O c e f with
  | true =>
    rw [hb] at hr
    cases hr
    unfold ac_isU at hb
    rw [Bool.and_eq_true, Bool.and_eq_true] at hb
    obtain ⟨b1, b2, b3⟩ := hb
    have b1 := Nat.eq_of_beq_eq_true b1
    have b2 := ab_eE_ok b2
    have c1 := ac_nm_ok h he
    rw [b2] at c1
    have e1 : i = ac_TF := by
      have := c1.2
      rw [h.1.1] at this
      have e9 : (i : Int) = 0 + (ac_TF : Int) := this
      omega
    subst b1
    subst e1
    cases hq : ac_find C O 12 (0, 0) (0, (ac_TR : Int)) with
    | none => rw [hq] at b3; cases b3
    | some w =>
      rw [hq] at b3
      rcases w with t | w
      · exact hK.2.2 k (ab_leq_ok1 h hk (ac_tr_ok h hO hq) b3)
      · cases b3
  | false =>
    rw [hb] at hr
    dsimp only [cond_false] at hr
    cases hl : K.1[c]? with
    | none => rw [hl] at hr; cases hr
    | some l =>
      rw [hl] at hr
      dsimp only at hr
      obtain ⟨g, g1, g2, rfl⟩ := ac_row_ok hr
      unfold ac_fits at g2
      simp only [Bool.and_eq_true, ab_le_ok] at g2
      obtain ⟨a1, a2, a3, a4⟩ := g2
      have b1 := ab_iv_ok h.1 he
      have b2 := ab_iv_ok h.1 hk
      exact hK.1 c l hl g g1 i k (by omega) (by omega) (by omega) (by omega)
theorem ac_rd_ok {r : ab_C × ab_V × ac_H} (h : ab_cx xs C ν) (hp : ac_hp kp σ0 C.1.length ν H σ) (he : ab_I C.1.length ν e (i : Int)) (hk : ab_I C.1.length ν f (k : Int)) (hr : ac_rd kp C H c e f = some r) :
    ∃ ν', ab_up xs C ν r.1 ν' ∧ ab_Vr r.1.1.length ν' r.2.1 (m_get σ c i k) ∧ ac_hp kp σ0 r.1.1.length ν' r.2.2 σ := by
  unfold ac_rd at hr
  cases hq : ac_find C H.2.1 c e f with
  | some v =>
    rw [hq] at hr
    cases hr
    exact ⟨ν, ab_up.rf h, ac_find_ok h hp.2.2.2.1 he hk hq, hp⟩
  | none =>
    rw [hq] at hr
    dsimp only at hr
    cases hT : ac_rdT kp.1 C H.2.1 c e f with
    | none => rw [hT] at hr; cases hr
    | some T =>
      rw [hT] at hr
      cases hr
      have g := ac_rdT_ok h hp.1 hp.2.2.2.1 he hk hT
      obtain ⟨ν', u, g2⟩ := ab_of_ok h g
      have hp' := hp.ex u.2.1 u.2.2
      refine ⟨ν', u, g2, hp'.1, hp'.2.1, hp'.2.2.1, fun o ho => ?_, hp'.2.2.2.2⟩
      rcases List.mem_cons.mp ho with rfl | ho
      · have c1 := u.I (ac_nm_ok h he)
        have c2 := u.I (ac_nm_ok h hk)
        refine ⟨⟨c1.1, ac_vs_of g2⟩, c2.1, fun i' k' hi hk' => ?_⟩
        have e1 : i' = i := by have := c1.2; have hi : (i' : Int) = ν' (ac_nm C e).1 + (ac_nm C e).2 := hi; omega
        have e2 : k' = k := by have := c2.2; have hk' : (k' : Int) = ν' (ac_nm C f).1 + (ac_nm C f).2 := hk'; omega
        subst e1; subst e2
        exact g2
      · exact hp'.2.2.2.1 o ho
theorem ac_may_ok {y z : Int} (h : ab_cx xs C ν) (he : ab_I C.1.length ν e y) (hf : ab_I C.1.length ν f z) (hm : ac_may C e f = false) : y ≠ z := by
  intro e1
  subst e1
  have hb : ac_may C e f = true := by
    unfold ac_may
    cases hc : Nat.beq e.1 f.1 with
    | true =>
      have e2 := Nat.eq_of_beq_eq_true hc
      have h1 := he.2
      have h2 := hf.2
      rw [e2] at h1
      dsimp only [cond_true]
      rw [Bool.and_eq_true, ab_le_ok, ab_le_ok]
      omega
    | false =>
      have b1 := ab_iv_ok h.1 he
      have b2 := ab_iv_ok h.1 hf
      dsimp only [cond_false]
      rw [Bool.and_eq_true, ab_le_ok, ab_le_ok]
      omega
  rw [hb] at hm
  cases hm
theorem ac_isw_ok {w : Int} : ac_isw w x = true ↔ ∃ y : Int32, x = .inl y ∧ y.toInt = w := by
  unfold ac_isw
  rcases x with y | y
  · dsimp only
    rw [Bool.and_eq_true, ab_le_ok, ab_le_ok]
    exact ⟨fun h => ⟨y, rfl, by omega⟩, fun ⟨z, h1, h2⟩ => by cases h1; omega⟩
  · exact ⟨(fun h => by cases h), (fun ⟨z, h1, _⟩ => by cases h1)⟩
theorem ac_tr_set {y : mV} (h : ¬ (c = 12 ∧ i = 0 ∧ k = ac_TR)) : ac_tr (m_set σ c i k y) = ac_tr σ := by
  unfold ac_tr
  rw [m_get_ne σ y (fun z => h ⟨z.1.symm, z.2.1.symm, z.2.2.symm⟩)]
theorem ac_ct_set {w : Int} {y : mV} (h : ¬ (c = 13 ∧ i = ac_ST)) : ac_ct w (m_set σ c i k y) = ac_ct w σ := by
  unfold ac_ct
  congr 2
  funext j
  rw [m_get_ne σ y (fun z => h ⟨z.1.symm, z.2.1.symm⟩)]
theorem ac_ins_ok {p : Int × Int} {z : Nat} (h1 : p.1 ≤ (z : Int)) (h2 : (z : Int) ≤ p.2) : ac_ins p z = true := by
  unfold ac_ins
  rw [Bool.and_eq_true, ab_le_ok, ab_le_ok]
  exact ⟨h1, h2⟩
theorem ac_wrU {O : List ac_O} {p q : Int × Int} (h : ab_cx xs C ν) (hU : ac_U σ) (hO : ∀ o ∈ O, ac_ov C.1.length ν σ o) (hp1 : p.1 ≤ (i : Int) ∧ (i : Int) ≤ p.2) (hq1 : q.1 ≤ (k : Int) ∧ (k : Int) ≤ q.2) (hv : ab_Vr C.1.length ν v x) (ht : m_tp (m_ty c k) x) (ho : ac_okU C O c p q v = true) : ac_U (m_set σ c i k x) := by
  unfold ac_okU at ho
  rw [Bool.and_eq_true, Bool.or_eq_true, Bool.or_eq_true, Bool.not_eq_true', Bool.not_eq_true'] at ho
  obtain ⟨o1, o2⟩ := ho
  intro j hj
  by_cases e1 : c = 12 ∧ i = 0 ∧ k = ac_TR
  · obtain ⟨rfl, rfl, rfl⟩ := e1
    have o2 : ac_okV C O v = true := by
      rcases o2 with o2 | o2
      · rw [ac_ins_ok hq1.1 hq1.2] at o2
        cases o2
      · exact o2
    unfold ac_okV at o2
    split at o2
    · rename_i f
      obtain ⟨y, rfl, hy⟩ := ab_Vi hv
      split at o2
      · rename_i t hfind
        rw [Bool.and_eq_true] at o2
        have e2 := ab_eE_ok o2.1
        have t1 := ac_tr_ok h hO hfind
        have hj2 : (j : Int) < y.toInt := by
          unfold ac_tr at hj
          rw [m_get_eq σ ht] at hj
          exact hj
        rw [m_get_ne σ _ (by rintro ⟨z, -⟩; cases z)]
        by_cases hlt : (j : Int) < ac_tr σ
        · exact hU j hlt
        · have e3 : (j : Int) = ac_tr σ := by
            have := hy.2
            rw [e2] at this
            have this : y.toInt = ν t.1 + (t.2 + 1) := this
            have := t1.2
            omega
          cases hw : ac_find C O 13 (0, (ac_TF : Int)) t with
          | none => rw [hw] at o2; cases o2.2
          | some w =>
            rw [hw] at o2
            have g := ac_find_ok (i := ac_TF) (k := j) h hO (ab_con h) (by rw [e3]; exact t1) hw
            exact ab_in_ok h g o2.2
      · cases o2
    · cases o2
  · rw [ac_tr_set e1] at hj
    by_cases e2 : c = 13 ∧ i = ac_TF ∧ k = j
    · obtain ⟨rfl, rfl, rfl⟩ := e2
      rw [m_get_eq σ ht]
      refine ab_in_ok h hv ?_
      rcases o1 with o1 | o1
      · rw [ac_ins_ok hp1.1 hp1.2] at o1
        cases o1
      · exact o1
    · rw [m_get_ne σ x (fun z => e2 ⟨z.1.symm, z.2.1.symm, z.2.2.symm⟩)]
      exact hU j hj
theorem ac_wr_ok (h : ab_cx xs C ν) (hp : ac_hp kp σ0 C.1.length ν H σ) (he : ab_I C.1.length ν e (i : Int)) (hk : ab_I C.1.length ν f (k : Int)) (hv : ab_Vr C.1.length ν v x) (ht : m_tp (m_ty c k) x) (hw : ac_wr kp C H c e f v = some H') : ac_hp kp σ0 C.1.length ν H' (m_set σ c i k x) := by
  unfold ac_wr at hw
  cases hb : (ac_okR kp.1 C c (ab_iv C.1 e) (ab_iv C.1 f) v && (ac_inW C kp.2 c (ab_iv C.1 e) (ab_iv C.1 f) v && ac_okU C H.2.1 c (ab_iv C.1 e) (ab_iv C.1 f) v)) with
  | false => rw [hb] at hw; cases hw
  | true =>
  rw [hb] at hw
  cases hw
  rw [Bool.and_eq_true, Bool.and_eq_true] at hb
  obtain ⟨b1, b2, b3⟩ := hb
  have i1 := ab_iv_ok h.1 he
  have i2 := ab_iv_ok h.1 hk
  obtain ⟨⟨k1, k2, k3⟩, f1, c1, o1, g1⟩ := hp
  refine ⟨⟨?_, ?_, ac_wrU h k3 o1 i1 i2 hv ht b3⟩, ?_, ?_, ?_, ?_⟩
  · intro c' l hl g hg i' k' h1 h2 h3 h4
    by_cases hq : c' = c ∧ i' = i ∧ k' = k
    · obtain ⟨rfl, rfl, rfl⟩ := hq
      rw [m_get_eq σ ht]
      unfold ac_okR at b1
      rw [hl] at b1
      have b := List.all_eq_true.mp b1 g hg
      have ov : ac_over (ab_iv C.1 e) (ab_iv C.1 f) g = true := by
        unfold ac_over
        simp only [Bool.and_eq_true, ab_le_ok]
        omega
      rw [ov] at b
      exact ab_in_ok h hv b
    · rw [m_get_ne σ x hq]
      exact k1 c' l hl g hg i' k' h1 h2 h3 h4
  · intro c' l hl q hq i' h1 h2
    rw [m_set_2]
    exact k2 c' l hl q hq i' h1 h2
  · refine ⟨by rw [m_set_1]; exact f1.1, by rw [m_set_1]; exact f1.2.1, by rw [m_set_2]; exact f1.2.2.1, fun c' i' k' hn => ?_⟩
    by_cases hq : c' = c ∧ i' = i ∧ k' = k
    · obtain ⟨rfl, rfl, rfl⟩ := hq
      rw [m_get_eq σ ht]
      obtain ⟨b, hb1, hb2⟩ := List.any_eq_true.mp b2
      rw [Bool.and_eq_true, Bool.and_eq_true] at hb2
      obtain ⟨q1, q2, q3⟩ := hb2
      unfold ac_fits at q2
      simp only [Bool.and_eq_true, ab_le_ok] at q2
      exact Or.inr ⟨b, hb1, ⟨Nat.eq_of_beq_eq_true q1, by omega, by omega, by omega, by omega⟩, ab_in_ok h hv q3⟩
    · rw [m_get_ne σ x hq]
      rw [m_set_1] at hn
      exact f1.2.2.2 c' i' k' hn
  · show ac_cn _ _ H.1 σ0 _
    cases hH : H.1 with
    | none =>
      rw [hH] at c1
      show (m_set σ c i k x).1 1 = σ0.1 1
      rw [m_set_1]; exact c1
    | some e =>
      rw [hH] at c1
      show ab_I _ _ e ((m_set σ c i k x).1 1 : Int)
      rw [m_set_1]; exact c1
  · intro o ho
    rcases List.mem_cons.mp ho with rfl | ho
    · have d1 := ac_nm_ok h he
      have d2 := ac_nm_ok h hk
      refine ⟨⟨d1.1, ac_vs_of hv⟩, d2.1, fun i' k' hi hk' => ?_⟩
      have e1 : i' = i := by have := d1.2; have hi : (i' : Int) = ν (ac_nm C e).1 + (ac_nm C e).2 := hi; omega
      have e2 : k' = k := by have := d2.2; have hk' : (k' : Int) = ν (ac_nm C f).1 + (ac_nm C f).2 := hk'; omega
      subst e1; subst e2
      show ab_Vr _ _ v (m_get (m_set σ c i' k' x) c i' k')
      rw [m_get_eq σ ht]
      exact hv
    · obtain ⟨m1, m2⟩ := List.mem_filter.mp ho
      obtain ⟨q1, q2, q3⟩ := o1 o m1
      refine ⟨q1, q2, fun i' k' hi hk' => ?_⟩
      rw [m_get_ne σ x ?_]
      · exact q3 i' k' hi hk'
      · rintro ⟨z1, z2, z3⟩
        subst z2; subst z3
        have hm : ac_mayO C c e f o = false := by simpa using m2
        unfold ac_mayO at hm
        rw [z1, Nat.beq_refl, Bool.true_and, Bool.and_eq_false_iff] at hm
        rcases hm with hm | hm
        · exact ac_may_ok h (y := (k' : Int)) (z := (k' : Int)) ⟨q2, hk'⟩ hk hm rfl
        · exact ac_may_ok h (y := (i' : Int)) (z := (i' : Int)) ⟨q1.1, hi⟩ he hm rfl
  · intro g hg
    dsimp only at hg
    cases hb : (Nat.beq c 13 && ac_ins (ab_iv C.1 e) ac_ST) with
    | true => rw [hb] at hg; cases hg
    | false =>
      rw [hb] at hg
      rw [ac_ct_set ?_]
      · exact g1 g hg
      · rintro ⟨rfl, rfl⟩
        rw [ac_ins_ok i1.1 i1.2] at hb
        cases hb
theorem ac_nw_ok (h : ab_cx xs C ν) (hp : ac_hp kp σ0 C.1.length ν H σ) (hc : H.1 = some e) (hw : ac_nw kp C H e = some H') : ac_hp kp σ0 C.1.length ν H' (m_nu σ 1 0) ∧ ab_I C.1.length ν e (σ.1 1 : Int) := by
  unfold ac_nw at hw
  cases hl : kp.1.1[1]? with
  | none => rw [hl] at hw; cases hw
  | some l =>
  rw [hl] at hw
  dsimp only at hw
  cases hb : l.all (fun g => ab_Tle (ab_zT g.2.2.2.2.2) g.2.2.2.2.2) with
  | false => rw [hb] at hw; cases hw
  | true =>
  rw [hb] at hw
  cases hw
  obtain ⟨⟨k1, k2, k3⟩, f1, c1, o1, g1⟩ := hp
  rw [hc] at c1
  have c1 : ab_I C.1.length ν e (σ.1 1 : Int) := c1
  have old : ∀ {c' i' k' : Nat}, ¬ (c' = 1 ∧ i' = σ.1 1) → m_get (m_nu σ 1 0) c' i' k' = m_get σ c' i' k' := fun z => m_nu_old σ z
  have n1 : ∀ {c' i' k' : Nat}, c' ≠ 1 → m_get (m_nu σ 1 0) c' i' k' = m_get σ c' i' k' := fun z => m_nu_old σ (fun y => z y.1)
  refine ⟨⟨⟨?_, ?_, ?_⟩, ?_, ?_, ?_, ?_⟩, c1⟩
  · intro c' l' hl' g hg i' k' h1 h2 h3 h4
    by_cases hq : c' = 1 ∧ i' = σ.1 1
    · obtain ⟨rfl, rfl⟩ := hq
      rw [hl] at hl'
      cases hl'
      rw [m_nu_new]
      exact ab_Tle_ok (List.all_eq_true.mp hb g hg) (ab_zT_z (k1 1 l hl g hg _ k' h1 h2 h3 h4))
    · rw [old hq]
      exact k1 c' l' hl' g hg i' k' h1 h2 h3 h4
  · intro c' l' hl' q hq i' h1 h2
    obtain ⟨a1, a2⟩ := k2 c' l' hl' q hq i' h1 h2
    exact ⟨a1, by rw [m_nu_len σ (fun z => by omega)]; exact a2⟩
  · intro j hj
    unfold ac_tr at hj
    rw [n1 (by decide)] at hj
    rw [n1 (by decide)]
    exact k3 j hj
  · refine ⟨fun c' hc' => by rw [m_nu_cntO σ hc']; exact f1.1 c' hc', by rw [m_nu_cnt]; have := f1.2.1; omega, fun c' i' hc' => by rw [m_nu_len σ (fun z => by omega)]; exact f1.2.2.1 c' i' hc', fun c' i' k' hn => ?_⟩
    rw [m_nu_cnt] at hn
    have hq : ¬ (c' = 1 ∧ i' = σ.1 1) := fun z => hn ⟨z.1, by rw [z.2]; exact f1.2.1, by omega⟩
    rw [old hq]
    exact f1.2.2.2 c' i' k' (fun z => hn ⟨z.1, z.2.1, by omega⟩)
  · show ab_I _ _ (e.1, e.2 + 1) ((m_nu σ 1 0).1 1 : Int)
    rw [m_nu_cnt]
    exact ⟨c1.1, by show ((σ.1 1 + 1 : Nat) : Int) = ν e.1 + (e.2 + 1); have := c1.2; omega⟩
  · intro o ho
    obtain ⟨m1, m2⟩ := List.mem_filter.mp ho
    obtain ⟨q1, q2, q3⟩ := o1 o m1
    refine ⟨q1, q2, fun i' k' hi hk' => ?_⟩
    rw [old ?_]
    · exact q3 i' k' hi hk'
    · rintro ⟨z1, z2⟩
      subst z2
      have hm : (Nat.beq o.1 1 && ac_may C o.2.1 e) = false := (Bool.not_eq_true' _).mp m2
      rw [z1, Nat.beq_refl, Bool.true_and] at hm
      exact ac_may_ok h (y := (σ.1 1 : Int)) (z := (σ.1 1 : Int)) ⟨q1.1, hi⟩ c1 hm rfl
  · intro g hg
    have e1 : ac_ct g.1 (m_nu σ 1 0) = ac_ct g.1 σ := by
      unfold ac_ct
      congr 2
    rw [e1]
    exact g1 g hg
end AC1
