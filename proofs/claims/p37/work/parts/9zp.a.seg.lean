/-! stretches of a method between places, and contracts that know how many calls there are -/
/-- a place: its pc, its locals by kinds -/
abbrev v_Tm : Type := Nat × List (Nat × ab_T)
def v_C0 (co : Option Nat) : ab_C := match co with
  | none => ac_C1
  | some d => ([(0, 0), (0, 512 - (d : Int))], [], [])
def v_c0 (co : Option Nat) : Option ab_E := match co with
  | none => none
  | some _ => some (1, 0)
def v_L : List (Nat × ab_V) → List (Option ab_V) → List (Option ab_V)
  | [], L => L
  | (i, v) :: t, L => v_L t (L.set i (some v))
def v_ini (co : Option Nat) (T : v_Tm) : ab_C × List ab_V := ac_ini (T.2.map (fun b => b.2)) (v_C0 co)
def v_st (co : Option Nat) (T : v_Tm) (nL : Nat) (O : List ac_O) : ac_S := ((v_ini co T).1, T.1, v_L ((T.2.map (fun b => b.1)).zip (v_ini co T).2) (List.replicate nL none), [], (v_c0 co, O, []), 0, 0)
def v_seg (gd : ar_D) (kp : ac_Kp) (SP : ac_SP) (LP : Nat → Nat → Option ac_An) (PL : Nat → Nat → List (Nat × Option Int)) (cut : Nat → Nat → Bool) (j : Nat) (z : mAl) (co : Option Nat) (T : v_Tm) (O : List ac_O) : Option (List ac_Z) := ar_core gd kp SP LP (ar_go gd kp SP LP PL cut 4000) false j z [] (v_st co T z.1.2.2.1 O)
def v_le (C : ab_C) (e f : ab_E) : Bool := ab_leq C e f || C.2.1.any (fun t => Nat.beq t.1 e.1 && ab_leq C (t.2.1, t.2.2 + e.2) f)
def v_lo (S : ac_S) (b : Nat × ab_T) : Bool := match ab_ld S.2.2.1 b.1 with
  | some v => ab_in S.1 v b.2
  | none => false
def v_cnB (co : Option Nat) (C : ab_C) (o : Option ab_E) (ds : Nat) : Bool := match co, o with
  | none, none => true
  | some _, some e => v_le C e (1, (ds : Int))
  | _, _ => false
def v_fit (co : Option Nat) (ds : Nat) (T : v_Tm) (nL : Nat) (S : ac_S) : Bool := Nat.beq S.2.1 T.1 && (Nat.beq S.2.2.1.length nL && (S.2.2.2.1.isEmpty && (T.2.all (v_lo S) && v_cnB co S.1 S.2.2.2.2.1.1 ds)))
def v_In (kp : ac_Kp) (σ0 : mS) (nL : Nat) (T : v_Tm) (Lc : List (Option mV)) (σ : mS) : Prop := Lc.length = nL ∧ (∀ b ∈ T.2, ∃ x, m_ld Lc b.1 = some x ∧ ab_Tr b.2 x) ∧ ac_KK kp.1 σ ∧ ac_fr kp.2 σ0 σ
/-- how many calls there are: no more than c and some -/
def v_cn (co : Option Nat) (σ0 : mS) (c : Nat) (ds : Nat) (σ : mS) : Prop := match co with
  | none => σ.1 1 = σ0.1 1
  | some _ => σ.1 1 ≤ c + ds
def v_pre (co : Option Nat) (σ : mS) : Prop := match co with
  | none => True
  | some d => σ.1 1 + d ≤ 512
def v_hc (co : Option Nat) (σ0 σ : mS) : Prop := match co with
  | none => σ.1 1 = σ0.1 1
  | some d => σ.1 1 + d ≤ 512
section VS
variable {xs : ab_X} {C : ab_C} {ν ν' : ab_N} {kp : ac_Kp} {σ0 σ σ' : mS} {co : Option Nat} {T : v_Tm} {nL ds : Nat} {Lc : List (Option mV)}
theorem v_le_ok {e f : ab_E} {x y : Int} (h : ab_cx xs C ν) (he : ab_I C.1.length ν e x) (hf : ab_I C.1.length ν f y) (hl : v_le C e f = true) : x ≤ y := by
  unfold v_le at hl
  rcases (Bool.or_eq_true _ _).mp hl with hl | hl
  · exact ab_leq_ok h he hf hl
  · obtain ⟨t, t1, t2⟩ := List.any_eq_true.mp hl
    rw [Bool.and_eq_true] at t2
    have e1 := Nat.eq_of_beq_eq_true t2.1
    obtain ⟨f1, f2, f3⟩ := h.2.2.1 t t1
    have g : ab_I C.1.length ν (t.2.1, t.2.2 + e.2) (ν t.2.1 + (t.2.2 + e.2)) := ⟨f2, rfl⟩
    have := ab_leq_ok h g hf t2.2
    have h2 := he.2
    rw [← e1] at h2
    omega
theorem v_cx0 : ∃ ν, ab_cx none (v_C0 co) ν ∧ (v_pre co σ → ac_cn (v_C0 co).1.length ν (v_c0 co) σ σ ∧ ∀ d, co = some d → 1 < (v_C0 co).1.length ∧ ν 1 = (σ.1 1 : Int)) ∨ ¬ v_pre co σ := by
  cases co with
  | none => exact ⟨fun _ => 0, Or.inl ⟨ac_cx1, fun _ => ⟨rfl, fun d h => by cases h⟩⟩⟩
  | some d =>
    by_cases hd : σ.1 1 + d ≤ 512
    · refine ⟨fun j => if j = 1 then (σ.1 1 : Int) else 0, Or.inl ⟨⟨⟨rfl, fun k q hq => ?_⟩, by show 0 < 2; decide, fun q hq => (by cases hq), fun q hq => (by cases hq)⟩, fun _ => ⟨⟨by show 1 < 2; decide, by show (σ.1 1 : Int) = (if 1 = 1 then (σ.1 1 : Int) else 0) + 0; rw [if_pos rfl]; omega⟩, fun d' e => ⟨by show 1 < 2; decide, if_pos rfl⟩⟩⟩⟩
      match k, hq with
      | 0, hq =>
        cases hq
        exact ⟨by show (0 : Int) ≤ if 0 = 1 then (σ.1 1 : Int) else 0; rw [if_neg (by decide)]; exact Int.le_refl _, by show (if 0 = 1 then (σ.1 1 : Int) else 0) ≤ 0; rw [if_neg (by decide)]; exact Int.le_refl _⟩
      | 1, hq =>
        cases hq
        exact ⟨by show (0 : Int) ≤ if 1 = 1 then (σ.1 1 : Int) else 0; rw [if_pos rfl]; omega, by show (if 1 = 1 then (σ.1 1 : Int) else 0) ≤ 512 - (d : Int); rw [if_pos rfl]; omega⟩
      | k + 2, hq => cases hq
    · exact ⟨fun _ => 0, Or.inr hd⟩
theorem v_L_len : ∀ (l : List (Nat × ab_V)) (L : List (Option ab_V)), (v_L l L).length = L.length
  | [], _ => rfl
  | (i, v) :: t, L => by
    show (v_L t (L.set i (some v))).length = _
    rw [v_L_len t, List.length_set]
theorem v_L_ok {n : Nat} : ∀ (l : List (Nat × ab_V)) (L : List (Option ab_V)), (∀ i v, L[i]? = some (some v) → ∃ x, m_ld Lc i = some x ∧ ab_Vr n ν v x) → (∀ q ∈ l, ∃ x, m_ld Lc q.1 = some x ∧ ab_Vr n ν q.2 x) → ∀ i v, (v_L l L)[i]? = some (some v) → ∃ x, m_ld Lc i = some x ∧ ab_Vr n ν v x
  | [], _, h, _ => h
  | (i, v) :: t, L, h, g => by
    refine v_L_ok t (L.set i (some v)) (fun i' v' h' => ?_) (fun q hq => g q (List.mem_cons_of_mem _ hq))
    by_cases e : i = i'
    · subst e
      rw [List.getElem?_set_self' ] at h'
      cases hL : L[i]? with
      | none => rw [hL] at h'; cases h'
      | some w =>
        rw [hL] at h'
        cases h'
        exact g (i, v) List.mem_cons_self
    · rw [List.getElem?_set_ne e] at h'
      exact h i' v' h'
/-- the values of a place's locals -/
theorem v_vals : ∀ (l : List (Nat × ab_T)), (∀ b ∈ l, ∃ x, m_ld Lc b.1 = some x ∧ ab_Tr b.2 x) → ∃ avs, ac_TrL (l.map (fun b => b.2)) avs ∧ (l.map (fun b => m_ld Lc b.1)) = avs.map some
  | [], _ => ⟨[], trivial, rfl⟩
  | b :: t, h => by
    obtain ⟨x, x1, x2⟩ := h b List.mem_cons_self
    obtain ⟨avs, a1, a2⟩ := v_vals t (fun q hq => h q (List.mem_cons_of_mem _ hq))
    exact ⟨x :: avs, ⟨x2, a1⟩, by rw [List.map_cons, List.map_cons, x1, a2]⟩
theorem v_zip {n : Nat} : ∀ (l : List (Nat × ab_T)) (vs : List ab_V) (avs : List mV), ab_Vs n ν vs avs → l.map (fun b => m_ld Lc b.1) = avs.map some → ∀ q ∈ (l.map (fun b => b.1)).zip vs, ∃ x, m_ld Lc q.1 = some x ∧ ab_Vr n ν q.2 x
  | [], _, _, _, _, q, hq => by cases hq
  | b :: t, [], _, _, _, q, hq => by cases hq
  | b :: t, v :: vs, avs, hv, e, q, hq => by
    obtain ⟨x, s', rfl, h1, h2⟩ := ab_Vs_c hv
    rw [List.map_cons, List.map_cons] at e
    injection e with e1 e2
    rcases List.mem_cons.mp hq with rfl | hq
    · exact ⟨x, e1, h1⟩
    · exact v_zip t vs s' h2 e2 q hq
theorem v_fit_ok {S : ac_S} {c : Nat} {sc : List mV} (hf : v_fit co ds T nL S = true) (h : ab_cx xs S.1 ν) (hL : ab_Ls S.1.1.length ν S.2.2.1 Lc) (hs : ab_Vs S.1.1.length ν S.2.2.2.1 sc) (hp : ac_hp kp σ0 S.1.1.length ν S.2.2.2.2.1 σ) (hc : ∀ d, co = some d → 1 < S.1.1.length ∧ ν 1 = (c : Int)) : S.2.1 = T.1 ∧ sc = [] ∧ v_In kp σ0 nL T Lc σ ∧ v_cn co σ0 c ds σ := by
  unfold v_fit at hf
  simp only [Bool.and_eq_true] at hf
  obtain ⟨f1, f2, f3, f4, f5⟩ := hf
  have e2 : S.2.2.2.1 = [] := List.isEmpty_iff.mp f3
  rw [e2] at hs
  refine ⟨Nat.eq_of_beq_eq_true f1, ab_Vs_0 hs, ⟨hL.1.trans (Nat.eq_of_beq_eq_true f2), fun b hb => ?_, hp.1, hp.2.1⟩, ?_⟩
  · have g := List.all_eq_true.mp f4 b hb
    unfold v_lo at g
    cases hv : ab_ld S.2.2.1 b.1 with
    | none => rw [hv] at g; cases g
    | some v =>
      rw [hv] at g
      have hv2 : S.2.2.1[b.1]? = some (some v) := by
        unfold ab_ld at hv
        split at hv
        · rename_i w hw
          cases hv
          exact hw
        · cases hv
      obtain ⟨x, x1, x2⟩ := hL.2 b.1 v hv2
      exact ⟨x, x1, ab_in_ok h x2 g⟩
  · have c1 := hp.2.2.1
    unfold v_cnB at f5
    unfold v_cn
    cases co with
    | none =>
      cases hH : S.2.2.2.2.1.1 with
      | none => rw [hH] at c1; exact c1
      | some e => rw [hH] at f5; cases f5
    | some d =>
      cases hH : S.2.2.2.2.1.1 with
      | none => rw [hH] at f5; cases f5
      | some e =>
        rw [hH] at f5 c1
        obtain ⟨c2, c3⟩ := hc d rfl
        have f5 : v_le S.1 e (1, (ds : Int)) = true := f5
        have c1 : ab_I S.1.1.length ν e (σ.1 1 : Int) := c1
        have := v_le_ok h c1 (f := (1, (ds : Int))) (y := ν 1 + (ds : Int)) ⟨c2, rfl⟩ f5
        show σ.1 1 ≤ c + ds
        omega
end VS
/-- a stretch -/
theorem v_seg_ok {CC : Nat → List mV → mS → (mX → mS → Prop) → Prop} {Gd : ev_G} {gd : ar_D} {kp : ac_Kp} {SP : ac_SP} (hl : ev_rule Gd CC) (hgd : ar_gok Gd kp gd) (hSP : ar_SPok CC kp SP) {LP : Nat → Nat → Option ac_An} {PL : Nat → Nat → List (Nat × Option Int)} {cut : Nat → Nat → Bool} {j : Nat} {z : mAl} {co : Option Nat} {T : v_Tm} {O : List ac_O} {outs : List ac_Z} (hs : v_seg gd kp SP LP PL cut j z co T O = some outs) {Q : mX → mS → Prop} {J : Nat → List (Option mV) → List mV → mS → Nat → Nat → Prop} {σ0 σ : mS} {Lc : List (Option mV)} (hJ : ev_cl Gd CC j z none Q J) (hin : v_In kp σ0 z.1.2.2.1 T Lc σ)
    (hc : v_hc co σ0 σ) (hO : ∀ (n : Nat) (ν : ab_N), 0 < n → ν 0 = 0 → ∀ o ∈ O, ac_ov n ν σ o)
    (ho : ∀ ν avs, ab_cx none (v_ini co T).1 ν → ab_Vs (v_ini co T).1.1.length ν (v_ini co T).2 avs → T.2.map (fun b => m_ld Lc b.1) = avs.map some → (∀ d, co = some d → 1 < (v_ini co T).1.1.length ∧ ν 1 = (σ.1 1 : Int)) → ∀ o ∈ outs, ac_zo kp σ0 none (v_ini co T).1 ν J Q o) : J T.1 Lc [] σ 0 0 := by
  obtain ⟨i1, i2, i3, i4⟩ := hin
  obtain ⟨avs, a1, a2⟩ := v_vals T.2 i2
  have hcc : v_pre co σ := by
    cases co with
    | none => trivial
    | some d => exact hc
  obtain ⟨ν0, ⟨h0, g0⟩ | g0⟩ := v_cx0 (co := co) (σ := σ)
  rotate_left
  · exact absurd hcc g0
  obtain ⟨n0, n1⟩ := g0 hcc
  obtain ⟨ν, u, g⟩ := ac_ini_ok (Ts := T.2.map (fun b => b.2)) h0 a1
  have hcn : ac_cn (v_ini co T).1.1.length ν (v_c0 co) σ0 σ := by
    cases co with
    | none => exact hc
    | some d => exact u.I n0
  have n1' : ∀ d, co = some d → 1 < (v_ini co T).1.1.length ∧ ν 1 = (σ.1 1 : Int) := fun d hd => by
    obtain ⟨b1, b2⟩ := n1 d hd
    exact ⟨Nat.lt_of_lt_of_le b1 u.2.2, (u.2.1 1 b1).trans b2⟩
  have hL : ab_Ls (v_ini co T).1.1.length ν (v_st co T z.1.2.2.1 O).2.2.1 Lc := by
    refine ⟨?_, v_L_ok _ _ (fun i v h => ?_) (v_zip T.2 _ avs g a2)⟩
    · show _ = (v_L _ _).length
      rw [v_L_len, List.length_replicate]
      exact i1
    · rw [List.getElem?_replicate] at h
      split at h
      · cases h
      · cases h
  exact ar_core_ok hl hgd hSP (ar_go_ok hl hgd hSP 4000) false j z [] (v_st co T z.1.2.2.1 O) outs hs none none ν σ0 Lc [] σ Q J (fun w => by cases w) (fun w => by cases w) hJ (fun p hp => by cases hp) u.1 hL trivial ⟨i3, i4, hcn, hO _ ν u.1.2.1 u.1.1.1, fun g hg => by cases hg⟩ (fun o ho' => ho ν avs u.1 g a2 n1' o ho')
