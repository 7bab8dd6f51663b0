/-! contracts from one heap to another, by computing (the first analysis) -/
def ac_LPn (_ _ : Nat) : Option ab_An := none
def ac_PLn (_ _ : Nat) : List (Nat × Option Int) := []
def ab_cE (e : ab_E) : Bool := Nat.beq e.1 0
def ab_cV (v : ab_V) : Bool := match v with
  | .inl e => ab_cE e
  | .inr (.inl e) => ab_cE e
  | .inr (.inr (.inl z)) => ab_cE z.2.1 && ab_cE z.2.2
  | .inr (.inr (.inr q)) => ab_cE q.1 && ab_cE q.2
def ab_cH (H : ab_H) : Bool := H.1.all (fun q => ab_cE q.2) && H.2.2.2.all (fun o => ab_cV o.2.2.2)
section ABX
variable {n n' : Nat} {ν ν' : ab_N}
theorem ab_cI {e : ab_E} {x : Int} (hc : ab_cE e = true) (h0 : ν' 0 = ν 0) (hn : 0 < n') (h : ab_I n ν e x) : ab_I n' ν' e x := by
  have e1 := Nat.eq_of_beq_eq_true hc
  refine ⟨by rw [e1]; exact hn, ?_⟩
  rw [e1, h0, ← e1]
  exact h.2
theorem ab_cVr {v : ab_V} {x : mV} (hc : ab_cV v = true) (h0 : ν' 0 = ν 0) (hn : 0 < n') (h : ab_Vr n ν v x) : ab_Vr n' ν' v x := by
  rcases v with a | a | z | q
  · obtain ⟨y, rfl, g⟩ := ab_Vi h
    exact ab_cI hc h0 hn g
  · obtain ⟨y, rfl, g⟩ := ab_Vl h
    exact ab_cI hc h0 hn g
  · obtain ⟨y, rfl, g⟩ := ab_Va h
    have hc' : (ab_cE z.2.1 && ab_cE z.2.2) = true := hc
    rw [Bool.and_eq_true] at hc'
    have e1 := Nat.eq_of_beq_eq_true hc'.1
    have e2 := Nat.eq_of_beq_eq_true hc'.2
    obtain ⟨g1, g2, g3⟩ := g
    refine ⟨by rw [e1]; exact hn, by rw [e2]; exact hn, ?_⟩
    rw [e1, e2] at g3 ⊢
    rw [h0]
    exact g3
  · obtain ⟨a, b, rfl, g1, g2⟩ := ab_Vc h
    have hc' : (ab_cE q.1 && ab_cE q.2) = true := hc
    rw [Bool.and_eq_true] at hc'
    exact ⟨a, b, rfl, ab_cI hc'.1 h0 hn g1, ab_cI hc'.2 h0 hn g2⟩
theorem ab_cHp {H : ab_H} {σ : mS} (hc : ab_cH H = true) (h0 : ν' 0 = ν 0) (hn : 0 < n') (h : ab_hp n ν H σ) : ab_hp n' ν' H σ := by
  unfold ab_cH at hc
  rw [Bool.and_eq_true] at hc
  exact ⟨fun q hq => ab_cI (List.all_eq_true.mp hc.1 q hq) h0 hn (h.1 q hq), h.2.1, h.2.2.1, fun o ho => ab_cVr (List.all_eq_true.mp hc.2 o ho) h0 hn (h.2.2.2 o ho)⟩
theorem ab_cVs : ∀ {vs : List ab_V} {xs : List mV}, vs.all ab_cV = true → ν' 0 = ν 0 → 0 < n' → ab_Vs n ν vs xs → ab_Vs n' ν' vs xs
  | [], [], _, _, _, _ => trivial
  | v :: vs, x :: xs, hc, h0, hn, ⟨h1, h2⟩ => by
    rw [List.all_cons, Bool.and_eq_true] at hc
    exact ⟨ab_cVr hc.1 h0 hn h1, ab_cVs hc.2 h0 hn h2⟩
  | [], _ :: _, _, _, _, h => h.elim
  | _ :: _, [], _, _, _, h => h.elim
end ABX
def ab_eVs : List ab_V → List ab_V → Bool
  | [], [] => true
  | v :: vs, w :: ws => ab_eV v w && ab_eVs vs ws
  | _, _ => false
theorem ab_eVs_ok : ∀ {v w : List ab_V}, ab_eVs v w = true → v = w
  | [], [], _ => rfl
  | v :: vs, w :: ws, h => by
    unfold ab_eVs at h
    rw [Bool.and_eq_true] at h
    rw [ab_eV_ok h.1, ab_eVs_ok h.2]
  | [], _ :: _, h => by cases h
  | _ :: _, [], h => by cases h
/-- by rows, or cell by cell -/
def ab_impG2 (C : ab_C) (H : ab_H) (b : ab_G) : Bool := ab_impG C H b ||
  ((List.range (b.2.2.2.2.1 + 1 - b.2.2.2.1)).all (fun k => ab_impG C H (b.1, b.2.1, b.2.2.1, b.2.2.2.1 + k, b.2.2.2.1 + k, b.2.2.2.2.2)) ||
  (List.range (b.2.2.1 + 1 - b.2.1)).all (fun i => (List.range (b.2.2.2.2.1 + 1 - b.2.2.2.1)).all (fun k => ab_impG C H (b.1, b.2.1 + i, b.2.1 + i, b.2.2.2.1 + k, b.2.2.2.1 + k, b.2.2.2.2.2))))
def ab_imp2 (C : ab_C) (H K : ab_H) : Bool := ab_imp C H (K.1, K.2.1, [], K.2.2.2) && K.2.2.1.all (ab_impG2 C H)
theorem ab_impG_1 {xs : ab_X} {C : ab_C} {ν : ab_N} {H : ab_H} {σ : mS} {b : ab_G} (h : ab_cx xs C ν) (hp : ab_hp C.1.length ν H σ) (hb : ab_impG C H b = true) : ∀ i k, b.2.1 ≤ i → i ≤ b.2.2.1 → b.2.2.2.1 ≤ k → k ≤ b.2.2.2.2.1 → ab_Tr b.2.2.2.2.2 (m_get σ b.1 i k) := by
  have g : ab_hp C.1.length ν ([], [], [b], []) σ := ab_imp_ok h hp (by
    unfold ab_imp
    simp only [List.all_nil, List.all_cons, Bool.and_true, Bool.true_and]
    exact hb)
  exact g.2.2.1 b List.mem_cons_self
theorem ab_imp2_ok {xs : ab_X} {C : ab_C} {ν : ab_N} {H K : ab_H} {σ : mS} (h : ab_cx xs C ν) (hp : ab_hp C.1.length ν H σ) (hi : ab_imp2 C H K = true) : ab_hp C.1.length ν K σ := by
  unfold ab_imp2 at hi
  rw [Bool.and_eq_true] at hi
  have g := ab_imp_ok h hp hi.1
  refine ⟨g.1, g.2.1, fun b hb i k h1 h2 h3 h4 => ?_, g.2.2.2⟩
  have hb2 := List.all_eq_true.mp hi.2 b hb
  unfold ab_impG2 at hb2
  rcases (Bool.or_eq_true _ _).mp hb2 with hb2 | hb2
  · exact ab_impG_1 h hp hb2 i k h1 h2 h3 h4
  rcases (Bool.or_eq_true _ _).mp hb2 with hb2 | hb2
  · have q := List.all_eq_true.mp hb2 (k - b.2.2.2.1) (List.mem_range.mpr (by omega))
    have e : b.2.2.2.1 + (k - b.2.2.2.1) = k := by omega
    rw [e] at q
    exact ab_impG_1 (b := (b.1, b.2.1, b.2.2.1, k, k, b.2.2.2.2.2)) h hp q i k h1 h2 (Nat.le_refl _) (Nat.le_refl _)
  · have q0 := List.all_eq_true.mp hb2 (i - b.2.1) (List.mem_range.mpr (by omega))
    have q := List.all_eq_true.mp q0 (k - b.2.2.2.1) (List.mem_range.mpr (by omega))
    have e : b.2.2.2.1 + (k - b.2.2.2.1) = k := by omega
    have e2 : b.2.1 + (i - b.2.1) = i := by omega
    rw [e, e2] at q
    exact ab_impG_1 (b := (b.1, i, i, k, k, b.2.2.2.2.2)) h hp q i k (Nat.le_refl _) (Nat.le_refl _) (Nat.le_refl _) (Nat.le_refl _)
def ab_SPx (es : List ab_Ent) : ab_SP := fun j args C H => match es.find? (fun e => Nat.beq e.1 j && (ab_eVs e.2.1 args && ab_imp2 C H e.2.2.1)) with
  | some e => some [(C, .inl none, e.2.2.2)]
  | none => none
def ab_isV (o : Option ab_V ⊕ Nat) : Bool := match o with
  | .inl none => true
  | _ => false
def ab_Ce : ab_C := ([(0, 0)], [], [])
def bb_entB (gd : bb_D) (SP : ab_SP) (e : ab_Ent) : Bool := e.2.1.all ab_cV && (ab_cH e.2.2.1 && (ab_cH e.2.2.2 && (match ab_ret ab_SP0 (bb_go gd SP ac_LPn ac_PLn ac_ABt ac_nc 4000) e.1 e.2.1 ab_Ce e.2.2.1 with
  | some outs => outs.all (fun q => ab_isV q.2.1 && ab_imp2 q.1 q.2.2 e.2.2.2)
  | none => false)))
theorem bb_SPx_ok {CC : Nat → List mV → mS → (mX → mS → Prop) → Prop} {Gd : ev_G} {gd : bb_D} (hl : ev_rule Gd CC) (hgd : bb_gok Gd gd) {SP : ab_SP} (hSP : bb_SPok CC SP) {es : List ab_Ent} (h : ∀ e ∈ es, bb_entB gd SP e = true) : bb_SPok CC (ab_SPx es) := by
  intro j args C H outs hs xs ν avs σ hc ha hp Q hQ
  unfold ab_SPx at hs
  cases hf : es.find? (fun e => Nat.beq e.1 j && (ab_eVs e.2.1 args && ab_imp2 C H e.2.2.1)) with
  | none => rw [hf] at hs; cases hs
  | some e =>
  rw [hf] at hs
  cases hs
  have m1 := List.mem_of_find?_eq_some hf
  have m2 := List.find?_some hf
  rw [Bool.and_eq_true, Bool.and_eq_true] at m2
  have e1 := Nat.eq_of_beq_eq_true m2.1
  have e2 := ab_eVs_ok m2.2.1
  subst e1
  subst e2
  have hin := ab_imp2_ok hc hp m2.2.2
  have hb := h e m1
  unfold bb_entB at hb
  rw [Bool.and_eq_true, Bool.and_eq_true, Bool.and_eq_true] at hb
  obtain ⟨b1, b2, b3, b4⟩ := hb
  cases hr : ab_ret ab_SP0 (bb_go gd SP ac_LPn ac_PLn ac_ABt ac_nc 4000) e.1 e.2.1 ab_Ce e.2.2.1 with
  | none => rw [hr] at b4; cases b4
  | some os =>
  rw [hr] at b4
  have hce : ab_cx xs ab_Ce ν := by
    refine ⟨⟨hc.1.1, fun k q hq => ?_⟩, Nat.zero_lt_one, fun q hq => (by cases hq), fun q hq => (by cases hq)⟩
    cases k with
    | zero =>
      have hq' : some ((0 : Int), (0 : Int)) = some q := hq
      cases hq'
      rw [hc.1.1]
      exact ⟨Int.le_refl _, Int.le_refl _⟩
    | succ k => cases hq
  refine bb_ret_ok hl (bb_SP0_ok CC) (bb_go_ok hl hgd hSP 4000) hr hce (ab_cVs b1 rfl Nat.zero_lt_one ha) (ab_cHp b2 rfl Nat.zero_lt_one hin) (fun q hq ν' x σ' u hxs hσ => ?_)
  have hq2 := List.all_eq_true.mp b4 q hq
  rw [Bool.and_eq_true] at hq2
  have h3 := ab_imp2_ok u.1 hσ hq2.2
  have h4 : ab_hp C.1.length ν e.2.2.2 σ' := ab_cHp b3 (by rw [hc.1.1, u.1.1.1]) hc.2.1 h3
  have hx2 : x = .inl none := by
    obtain ⟨q1, q2, q3⟩ := q
    have hv := hq2.1
    dsimp only at hv hxs
    rcases q2 with w | w
    · cases w with
      | some w => cases hv
      | none =>
        cases x with
        | inl y =>
          cases y with
          | none => rfl
          | some _ => exact hxs.elim
        | inr _ => exact hxs.elim
    · cases hv
  subst hx2
  exact hQ _ List.mem_cons_self ν _ σ' (ab_up.rf hc) trivial h4
