/-! loops of the analysis: what is given up at a head, what is held there -/
/-- locals that are dead, whether the counter goes up, locals given up (the first one counts), cells given up, which number is at most which other and so much -/
abbrev ab_P : Type := Nat × Nat × Nat × Nat
abbrev ab_An : Type := List Nat × Bool × List (Nat × ab_T) × List (Nat × Nat × Nat × ab_T) × List (ab_P × ab_P × Int)
def ab_offL (an : ab_An) (i : Nat) : Bool := an.1.any (fun p => Nat.beq p i) || an.2.2.1.any (fun p => Nat.beq p.1 i)
def ab_offO (an : ab_An) (o : ab_O) : Bool := an.2.2.2.1.any (fun q => ab_key q.1 q.2.1 q.2.2.1 o)
def ab_mask (off : Nat → Bool) : Nat → List (Option ab_V) → List (Option ab_V)
  | _, [] => []
  | i, v :: t => (bif off i then none else v) :: ab_mask off (i + 1) t
def ab_nm (x : mV) : Option Int := match x with
  | .inl y => some y.toInt
  | .inr (.inl y) => some y.toInt
  | .inr (.inr _) => none
def ab_cn (Lc : List (Option mV)) (σ : mS) (p : ab_P) : Option Int := match p.1 with
  | 0 => (match m_ld Lc p.2.1 with
    | some x => ab_nm x
    | none => none)
  | _ => ab_nm (m_get σ p.2.1 p.2.2.1 p.2.2.2)
def ab_num (v : ab_V) : Option ab_E := match v with
  | .inl e => some e
  | .inr (.inl e) => some e
  | .inr (.inr _) => none
/-- a cell that needs no new unknown -/
def ab_rdc (C : ab_C) (H : ab_H) (c i k : Nat) : Option ab_V := match ab_rd C H c (0, (i : Int)) (0, (k : Int)) with
  | some r => bif Nat.beq r.1.1.length C.1.length then some r.2 else none
  | none => none
def ab_an (C : ab_C) (L : List (Option ab_V)) (H : ab_H) (p : ab_P) : Option ab_E := match p.1 with
  | 0 => (match ab_ld L p.2.1 with
    | some v => ab_num v
    | none => none)
  | _ => (match ab_rdc C H p.2.1 p.2.2.1 p.2.2.2 with
    | some v => ab_num v
    | none => none)
def ab_eV (v w : ab_V) : Bool := match v, w with
  | .inl e, .inl f => ab_eE e f
  | .inr (.inl e), .inr (.inl f) => ab_eE e f
  | .inr (.inr (.inl z)), .inr (.inr (.inl w)) => Nat.beq z.1 w.1 && (ab_eE z.2.1 w.2.1 && ab_eE z.2.2 w.2.2)
  | .inr (.inr (.inr z)), .inr (.inr (.inr w)) => ab_eE z.1 w.1 && ab_eE z.2 w.2
  | _, _ => false
theorem ab_eV_ok {v w : ab_V} (h : ab_eV v w = true) : v = w := by
  unfold ab_eV at h
  split at h
  · exact congrArg Sum.inl (ab_eE_ok h)
  · exact congrArg (fun z => Sum.inr (Sum.inl z)) (ab_eE_ok h)
  · rw [Bool.and_eq_true, Bool.and_eq_true] at h
    exact congrArg (fun z => Sum.inr (Sum.inr (Sum.inl z))) (Prod.ext (Nat.eq_of_beq_eq_true h.1) (Prod.ext (ab_eE_ok h.2.1) (ab_eE_ok h.2.2)))
  · rw [Bool.and_eq_true] at h
    exact congrArg (fun z => Sum.inr (Sum.inr (Sum.inr z))) (Prod.ext (ab_eE_ok h.1) (ab_eE_ok h.2))
  · cases h
def ab_eO2 (o p : ab_O) : Bool := Nat.beq o.1 p.1 && (Nat.beq o.2.1 p.2.1 && (Nat.beq o.2.2.1 p.2.2.1 && ab_eV o.2.2.2 p.2.2.2))
theorem ab_eO2_ok {o p : ab_O} (h : ab_eO2 o p = true) : o = p := by
  unfold ab_eO2 at h
  simp only [Bool.and_eq_true] at h
  exact Prod.ext (Nat.eq_of_beq_eq_true h.1) (Prod.ext (Nat.eq_of_beq_eq_true h.2.1) (Prod.ext (Nat.eq_of_beq_eq_true h.2.2.1) (ab_eV_ok h.2.2.2)))
def ab_eQ : List (Nat × ab_E) → List (Nat × ab_E) → Bool
  | [], [] => true
  | p :: ps, q :: qs => Nat.beq p.1 q.1 && (ab_eE p.2 q.2 && ab_eQ ps qs)
  | _, _ => false
theorem ab_eQ_ok : ∀ {p q : List (Nat × ab_E)}, ab_eQ p q = true → p = q
  | [], [], _ => rfl
  | p :: ps, q :: qs, h => by
    unfold ab_eQ at h
    simp only [Bool.and_eq_true] at h
    rw [ab_eQ_ok h.2.2, Prod.ext (Nat.eq_of_beq_eq_true h.1) (ab_eE_ok h.2.1)]
  | [], _ :: _, h => by cases h
  | _ :: _, [], h => by cases h
def ab_eN : List (Nat × Nat × Nat × Nat) → List (Nat × Nat × Nat × Nat) → Bool
  | [], [] => true
  | p :: ps, q :: qs => Nat.beq p.1 q.1 && (Nat.beq p.2.1 q.2.1 && (Nat.beq p.2.2.1 q.2.2.1 && (Nat.beq p.2.2.2 q.2.2.2 && ab_eN ps qs)))
  | _, _ => false
theorem ab_eN_ok : ∀ {p q : List (Nat × Nat × Nat × Nat)}, ab_eN p q = true → p = q
  | [], [], _ => rfl
  | p :: ps, q :: qs, h => by
    unfold ab_eN at h
    simp only [Bool.and_eq_true] at h
    rw [ab_eN_ok h.2.2.2.2, Prod.ext (Nat.eq_of_beq_eq_true h.1) (Prod.ext (Nat.eq_of_beq_eq_true h.2.1) (Prod.ext (Nat.eq_of_beq_eq_true h.2.2.1) (Nat.eq_of_beq_eq_true h.2.2.2.1)))]
  | [], _ :: _, h => by cases h
  | _ :: _, [], h => by cases h
def ab_ckL : List (Option ab_V) → List (Option ab_V) → Bool
  | [], [] => true
  | b :: bs, l :: ls => (match b with
    | none => true
    | some v => (match l with
      | some w => ab_eV v w
      | none => false)) && ab_ckL bs ls
  | _, _ => false
def ab_Tle (T U : ab_T) : Bool := Nat.beq T.1 U.1 && (ab_le U.2.2.1 T.2.2.1 && (ab_le T.2.2.2.1 U.2.2.2.1 && ((Nat.beq U.2.2.2.2.1 0 || !(Nat.beq T.2.2.2.2.1 0)) && ((Nat.beq U.2.2.2.2.2 1 && Nat.beq T.2.1 U.2.1) || !(Nat.beq T.2.2.2.2.2 1)))))
def ab_Gle : List ab_G → List ab_G → Bool
  | [], [] => true
  | g :: gs, b :: bs => Nat.beq g.1 b.1 && (Nat.beq g.2.1 b.2.1 && (Nat.beq g.2.2.1 b.2.2.1 && (Nat.beq g.2.2.2.1 b.2.2.2.1 && (Nat.beq g.2.2.2.2.1 b.2.2.2.2.1 && (ab_Tle g.2.2.2.2.2 b.2.2.2.2.2 && ab_Gle gs bs)))))
  | _, _ => false
def ab_ckH (Hb H : ab_H) : Bool := ab_eQ Hb.1 H.1 && (ab_eN Hb.2.1 H.2.1 && (ab_Gle H.2.2.1 Hb.2.2.1 && Hb.2.2.2.all (fun o => H.2.2.2.any (ab_eO2 o))))
def ab_ckR (an : ab_An) (C : ab_C) (L : List (Option ab_V)) (H : ab_H) : Bool :=
  an.2.2.1.all (fun p => match ab_ld L p.1 with
    | some v => ab_in C v p.2
    | none => false) && (an.2.2.2.1.all (fun q => match ab_rd C H q.1 (0, (q.2.1 : Int)) (0, (q.2.2.1 : Int)) with
    | some r => ab_in r.1 r.2 q.2.2.2
    | none => false) && an.2.2.2.2.all (fun f => match ab_an C L H f.1, ab_an C L H f.2.1 with
    | some a, some b => ab_leq C a (b.1, b.2 + f.2.2)
    | _, _ => false))
/-- what is held at a loop's head -/
def ab_LI (an : ab_An) (n : Nat) (ν : ab_N) (B : List (Option ab_V)) (Hb : ab_H) (Lc : List (Option mV)) (σ : mS) : Prop :=
  ab_Ls n ν B Lc ∧ ab_hp n ν Hb σ ∧ (∀ p ∈ an.2.2.1, ∃ x, m_ld Lc p.1 = some x ∧ ab_Tr p.2 x) ∧ (∀ q ∈ an.2.2.2.1, ab_Tr q.2.2.2 (m_get σ q.1 q.2.1 q.2.2.1)) ∧ ∀ f ∈ an.2.2.2.2, ∃ a b, ab_cn Lc σ f.1 = some a ∧ ab_cn Lc σ f.2.1 = some b ∧ a ≤ b + f.2.2
def ab_ivL : List (Nat × ab_T) → ab_C → List (Option ab_V) → ab_C × List (Option ab_V)
  | [], C, L => (C, L)
  | p :: t, C, L => ab_ivL t (ab_of C p.2).1 (L.set p.1 (some (ab_of C p.2).2))
def ab_ivO : List (Nat × Nat × Nat × ab_T) → ab_C → List ab_O → ab_C × List ab_O
  | [], C, O => (C, O)
  | q :: t, C, O => ab_ivO t (ab_of C q.2.2.2).1 ((q.1, q.2.1, q.2.2.1, (ab_of C q.2.2.2).2) :: O)
def ab_ivF (L : List (Option ab_V)) (H : ab_H) : List (ab_P × ab_P × Int) → ab_C → ab_C
  | [], C => C
  | f :: t, C => match ab_an C L H f.1, ab_an C L H f.2.1 with
    | some a, some b => ab_ivF L H t (ab_asle C a (b.1, b.2 + f.2.2))
    | _, _ => ab_ivF L H t C
section ABE
variable {xs : ab_X} {C : ab_C} {ν ν' : ab_N} {H Hb : ab_H} {σ : mS} {L B : List (Option ab_V)} {Lc : List (Option mV)} {n n' : Nat} {an : ab_An}
theorem ab_mask_at {off : Nat → Bool} : ∀ {L : List (Option ab_V)} {i j : Nat} {v : ab_V}, (ab_mask off i L)[j]? = some (some v) → L[j]? = some (some v)
  | [], _, _, _, h => by cases h
  | w :: t, i, 0, v, h => by
    have h' : (bif off i then none else w) = some v := by simpa [ab_mask] using h
    cases hb : off i with
    | true => rw [hb] at h'; cases h'
    | false => rw [hb] at h'; simpa using h'
  | w :: t, i, j + 1, v, h => by
    have h' : (ab_mask off (i + 1) t)[j]? = some (some v) := by simpa [ab_mask] using h
    simpa using ab_mask_at h'
theorem ab_mask_len {off : Nat → Bool} : ∀ {L : List (Option ab_V)} {i : Nat}, (ab_mask off i L).length = L.length
  | [], _ => rfl
  | _ :: t, i => congrArg (· + 1) (ab_mask_len (L := t) (i := i + 1))
theorem ab_Ls.mask {off : Nat → Bool} {i : Nat} (h : ab_Ls n ν L Lc) : ab_Ls n ν (ab_mask off i L) Lc := ⟨by rw [ab_mask_len]; exact h.1, fun j v hv => h.2 j v (ab_mask_at hv)⟩
theorem ab_hp.filt (h : ab_hp n ν H σ) (p : ab_O → Bool) : ab_hp n ν (H.1, H.2.1, H.2.2.1, H.2.2.2.filter p) σ := ⟨h.1, h.2.1, h.2.2.1, fun o ho => h.2.2.2 o (List.mem_filter.mp ho).1⟩
theorem ab_num_ok {v : ab_V} {x : mV} {e : ab_E} (hv : ab_Vr n ν v x) (he : ab_num v = some e) : ∃ a, ab_nm x = some a ∧ ab_I n ν e a := by
  rcases v with a | a | a
  · cases he
    obtain ⟨y, rfl, g⟩ := ab_Vi hv
    exact ⟨_, rfl, g⟩
  · cases he
    obtain ⟨y, rfl, g⟩ := ab_Vl hv
    exact ⟨_, rfl, g⟩
  · cases he
theorem ab_ex.sy (h : ab_ex n ν ν') : ab_ex n ν' ν := fun j hj => (h j hj).symm
theorem ab_rdc_ok {c i k : Nat} {v : ab_V} (h : ab_cx xs C ν) (hp : ab_hp C.1.length ν H σ) (hr : ab_rdc C H c i k = some v) : ab_Vr C.1.length ν v (m_get σ c i k) := by
  unfold ab_rdc at hr
  cases hq : ab_rd C H c (0, (i : Int)) (0, (k : Int)) with
  | none => rw [hq] at hr; cases hr
  | some r =>
    rw [hq] at hr
    dsimp only at hr
    cases hb : Nat.beq r.1.1.length C.1.length with
    | false => rw [hb] at hr; cases hr
    | true =>
      rw [hb] at hr
      cases hr
      obtain ⟨ν', u, g⟩ := ab_rd_ok h hp (ab_con h) (ab_con h) hq
      have e := Nat.eq_of_beq_eq_true hb
      rw [e] at g
      exact g.ex u.2.1.sy (Nat.le_refl _)
theorem ab_an_ok {p : ab_P} {e : ab_E} (h : ab_cx xs C ν) (hL : ab_Ls C.1.length ν L Lc) (hp : ab_hp C.1.length ν H σ) (he : ab_an C L H p = some e) : ∃ a, ab_cn Lc σ p = some a ∧ ab_I C.1.length ν e a := by
  obtain ⟨t, i, j, k⟩ := p
  unfold ab_an at he
  unfold ab_cn
  cases t with
  | zero =>
    dsimp only at he ⊢
    cases hv : ab_ld L i with
    | none => rw [hv] at he; cases he
    | some v =>
      rw [hv] at he
      obtain ⟨x, h1, h2⟩ := hL.ld hv
      rw [h1]
      exact ab_num_ok h2 he
  | succ t =>
    dsimp only at he ⊢
    cases hv : ab_rdc C H i j k with
    | none => rw [hv] at he; cases he
    | some v =>
      rw [hv] at he
      exact ab_num_ok (ab_rdc_ok h hp hv) he
/-- the checks give what is held -/
theorem ab_ckR_ok (h : ab_cx xs C ν) (hL : ab_Ls C.1.length ν L Lc) (hp : ab_hp C.1.length ν H σ) (hc : ab_ckR an C L H = true) :
    (∀ p ∈ an.2.2.1, ∃ x, m_ld Lc p.1 = some x ∧ ab_Tr p.2 x) ∧ (∀ q ∈ an.2.2.2.1, ab_Tr q.2.2.2 (m_get σ q.1 q.2.1 q.2.2.1)) ∧ ∀ f ∈ an.2.2.2.2, ∃ a b, ab_cn Lc σ f.1 = some a ∧ ab_cn Lc σ f.2.1 = some b ∧ a ≤ b + f.2.2 := by
  unfold ab_ckR at hc
  rw [Bool.and_eq_true, Bool.and_eq_true] at hc
  obtain ⟨c1, c2, c3⟩ := hc
  refine ⟨fun p hq => ?_, fun q hq => ?_, fun f hq => ?_⟩
  · have g := List.all_eq_true.mp c1 p hq
    cases hv : ab_ld L p.1 with
    | none => rw [hv] at g; cases g
    | some v =>
      rw [hv] at g
      obtain ⟨x, h1, h2⟩ := hL.ld hv
      exact ⟨x, h1, ab_in_ok h h2 g⟩
  · have g := List.all_eq_true.mp c2 q hq
    cases hv : ab_rd C H q.1 (0, (q.2.1 : Int)) (0, (q.2.2.1 : Int)) with
    | none => rw [hv] at g; cases g
    | some r =>
      rw [hv] at g
      obtain ⟨ν', u, g2⟩ := ab_rd_ok h hp (ab_con h) (ab_con h) hv
      exact ab_in_ok u.1 g2 g
  · have g := List.all_eq_true.mp c3 f hq
    cases ha : ab_an C L H f.1 with
    | none => rw [ha] at g; cases g
    | some a =>
      cases hb : ab_an C L H f.2.1 with
      | none => rw [ha, hb] at g; cases g
      | some b =>
        rw [ha, hb] at g
        obtain ⟨x, x1, x2⟩ := ab_an_ok h hL hp ha
        obtain ⟨y, y1, y2⟩ := ab_an_ok h hL hp hb
        exact ⟨x, y, x1, y1, ab_leq_ok h x2 (f := (b.1, b.2 + f.2.2)) (y := y + f.2.2) ⟨y2.1, by show y + f.2.2 = ν b.1 + (b.2 + f.2.2); rw [y2.2]; omega⟩ g⟩
theorem ab_Vr_sc {n0 : Nat} {ν0 : ab_N} {v : ab_V} {x x0 : mV} (h0 : ab_Vr n0 ν0 v x0) (h : ab_Vr n ν v x) : ab_Vr n0 ν v x := by
  rcases v with a | a | a | a
  · obtain ⟨y, rfl, g⟩ := ab_Vi h
    obtain ⟨y0, rfl, g0⟩ := ab_Vi h0
    exact ⟨g0.1, g.2⟩
  · obtain ⟨y, rfl, g⟩ := ab_Vl h
    obtain ⟨y0, rfl, g0⟩ := ab_Vl h0
    exact ⟨g0.1, g.2⟩
  · obtain ⟨y, rfl, g⟩ := ab_Va h
    obtain ⟨y0, rfl, g0⟩ := ab_Va h0
    exact ⟨g0.1, g0.2.1, g.2.2⟩
  · obtain ⟨y, z, rfl, g, g'⟩ := ab_Vc h
    obtain ⟨y0, z0, rfl, g0, g0'⟩ := ab_Vc h0
    exact ⟨y, z, rfl, ⟨g0.1, g.2⟩, ⟨g0'.1, g'.2⟩⟩
theorem ab_ckL_at : ∀ {B L : List (Option ab_V)}, ab_ckL B L = true → L.length = B.length ∧ ∀ (i : Nat) (v : ab_V), B[i]? = some (some v) → L[i]? = some (some v)
  | [], [], _ => ⟨rfl, fun _ _ h => h⟩
  | b :: bs, l :: ls, h => by
    unfold ab_ckL at h
    rw [Bool.and_eq_true] at h
    obtain ⟨h1, h2⟩ := h
    obtain ⟨g1, g2⟩ := ab_ckL_at h2
    refine ⟨congrArg (· + 1) g1, fun i v hv => ?_⟩
    cases i with
    | zero =>
      have e1 : b = some v := by simpa using hv
      subst e1
      cases l with
      | none => cases h1
      | some w =>
        rw [ab_eV_ok h1]; rfl
    | succ i =>
      have := g2 i v (by simpa using hv)
      simpa using this
  | [], _ :: _, h => by cases h
  | _ :: _, [], h => by cases h
theorem ab_ckL_ok {ν0 : ab_N} {n0 : Nat} {Lc0 : List (Option mV)} (h0 : ab_Ls n0 ν0 B Lc0) (hL : ab_Ls n ν L Lc) (hc : ab_ckL B L = true) : ab_Ls n0 ν B Lc := by
  obtain ⟨g1, g2⟩ := ab_ckL_at hc
  refine ⟨hL.1.trans g1, fun i v hv => ?_⟩
  obtain ⟨x, h1, h2⟩ := hL.2 i v (g2 i v hv)
  obtain ⟨x0, -, h4⟩ := h0.2 i v hv
  exact ⟨x, h1, ab_Vr_sc h4 h2⟩
theorem ab_Tle_ok {T U : ab_T} {x : mV} (h : ab_Tle T U = true) (hx : ab_Tr T x) : ab_Tr U x := by
  unfold ab_Tle at h
  simp only [Bool.and_eq_true, ab_le_ok] at h
  obtain ⟨h1, h2, h3, h4, h5⟩ := h
  have e1 := Nat.eq_of_beq_eq_true h1
  rcases x with y | y | r
  · exact ⟨e1.symm.trans hx.1, by have := hx.2; omega, by have := hx.2; omega⟩
  · exact ⟨e1.symm.trans hx.1, by have := hx.2; omega, by have := hx.2; omega⟩
  · cases r with
    | none =>
      refine ⟨e1.symm.trans hx.1, ?_⟩
      rcases (Bool.or_eq_true _ _).mp h4 with h4 | h4
      · exact Nat.eq_of_beq_eq_true h4
      · rw [hx.2] at h4; cases h4
    | some p =>
      obtain ⟨a1, a2, a3, a4, a5⟩ := hx
      rcases (Bool.or_eq_true _ _).mp h5 with h5 | h5
      · rw [Bool.and_eq_true] at h5
        exact ⟨e1.symm.trans a1, Nat.eq_of_beq_eq_true h5.1, a3.trans (Nat.eq_of_beq_eq_true h5.2), by omega, by omega⟩
      · rw [a2] at h5; cases h5
theorem ab_Gle_ok : ∀ {G Gb : List ab_G}, ab_Gle G Gb = true → ∀ b ∈ Gb, ∃ g ∈ G, g.1 = b.1 ∧ g.2.1 = b.2.1 ∧ g.2.2.1 = b.2.2.1 ∧ g.2.2.2.1 = b.2.2.2.1 ∧ g.2.2.2.2.1 = b.2.2.2.2.1 ∧ ∀ x, ab_Tr g.2.2.2.2.2 x → ab_Tr b.2.2.2.2.2 x
  | [], [], _, _, h => by cases h
  | g :: gs, b0 :: bs, h, b, hb => by
    unfold ab_Gle at h
    simp only [Bool.and_eq_true] at h
    obtain ⟨h1, h2, h3, h4, h5, h6, h7⟩ := h
    rcases List.mem_cons.mp hb with rfl | hb
    · exact ⟨g, List.mem_cons_self, Nat.eq_of_beq_eq_true h1, Nat.eq_of_beq_eq_true h2, Nat.eq_of_beq_eq_true h3, Nat.eq_of_beq_eq_true h4, Nat.eq_of_beq_eq_true h5, fun x hx => ab_Tle_ok h6 hx⟩
    · obtain ⟨g', g1, g2⟩ := ab_Gle_ok h7 b hb
      exact ⟨g', List.mem_cons_of_mem _ g1, g2⟩
  | [], _ :: _, h, _, _ => by cases h
  | _ :: _, [], h, _, _ => by cases h
theorem ab_ckH_ok {ν0 : ab_N} {n0 : Nat} {σ0 : mS} (h0 : ab_hp n0 ν0 Hb σ0) (hp : ab_hp n ν H σ) (hc : ab_ckH Hb H = true) : ab_hp n0 ν Hb σ := by
  unfold ab_ckH at hc
  simp only [Bool.and_eq_true] at hc
  obtain ⟨c1, c2, c3, c4⟩ := hc
  have c1 := ab_eQ_ok c1
  have c2 := ab_eN_ok c2
  refine ⟨fun q hq => ?_, fun q hq => ?_, fun b hb i k h1 h2 h3 h4 => ?_, fun o ho => ?_⟩
  · exact ⟨(h0.1 q hq).1, (hp.1 q (by rw [← c1]; exact hq)).2⟩
  · exact hp.2.1 q (by rw [← c2]; exact hq)
  · obtain ⟨g, g1, e1, e2, e3, e4, e5, e6⟩ := ab_Gle_ok c3 b hb
    rw [← e1]
    exact e6 _ (hp.2.2.1 g g1 i k (by omega) (by omega) (by omega) (by omega))
  · obtain ⟨o', o1, o2⟩ := List.any_eq_true.mp (List.all_eq_true.mp c4 o ho)
    have e := ab_eO2_ok o2
    subst e
    exact ab_Vr_sc (h0.2.2.2 o ho) (hp.2.2.2 o o1)
theorem ab_Ls.set1 {i : Nat} {v : ab_V} {x : mV} (h : ab_Ls n ν L Lc) (hx : m_ld Lc i = some x) (hv : ab_Vr n ν v x) : ab_Ls n ν (L.set i (some v)) Lc := by
  refine ⟨by rw [List.length_set]; exact h.1, fun k w hw => ?_⟩
  by_cases hk : k = i
  · subst hk
    have hlt : k < (L.set k (some v)).length := (List.getElem?_eq_some_iff.mp hw).1
    rw [List.length_set] at hlt
    rw [List.getElem?_set_self hlt] at hw
    cases hw
    exact ⟨x, hx, hv⟩
  · rw [List.getElem?_set_ne (Ne.symm hk)] at hw
    exact h.2 k w hw
theorem ab_ivL_ok : ∀ {ps : List (Nat × ab_T)} {C : ab_C} {ν : ab_N} {L : List (Option ab_V)}, ab_cx xs C ν → ab_Ls C.1.length ν L Lc → (∀ p ∈ ps, ∃ x, m_ld Lc p.1 = some x ∧ ab_Tr p.2 x) → ∃ ν', ab_up xs C ν (ab_ivL ps C L).1 ν' ∧ ab_Ls (ab_ivL ps C L).1.1.length ν' (ab_ivL ps C L).2 Lc
  | [], C, ν, L, h, hL, _ => ⟨ν, ab_up.rf h, hL⟩
  | p :: t, C, ν, L, h, hL, hq => by
    obtain ⟨x, h1, h2⟩ := hq p List.mem_cons_self
    obtain ⟨ν1, u1, g1⟩ := ab_of_ok h h2
    obtain ⟨ν2, u2, g2⟩ := ab_ivL_ok (ps := t) u1.1 ((hL.ex u1.2.1 u1.2.2).set1 h1 g1) (fun p hp => hq p (List.mem_cons_of_mem _ hp))
    exact ⟨ν2, u1.tr u2, g2⟩
theorem ab_ivO_ok : ∀ {qs : List (Nat × Nat × Nat × ab_T)} {C : ab_C} {ν : ab_N} {O : List ab_O}, ab_cx xs C ν → (∀ o ∈ O, ab_Vr C.1.length ν o.2.2.2 (m_get σ o.1 o.2.1 o.2.2.1)) → (∀ q ∈ qs, ab_Tr q.2.2.2 (m_get σ q.1 q.2.1 q.2.2.1)) → ∃ ν', ab_up xs C ν (ab_ivO qs C O).1 ν' ∧ ∀ o ∈ (ab_ivO qs C O).2, ab_Vr (ab_ivO qs C O).1.1.length ν' o.2.2.2 (m_get σ o.1 o.2.1 o.2.2.1)
  | [], C, ν, O, h, hO, _ => ⟨ν, ab_up.rf h, hO⟩
  | q :: t, C, ν, O, h, hO, hq => by
    obtain ⟨ν1, u1, g1⟩ := ab_of_ok h (hq q List.mem_cons_self)
    obtain ⟨ν2, u2, g2⟩ := ab_ivO_ok (qs := t) (O := (q.1, q.2.1, q.2.2.1, (ab_of C q.2.2.2).2) :: O) u1.1 (fun o ho => by
      rcases List.mem_cons.mp ho with rfl | ho
      · exact g1
      · exact (hO o ho).ex u1.2.1 u1.2.2) (fun p hp => hq p (List.mem_cons_of_mem _ hp))
    exact ⟨ν2, u1.tr u2, g2⟩
theorem ab_ivF_ok : ∀ {fs : List (ab_P × ab_P × Int)} {C : ab_C}, ab_cx xs C ν → ab_Ls C.1.length ν L Lc → ab_hp C.1.length ν H σ → (∀ f ∈ fs, ∃ a b, ab_cn Lc σ f.1 = some a ∧ ab_cn Lc σ f.2.1 = some b ∧ a ≤ b + f.2.2) → ab_cx xs (ab_ivF L H fs C) ν ∧ (ab_ivF L H fs C).1.length = C.1.length
  | [], C, h, _, _, _ => ⟨h, rfl⟩
  | f :: t, C, h, hL, hp, hq => by
    have tl := fun p hp => hq p (List.mem_cons_of_mem f hp)
    unfold ab_ivF
    split
    · rename_i a b ha hb
      obtain ⟨x, x1, x2⟩ := ab_an_ok h hL hp ha
      obtain ⟨y, y1, y2⟩ := ab_an_ok h hL hp hb
      obtain ⟨a', b', e1, e2, e3⟩ := hq f List.mem_cons_self
      rw [x1] at e1
      rw [y1] at e2
      cases e1
      cases e2
      have g := ab_asle_ok h x2 (f := (b.1, b.2 + f.2.2)) (y := y + f.2.2) ⟨y2.1, by show y + f.2.2 = ν b.1 + (b.2 + f.2.2); rw [y2.2]; omega⟩ e3
      have r := ab_ivF_ok (fs := t) g.1 (by rw [g.2]; exact hL) (by rw [g.2]; exact hp) tl
      exact ⟨r.1, r.2.trans g.2⟩
    · exact ab_ivF_ok (fs := t) h hL hp tl
/-- a loop that is under way: its place, what is given up, how many unknowns, locals, heap, room, the counter's unknown -/
abbrev ab_Lp : Type := Nat × ab_An × Nat × List (Option ab_V) × ab_H × Nat × Nat × Nat
def ab_Hf (an : ab_An) (H : ab_H) : ab_H := (H.1, H.2.1, H.2.2.1, H.2.2.2.filter (fun o => !(ab_offO an o)))
def ab_eL (an : ab_An) (C : ab_C) (L : List (Option ab_V)) : ab_C × List (Option ab_V) := ab_ivL an.2.2.1 C (ab_mask (ab_offL an) 0 L)
def ab_eO (an : ab_An) (C : ab_C) (L : List (Option ab_V)) (H : ab_H) : ab_C × List ab_O := ab_ivO an.2.2.2.1 (ab_eL an C L).1 (ab_Hf an H).2.2.2
def ab_eH (an : ab_An) (C : ab_C) (L : List (Option ab_V)) (H : ab_H) : ab_H := (H.1, H.2.1, H.2.2.1, (ab_eO an C L H).2)
def ab_eC (an : ab_An) (C : ab_C) (L : List (Option ab_V)) (H : ab_H) : ab_C := ab_ivF (ab_eL an C L).2 (ab_eH an C L H) an.2.2.2.2 (ab_eO an C L H).1
/-- the state at a loop's head with all given up -/
def ab_eS (an : ab_An) (S : ab_S) : ab_S := (ab_eC an S.1 S.2.2.1 S.2.2.2.2.1, S.2.1, (ab_eL an S.1 S.2.2.1).2, [], ab_eH an S.1 S.2.2.1 S.2.2.2.2.1, S.2.2.2.2.2.1, S.2.2.2.2.2.2)
def ab_lp (an : ab_An) (S : ab_S) (bc : Nat) : ab_Lp := (S.2.1, an, S.1.1.length, ab_mask (ab_offL an) 0 S.2.2.1, ab_Hf an S.2.2.2.2.1, S.2.2.2.2.2.1, S.2.2.2.2.2.2, bc)
def ab_eOk (an : ab_An) (S : ab_S) : Bool := S.2.2.2.1.isEmpty && ab_ckR an S.1 S.2.2.1 S.2.2.2.2.1
/-- the counter of a loop: which unknown it is -/
def ab_ecn (an : ab_An) (L : List (Option ab_V)) : Option Nat := match an.2.2.1 with
  | p :: _ => (match ab_ld L p.1 with
    | some (.inl e) => bif Nat.beq p.2.1 0 && (ab_le e.2 0 && ab_le 0 e.2) then some e.1 else none
    | _ => none)
  | [] => none
def ab_ld0 (an : ab_An) (L : List (Option ab_V)) : Option ab_E := match an.2.2.1 with
  | p :: _ => (match ab_ld L p.1 with
    | some (.inl e) => some e
    | _ => none)
  | [] => none
/-- back at a loop's head -/
def ab_re (l : ab_Lp) (S : ab_S) : Bool := S.2.2.2.1.isEmpty && (ab_ckR l.2.1 S.1 S.2.2.1 S.2.2.2.2.1 && (ab_ckL l.2.2.2.1 S.2.2.1 && (ab_ckH l.2.2.2.2.1 S.2.2.2.2.1 && (Nat.beq S.2.2.2.2.2.1 l.2.2.2.2.2.1 && (Nat.beq S.2.2.2.2.2.2 l.2.2.2.2.2.2.1 && (match ab_ld0 l.2.1 S.2.2.1 with
  | some e => bif l.2.1.2.1 then ab_leq S.1 (l.2.2.2.2.2.2.2, 1) e else ab_leq S.1 (e.1, e.2 + 1) (l.2.2.2.2.2.2.2, 0)
  | none => false))))))
/-- the counter, as it is -/
def ab_cv (an : ab_An) (Lc : List (Option mV)) : Option Int := match an.2.2.1 with
  | p :: _ => (match m_ld Lc p.1 with
    | some x => ab_nm x
    | none => none)
  | [] => none
theorem ab_entry {S : ab_S} {sc : List mV} (h : ab_cx xs S.1 ν) (hL : ab_Ls S.1.1.length ν S.2.2.1 Lc) (hst : ab_Vs S.1.1.length ν S.2.2.2.1 sc) (hp : ab_hp S.1.1.length ν S.2.2.2.2.1 σ) (ho : ab_eOk an S = true) : sc = [] ∧ ab_LI an S.1.1.length ν (ab_mask (ab_offL an) 0 S.2.2.1) (ab_Hf an S.2.2.2.2.1) Lc σ := by
  unfold ab_eOk at ho
  rw [Bool.and_eq_true] at ho
  have e0 := List.isEmpty_iff.mp ho.1
  rw [e0] at hst
  exact ⟨ab_Vs_0 hst, hL.mask, hp.filt _, ab_ckR_ok h hL hp ho.2⟩
theorem ab_invS {S : ab_S} {bc : Nat} (h : ab_cx xs S.1 ν) (hI : ab_LI an S.1.1.length ν (ab_mask (ab_offL an) 0 S.2.2.1) (ab_Hf an S.2.2.2.2.1) Lc σ) (hb : ab_ecn an (ab_eS an S).2.2.1 = some bc) :
    ∃ ν', ab_up xs S.1 ν (ab_eS an S).1 ν' ∧ ab_Ls (ab_eS an S).1.1.length ν' (ab_eS an S).2.2.1 Lc ∧ ab_hp (ab_eS an S).1.1.length ν' (ab_eS an S).2.2.2.2.1 σ ∧ ab_cv an Lc = some (ν' bc) ∧ bc < (ab_eS an S).1.1.length := by
  obtain ⟨i1, i2, i3, i4, i5⟩ := hI
  obtain ⟨ν1, u1, g1⟩ := ab_ivL_ok (ps := an.2.2.1) h i1 i3
  obtain ⟨ν2, u2, g2⟩ := ab_ivO_ok (σ := σ) (qs := an.2.2.2.1) (O := (ab_Hf an S.2.2.2.2.1).2.2.2) u1.1 (fun o ho => ((i2.ex u1.2.1 u1.2.2).2.2.2 o ho)) i4
  have hL2 : ab_Ls (ab_eO an S.1 S.2.2.1 S.2.2.2.2.1).1.1.length ν2 (ab_eL an S.1 S.2.2.1).2 Lc := g1.ex u2.2.1 u2.2.2
  have hH2 : ab_hp (ab_eO an S.1 S.2.2.1 S.2.2.2.2.1).1.1.length ν2 (ab_eH an S.1 S.2.2.1 S.2.2.2.2.1) σ := by
    have i2' := (i2.ex u1.2.1 u1.2.2).ex u2.2.1 u2.2.2
    exact ⟨i2'.1, i2'.2.1, i2'.2.2.1, g2⟩
  have g3 := ab_ivF_ok (fs := an.2.2.2.2) u2.1 hL2 hH2 i5
  have hlen : (ab_eC an S.1 S.2.2.1 S.2.2.2.2.1).1.length = (ab_eO an S.1 S.2.2.1 S.2.2.2.2.1).1.1.length := g3.2
  refine ⟨ν2, ⟨g3.1, (u1.tr u2).2.1, ?_⟩, ?_, ?_, ?_⟩
  · show _ ≤ (ab_eC an S.1 S.2.2.1 S.2.2.2.2.1).1.length
    rw [hlen]; exact (u1.tr u2).2.2
  · show ab_Ls (ab_eC an S.1 S.2.2.1 S.2.2.2.2.1).1.length ν2 (ab_eL an S.1 S.2.2.1).2 Lc
    rw [hlen]; exact hL2
  · show ab_hp (ab_eC an S.1 S.2.2.1 S.2.2.2.2.1).1.length ν2 (ab_eH an S.1 S.2.2.1 S.2.2.2.2.1) σ
    rw [hlen]; exact hH2
  · have hb' : ab_ecn an (ab_eL an S.1 S.2.2.1).2 = some bc := hb
    show ab_cv an Lc = some (ν2 bc) ∧ bc < (ab_eC an S.1 S.2.2.1 S.2.2.2.2.1).1.length
    rw [hlen]
    unfold ab_ecn at hb'
    unfold ab_cv
    cases hq : an.2.2.1 with
    | nil => rw [hq] at hb'; cases hb'
    | cons p t =>
      rw [hq] at hb'
      dsimp only at hb' ⊢
      split at hb'
      · rename_i e he
        obtain ⟨x, x1, x2⟩ := hL2.ld he
        obtain ⟨y, rfl, x3⟩ := ab_Vi x2
        rw [x1]
        cases hc : (Nat.beq p.2.1 0 && (ab_le e.2 0 && ab_le 0 e.2)) with
        | false => rw [hc] at hb'; cases hb'
        | true =>
          rw [hc] at hb'
          cases hb'
          simp only [Bool.and_eq_true, ab_le_ok] at hc
          refine ⟨?_, x3.1⟩
          show some y.toInt = some (ν2 e.1)
          rw [x3.2]
          exact congrArg some (by omega)
      · cases hb'
end ABE
