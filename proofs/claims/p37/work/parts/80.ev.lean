/-! what a step of the model is: the state that follows, an end, or a call; runs as functions -/
abbrev ev_T : Type := Nat × List (Option mV) × List mV × mS × Nat × Nat
abbrev ev_O : Type := ev_T ⊕ (mX × mS) ⊕ (Nat × mMt × List mV × List mV)
noncomputable def ev_if {α : Type} (p : Prop) (a : Option α) : Option α := @ite _ p (Classical.propDecidable p) a none
theorem ev_if_some {α : Type} {p : Prop} {a : Option α} {x : α} : ev_if p a = some x ↔ p ∧ a = some x := by
  unfold ev_if
  by_cases h : p
  · rw [if_pos h]; exact ⟨fun g => ⟨h, g⟩, fun g => g.2⟩
  · rw [if_neg h]; exact ⟨(fun g => by cases g), fun g => absurd g.1 h⟩
theorem ev_no {α : Type} {F : α → Prop} : False ↔ ∃ z, (none : Option α) = some z ∧ F z := ⟨False.elim, (fun ⟨_, h, _⟩ => by cases h)⟩
theorem ev_one {α : Type} {p : Prop} {x : α} {F : α → Prop} : (p ∧ F x) ↔ ∃ z, ev_if p (some x) = some z ∧ F z := by
  constructor
  · intro h
    exact ⟨x, ev_if_some.mpr ⟨h.1, rfl⟩, h.2⟩
  · rintro ⟨z, h1, h2⟩
    obtain ⟨h3, h4⟩ := ev_if_some.mp h1
    cases h4
    exact ⟨h3, h2⟩
theorem ev_it {α : Type} {x : α} {F : α → Prop} : F x ↔ ∃ z, some x = some z ∧ F z := ⟨(fun h => ⟨x, rfl, h⟩), (fun ⟨z, h1, h2⟩ => by cases h1; exact h2)⟩
theorem ev_pre {α : Type} {p P : Prop} {o : Option α} {F : α → Prop} (h : P ↔ ∃ z, o = some z ∧ F z) : (p ∧ P) ↔ ∃ z, ev_if p o = some z ∧ F z := by
  constructor
  · rintro ⟨h1, h2⟩
    obtain ⟨z, z1s, z2s⟩ := h.mp h2
    exact ⟨z, ev_if_some.mpr ⟨h1, z1s⟩, z2s⟩
  · rintro ⟨z, z1s, z2s⟩
    obtain ⟨g1, g2⟩ := ev_if_some.mp z1s
    exact ⟨g1, h.mpr ⟨z, g2, z2s⟩⟩
abbrev ev_H : Type := List mV × mS
noncomputable def ev_get (r : mRow) (σ : mS) (st : List mV) : Option (List mV) := match st with
  | .inr (.inr (some q)) :: st => ev_if (q.1 = r.2.2.1) (some (m_get σ r.2.2.1 q.2 r.2.2.2.1 :: st))
  | _ => none
noncomputable def ev_put (r : mRow) (σ : mS) (st : List mV) : Option ev_H := match st with
  | x :: .inr (.inr (some q)) :: st => ev_if (q.1 = r.2.2.1 ∧ m_tp (m_ty r.2.2.1 r.2.2.2.1) x) (some (st, m_set σ r.2.2.1 q.2 r.2.2.2.1 x))
  | _ => none
noncomputable def ev_len (σ : mS) (st : List mV) : Option (List mV) := match st with
  | .inr (.inr (some q)) :: st => ev_if (13 ≤ q.1 ∧ q.1 ≤ 21) (some (.inl (Int32.ofNat (σ.2.1 q.1 q.2)) :: st))
  | _ => none
noncomputable def ev_xlen (xs : ab_X) (st : List mV) : Option (List mV) := match xs, st with
  | some z, _ :: st => ev_if (z.1 < 2147483648) (some (.inl (Int32.ofNat z.1) :: st))
  | _, _ => none
noncomputable def ev_xld (xs : ab_X) (st : List mV) : Option (List mV) := match xs, st with
  | some z, .inl x :: _ :: st => ev_if (vp_in x z.1) (some (.inl (z.2 x.toNatClampNeg) :: st))
  | _, _ => none
noncomputable def ev_ald (c : Nat) (σ : mS) (st : List mV) : Option (List mV) := match st with
  | .inl x :: .inr (.inr (some q)) :: st => ev_if (q.1 = c ∧ vp_in x (σ.2.1 c q.2)) (some (m_get σ c q.2 x.toNatClampNeg :: st))
  | _ => none
noncomputable def ev_aldq (σ : mS) (st : List mV) : Option (List mV) := match st with
  | .inl x :: .inr (.inr (some q)) :: st => ev_if ((16 ≤ q.1 ∧ q.1 ≤ 21) ∧ vp_in x (σ.2.1 q.1 q.2)) (some (m_get σ q.1 q.2 x.toNatClampNeg :: st))
  | _ => none
noncomputable def ev_iast (σ : mS) (st : List mV) : Option ev_H := match st with
  | .inl v :: .inl x :: .inr (.inr (some q)) :: st => ev_if (q.1 = 13 ∧ vp_in x (σ.2.1 13 q.2)) (some (st, m_set σ 13 q.2 x.toNatClampNeg (.inl v)))
  | _ => none
noncomputable def ev_zast (σ : mS) (st : List mV) : Option ev_H := match st with
  | .inl v :: .inl x :: .inr (.inr (some q)) :: st => ev_if (q.1 = 15 ∧ (v = 0 ∨ v = 1) ∧ vp_in x (σ.2.1 15 q.2)) (some (st, m_set σ 15 q.2 x.toNatClampNeg (.inl v)))
  | _ => none
noncomputable def ev_last (σ : mS) (st : List mV) : Option ev_H := match st with
  | .inr (.inl v) :: .inl x :: .inr (.inr (some q)) :: st => ev_if (q.1 = 14 ∧ vp_in x (σ.2.1 14 q.2)) (some (st, m_set σ 14 q.2 x.toNatClampNeg (.inr (.inl v))))
  | _ => none
noncomputable def ev_astq (σ : mS) (st : List mV) : Option ev_H := match st with
  | .inr (.inr (some d)) :: .inl x :: .inr (.inr (some q)) :: st => ev_if (d.1 = m_el q.1 ∧ (16 ≤ q.1 ∧ q.1 ≤ 20) ∧ vp_in x (σ.2.1 q.1 q.2)) (some (st, m_set σ q.1 q.2 x.toNatClampNeg (.inr (.inr (some d)))))
  | _ => none
noncomputable def ev_newa (R : Room) (r : mRow) (σ : mS) (st : List mV) (k n : Nat) : Option (List mV × mS × Nat) := match st with
  | .inl x :: st => ev_if (¬ x < 0 ∧ x.toNatClampNeg ≤ 1000000 ∧ m_rm R (k + 1) (n + x.toNatClampNeg)) (some (.inr (.inr (some (r.2.2.1, σ.1 r.2.2.1))) :: st, m_nu σ r.2.2.1 x.toNatClampNeg, n + x.toNatClampNeg))
  | _ => none
noncomputable def ev_mna (R : Room) (σ : mS) (st : List mV) (k n : Nat) : Option ev_H := match st with
  | .inl y :: .inl x :: st => ev_if (y = 3 ∧ x = 4 ∧ m_rm R (k + 5) (n + 16)) (some (.inr (.inr (some (21, σ.1 21))) :: st, m_mn σ))
  | _ => none
noncomputable def ev_callV (R : Room) (y : mMt) (r : mRow) (st : List mV) (k n : Nat) : Option ev_O := match st.drop r.2.2.2.1 with
  | .inr (.inr (some q)) :: st' => ev_if (q.1 = m_p r 5 ∧ (st.take r.2.2.2.1).length = r.2.2.2.1 ∧ (st'.map m_cat).sum ≤ 8 ∧ m_rm R (k + y.2.2.2.2.1.cells) (n + y.2.2.2.2.1.slots)) (some (.inr (.inr (r.2.2.1, y, .inr (.inr (some (m_p r 5, q.2))) :: m_take st r, st'))))
  | _ => none
noncomputable def ev_callS (R : Room) (y : mMt) (r : mRow) (st : List mV) (k n : Nat) : Option ev_O :=
  ev_if ((st.take r.2.2.2.1).length = r.2.2.2.1 ∧ ((st.drop r.2.2.2.1).map m_cat).sum ≤ 8 ∧ m_rm R (k + y.2.2.2.2.1.cells) (n + y.2.2.2.2.1.slots)) (some (.inr (.inr (r.2.2.1, y, m_take st r, st.drop r.2.2.2.1))))
noncomputable def ev_math (R : Room) (a : Nat) (st : List mV) : Option (List mV) := match a, st with
  | 1000, .inl y :: .inl x :: st => ev_if ((st.map m_cat).sum + 13 ≤ R.locals) (some (.inl (if x < y then y else x) :: st))
  | 1001, .inl y :: .inl x :: st => ev_if ((st.map m_cat).sum + 13 ≤ R.locals) (some (.inl (if y < x then y else x) :: st))
  | 1002, .inl x :: st => ev_if ((st.map m_cat).sum + 13 ≤ R.locals) (some (.inl (if 0 ≤ x then x else 0 - x) :: st))
  | 1003, .inr (.inl y) :: .inr (.inl x) :: st => ev_if ((st.map m_cat).sum + 15 ≤ R.locals) (some (.inr (.inl (if y < x then x else y)) :: st))
  | 1004, .inr (.inl y) :: .inr (.inl x) :: st => ev_if ((st.map m_cat).sum + 15 ≤ R.locals) (some (.inr (.inl (if y < x then y else x)) :: st))
  | _, _ => none
noncomputable def ev_obj (R : Room) (st : List mV) : Option (List mV) := match st with
  | .inr (.inr (some _)) :: st => ev_if ((st.map m_cat).sum + 12 ≤ R.locals) (some st)
  | _ => none
noncomputable def ev_iret (rt : Option FieldType) (st : List mV) : Option (Option mV) := match st with
  | [.inl v] => ev_if (rt = some .int ∨ (rt = some .boolean ∧ (v = 0 ∨ v = 1))) (some (some (.inl v)))
  | _ => none
noncomputable def ev_lret (rt : Option FieldType) (st : List mV) : Option (Option mV) := match st with
  | [.inr (.inl v)] => ev_if (rt = some .long) (some (some (.inr (.inl v))))
  | _ => none
noncomputable def ev_aret (rt : Option FieldType) (st : List mV) : Option (Option mV) := match st with
  | [.inr (.inr v)] => ev_if (m_isr rt = true) (some (some (.inr (.inr v))))
  | _ => none
section EV1
variable {r : mRow} {σ : mS} {st : List mV} {R : Room} {k n a c : Nat} {rt : Option FieldType}
theorem ev_get_ok {F : List mV → Prop} : m_s_get r σ st F ↔ ∃ z, ev_get r σ st = some z ∧ F z := by
  rcases st with _ | ⟨a | a | _ | q, st⟩
  · exact ev_no
  · exact ev_no
  · exact ev_no
  · exact ev_no
  · exact ev_one
theorem ev_put_ok {F : List mV → mS → Prop} : m_s_put r σ st F ↔ ∃ z, ev_put r σ st = some z ∧ F z.1 z.2 := by
  rcases st with _ | ⟨x, _ | ⟨a | a | _ | q, st⟩⟩
  · exact ev_no
  · exact ev_no
  · exact ev_no
  · exact ev_no
  · exact ev_no
  · exact ⟨fun h => ev_one.mp ⟨⟨h.1, h.2.1⟩, h.2.2⟩, fun h => ⟨(ev_one.mpr h).1.1, (ev_one.mpr h).1.2, (ev_one.mpr h).2⟩⟩
theorem ev_len_ok {F : List mV → Prop} : m_s_len σ st F ↔ ∃ z, ev_len σ st = some z ∧ F z := by
  rcases st with _ | ⟨a | a | _ | q, st⟩
  · exact ev_no
  · exact ev_no
  · exact ev_no
  · exact ev_no
  · exact ev_one
theorem ev_xlen_ok {xs : ab_X} {F : List mV → Prop} : m_s_xlen xs st F ↔ ∃ z, ev_xlen xs st = some z ∧ F z := by
  unfold m_s_xlen ev_xlen
  rcases xs with _ | z
  · exact ev_no
  · rcases st with _ | ⟨v, st⟩
    · exact ev_no
    · exact ev_one
theorem ev_xld_ok {xs : ab_X} {F : List mV → Prop} : m_s_xld xs st F ↔ ∃ z, ev_xld xs st = some z ∧ F z := by
  unfold m_s_xld ev_xld
  rcases xs with _ | z
  · exact ev_no
  · rcases st with _ | ⟨x | x | x, _ | ⟨v, st⟩⟩ <;> try exact ev_no
    exact ev_one
theorem ev_ald_ok {F : List mV → Prop} : m_s_ald c σ st F ↔ ∃ z, ev_ald c σ st = some z ∧ F z := by
  rcases st with _ | ⟨x | x | x, _ | ⟨a | a | _ | q, st⟩⟩ <;> try exact ev_no
  exact ⟨fun h => ev_one.mp ⟨⟨h.1, h.2.1⟩, h.2.2⟩, fun h => ⟨(ev_one.mpr h).1.1, (ev_one.mpr h).1.2, (ev_one.mpr h).2⟩⟩
theorem ev_aldq_ok {F : List mV → Prop} : m_s_aldq σ st F ↔ ∃ z, ev_aldq σ st = some z ∧ F z := by
  rcases st with _ | ⟨x | x | x, _ | ⟨a | a | _ | q, st⟩⟩ <;> try exact ev_no
  exact ⟨fun h => ev_one.mp ⟨⟨h.1, h.2.1⟩, h.2.2⟩, fun h => ⟨(ev_one.mpr h).1.1, (ev_one.mpr h).1.2, (ev_one.mpr h).2⟩⟩
theorem ev_iast_ok {F : List mV → mS → Prop} : m_s_iast σ st F ↔ ∃ z, ev_iast σ st = some z ∧ F z.1 z.2 := by
  rcases st with _ | ⟨v | v | v, _ | ⟨x | x | x, _ | ⟨a | a | _ | q, st⟩⟩⟩ <;> try exact ev_no
  exact ⟨fun h => ev_one.mp ⟨⟨h.1, h.2.1⟩, h.2.2⟩, fun h => ⟨(ev_one.mpr h).1.1, (ev_one.mpr h).1.2, (ev_one.mpr h).2⟩⟩
theorem ev_zast_ok {F : List mV → mS → Prop} : m_s_zast σ st F ↔ ∃ z, ev_zast σ st = some z ∧ F z.1 z.2 := by
  rcases st with _ | ⟨v | v | v, _ | ⟨x | x | x, _ | ⟨a | a | _ | q, st⟩⟩⟩ <;> try exact ev_no
  exact ⟨fun h => ev_one.mp ⟨⟨h.1, h.2.1, h.2.2.1⟩, h.2.2.2⟩, fun h => ⟨(ev_one.mpr h).1.1, (ev_one.mpr h).1.2.1, (ev_one.mpr h).1.2.2, (ev_one.mpr h).2⟩⟩
theorem ev_last_ok {F : List mV → mS → Prop} : m_s_last σ st F ↔ ∃ z, ev_last σ st = some z ∧ F z.1 z.2 := by
  rcases st with _ | ⟨v | v | v, _ | ⟨x | x | x, _ | ⟨a | a | _ | q, st⟩⟩⟩ <;> try exact ev_no
  exact ⟨fun h => ev_one.mp ⟨⟨h.1, h.2.1⟩, h.2.2⟩, fun h => ⟨(ev_one.mpr h).1.1, (ev_one.mpr h).1.2, (ev_one.mpr h).2⟩⟩
theorem ev_astq_ok {F : List mV → mS → Prop} : m_s_astq σ st F ↔ ∃ z, ev_astq σ st = some z ∧ F z.1 z.2 := by
  rcases st with _ | ⟨v | v | _ | d, _ | ⟨x | x | x, _ | ⟨a | a | _ | q, st⟩⟩⟩ <;> try exact ev_no
  exact ⟨fun h => ev_one.mp ⟨⟨h.1, h.2.1, h.2.2.1⟩, h.2.2.2⟩, fun h => ⟨(ev_one.mpr h).1.1, (ev_one.mpr h).1.2.1, (ev_one.mpr h).1.2.2, (ev_one.mpr h).2⟩⟩
theorem ev_newa_ok {F : List mV → mS → Nat → Prop} : m_s_newa R r σ st k n F ↔ ∃ z, ev_newa R r σ st k n = some z ∧ F z.1 z.2.1 z.2.2 := by
  rcases st with _ | ⟨x | x | x, st⟩ <;> try exact ev_no
  exact ⟨fun h => ev_one.mp ⟨⟨h.1, h.2.1, h.2.2.1⟩, h.2.2.2⟩, fun h => ⟨(ev_one.mpr h).1.1, (ev_one.mpr h).1.2.1, (ev_one.mpr h).1.2.2, (ev_one.mpr h).2⟩⟩
theorem ev_mna_ok {F : List mV → mS → Prop} : m_s_mna R σ st k n F ↔ ∃ z, ev_mna R σ st k n = some z ∧ F z.1 z.2 := by
  rcases st with _ | ⟨y | y | y, _ | ⟨x | x | x, st⟩⟩ <;> try exact ev_no
  exact ⟨fun h => ev_one.mp ⟨⟨h.1, h.2.1, h.2.2.1⟩, h.2.2.2⟩, fun h => ⟨(ev_one.mpr h).1.1, (ev_one.mpr h).1.2.1, (ev_one.mpr h).1.2.2, (ev_one.mpr h).2⟩⟩
theorem ev_math_ok {F : List mV → Prop} : m_s_math R a st F ↔ ∃ z, ev_math R a st = some z ∧ F z := by
  unfold m_s_math ev_math
  split
  · exact ev_one
  · exact ev_one
  · exact ev_one
  · exact ev_one
  · exact ev_one
  · split <;> first | exact ev_no | (exfalso; simp_all)
theorem ev_obj_ok {F : List mV → Prop} : m_s_obj R st F ↔ ∃ z, ev_obj R st = some z ∧ F z := by
  rcases st with _ | ⟨a | a | _ | q, st⟩ <;> try exact ev_no
  exact ev_one
theorem ev_iret_ok {Q : mX → mS → Prop} : m_s_iret rt st (fun v => Q (.inl (some (.inl v))) σ) ↔ ∃ z, ev_iret rt st = some z ∧ Q (.inl z) σ := by
  rcases st with _ | ⟨a | a | a, _ | ⟨b, st⟩⟩ <;> try exact ev_no
  exact ev_one (F := fun z => Q (.inl z) σ)
theorem ev_lret_ok {Q : mX → mS → Prop} : m_s_lret rt st (fun v => Q (.inl (some (.inr (.inl v)))) σ) ↔ ∃ z, ev_lret rt st = some z ∧ Q (.inl z) σ := by
  rcases st with _ | ⟨a | a | a, _ | ⟨b, st⟩⟩ <;> try exact ev_no
  exact ev_one (F := fun z => Q (.inl z) σ)
theorem ev_aret_ok {Q : mX → mS → Prop} : m_s_aret rt st (fun v => Q (.inl (some (.inr (.inr v)))) σ) ↔ ∃ z, ev_aret rt st = some z ∧ Q (.inl z) σ := by
  rcases st with _ | ⟨a | a | a, _ | ⟨b, st⟩⟩ <;> try exact ev_no
  exact ev_one (F := fun z => Q (.inl z) σ)
end EV1
def ev_nx (pc : Nat) (L : List (Option mV)) (k n : Nat) (o : Option ev_H) : Option ev_O := match o with
  | some q => some (.inl (pc, L, q.1, q.2, k, n))
  | none => none
def ev_nw (pc : Nat) (L : List (Option mV)) (σ : mS) (k n : Nat) (o : Option (List mV)) : Option ev_O := match o with
  | some st => some (.inl (pc, L, st, σ, k, n))
  | none => none
def ev_ny (σ : mS) (o : Option (Option mV)) : Option ev_O := match o with
  | some v => some (.inr (.inl (.inl v, σ)))
  | none => none
noncomputable def ev_bare (r : mRow) (pc : Nat) (L : List (Option mV)) (st : List mV) (σ : mS) (k n : Nat) : Option ev_O := match m_cond r st with
  | some q => some (.inl (@ite _ q.1 (Classical.propDecidable q.1) r.2.2.1 (pc + 3), L, q.2, σ, k, n))
  | none => match m_pure r pc L st with
    | some q => some (.inl (q.1, q.2.1, q.2.2, σ, k, n))
    | none => none
def ev_nz (pc : Nat) (L : List (Option mV)) (k : Nat) (o : Option (List mV × mS × Nat)) : Option ev_O := match o with
  | some q => some (.inl (pc, L, q.1, q.2.1, k, q.2.2))
  | none => none
noncomputable def ev_nf (xs : ab_X) (mt : List mMt) (rt : Option FieldType) (R : Room) (nL : Nat) (rows : List (Nat × mRow)) (mc ms : Nat) (pc : Nat) (L : List (Option mV)) (st : List mV) (σ : mS) (k n : Nat) : Option ev_O :=
  match m_at rows pc with
  | none => none
  | some r => match r.1 with
    | .getfield _ => ev_nw (pc + 3) L σ k n (ev_get r σ st)
    | .putfield _ => ev_nx (pc + 3) L k n (ev_put r σ st)
    | .arraylength => bif m_isx st 0 then ev_nw (pc + 1) L σ k n (ev_xlen xs st) else ev_nw (pc + 1) L σ k n (ev_len σ st)
    | .iaload => bif m_isx st 1 then ev_nw (pc + 1) L σ k n (ev_xld xs st) else ev_nw (pc + 1) L σ k n (ev_ald 13 σ st)
    | .laload => ev_nw (pc + 1) L σ k n (ev_ald 14 σ st)
    | .baload => ev_nw (pc + 1) L σ k n (ev_ald 15 σ st)
    | .aaload => ev_nw (pc + 1) L σ k n (ev_aldq σ st)
    | .iastore => ev_nx (pc + 1) L k n (ev_iast σ st)
    | .lastore => ev_nx (pc + 1) L k n (ev_last σ st)
    | .bastore => ev_nx (pc + 1) L k n (ev_zast σ st)
    | .aastore => ev_nx (pc + 1) L k n (ev_astq σ st)
    | .new _ => if r.2.2.1 < 13 then ev_if (m_rm R (k + 1) (n + m_nf r.2.2.1)) (some (.inl (pc + 3, L, .inr (.inr (some (r.2.2.1, σ.1 r.2.2.1))) :: st, m_nu σ r.2.2.1 0, k + 1, n + m_nf r.2.2.1)))
      else ev_if (L.length = nL ∧ 5 < R.frames ∧ (st.map m_cat).sum + 82 ≤ R.locals ∧ m_rm R (k + 1) (n + 6) ∧ k + 1 ≤ mc ∧ n + 6 ≤ ms) (some (.inr (.inl (.inr (r.2.2.1 - 100), σ))))
    | .newarray _ => ev_nz (pc + 2) L (k + 1) (ev_newa R r σ st k n)
    | .anewarray _ => ev_nz (pc + 3) L (k + 1) (ev_newa R r σ st k n)
    | .multianewarray _ _ => ev_nx (pc + 4) L (k + 5) (n + 16) (ev_mna R σ st k n)
    | .invokevirtual _ => ev_if (L.length = nL) (match mt[r.2.2.1]? with
      | some y => ev_callV R y r st k n
      | none => none)
    | .invokespecial _ => ev_if (L.length = nL) (if r.2.2.1 = 2000 then ev_nw (pc + 3) L σ k n (ev_obj R st) else match mt[r.2.2.1]? with
      | some y => ev_callV R y r st k n
      | none => none)
    | .invokestatic _ => ev_if (L.length = nL ∧ m_rm R k n) (if 1000 ≤ r.2.2.1 then ev_nw (pc + 3) L σ k n (ev_math R r.2.2.1 st) else match mt[r.2.2.1]? with
      | some y => ev_callS R y r st k n
      | none => none)
    | .ireturn => ev_if (k ≤ mc ∧ n ≤ ms) (ev_ny σ (ev_iret rt st))
    | .lreturn => ev_if (k ≤ mc ∧ n ≤ ms) (ev_ny σ (ev_lret rt st))
    | .areturn => ev_if (k ≤ mc ∧ n ≤ ms) (ev_ny σ (ev_aret rt st))
    | .return_ => ev_if (k ≤ mc ∧ n ≤ ms ∧ rt = none ∧ st = []) (some (.inr (.inl (.inl none, σ))))
    | _ => ev_bare r pc L st σ k n
/-- what a step's outcome owes -/
def ev_ho (CC : Nat → List mV → mS → (mX → mS → Prop) → Prop) (Q : mX → mS → Prop) (T : Nat → List (Option mV) → mS → Nat → Nat → Nat → Prop) (K : Nat → List (Option mV) → List mV → mS → Nat → Nat → Prop) (pc : Nat) (L : List (Option mV)) (σ : mS) (k n : Nat) (o : ev_O) : Prop := match o with
  | .inl s => K s.1 s.2.1 s.2.2.1 s.2.2.2.1 s.2.2.2.2.1 s.2.2.2.2.2
  | .inr (.inl e) => Q e.1 e.2
  | .inr (.inr c) => CC c.1 c.2.2.1 σ (m_s_end (T pc L) (fun st σ k n => K (pc + 3) L st σ k n) c.2.2.2 k n c.2.1)
section EV2
variable {xs : ab_X} {mt : List mMt} {CC : Nat → List mV → mS → (mX → mS → Prop) → Prop} {rt : Option FieldType} {R : Room} {nL : Nat} {rows : List (Nat × mRow)} {mc ms : Nat} {Q : mX → mS → Prop} {T : Nat → List (Option mV) → mS → Nat → Nat → Nat → Prop} {K : Nat → List (Option mV) → List mV → mS → Nat → Nat → Prop} {pc pc' : Nat} {L : List (Option mV)} {st : List mV} {σ : mS} {k n k' n' : Nat}
theorem ev_nx_ok {o : Option ev_H} : (∃ z, o = some z ∧ K pc' L z.1 z.2 k' n') ↔ ∃ o', ev_nx pc' L k' n' o = some o' ∧ ev_ho CC Q T K pc L σ k n o' := by
  cases o with
  | none => exact ⟨(fun ⟨_, h, _⟩ => by cases h), (fun ⟨_, h, _⟩ => by cases h)⟩
  | some q => exact ⟨(fun ⟨z, h1, h2⟩ => by cases h1; exact ⟨_, rfl, h2⟩), (fun ⟨z, h1, h2⟩ => by cases h1; exact ⟨q, rfl, h2⟩)⟩
theorem ev_nw_ok {o : Option (List mV)} : (∃ z, o = some z ∧ K pc' L z σ k' n') ↔ ∃ o', ev_nw pc' L σ k' n' o = some o' ∧ ev_ho CC Q T K pc L σ k n o' := by
  cases o with
  | none => exact ⟨(fun ⟨_, h, _⟩ => by cases h), (fun ⟨_, h, _⟩ => by cases h)⟩
  | some q => exact ⟨(fun ⟨z, h1, h2⟩ => by cases h1; exact ⟨_, rfl, h2⟩), (fun ⟨z, h1, h2⟩ => by cases h1; exact ⟨q, rfl, h2⟩)⟩
theorem ev_nz_ok {o : Option (List mV × mS × Nat)} : (∃ z, o = some z ∧ K pc' L z.1 z.2.1 k' z.2.2) ↔ ∃ o', ev_nz pc' L k' o = some o' ∧ ev_ho CC Q T K pc L σ k n o' := by
  cases o with
  | none => exact ⟨(fun ⟨_, h, _⟩ => by cases h), (fun ⟨_, h, _⟩ => by cases h)⟩
  | some q => exact ⟨(fun ⟨z, h1, h2⟩ => by cases h1; exact ⟨_, rfl, h2⟩), (fun ⟨z, h1, h2⟩ => by cases h1; exact ⟨q, rfl, h2⟩)⟩
theorem ev_ny_ok {o : Option (Option mV)} : (∃ z, o = some z ∧ Q (.inl z) σ) ↔ ∃ o', ev_ny σ o = some o' ∧ ev_ho CC Q T K pc L σ k n o' := by
  cases o with
  | none => exact ⟨(fun ⟨_, h, _⟩ => by cases h), (fun ⟨_, h, _⟩ => by cases h)⟩
  | some q => exact ⟨(fun ⟨z, h1, h2⟩ => by cases h1; exact ⟨_, rfl, h2⟩), (fun ⟨z, h1, h2⟩ => by cases h1; exact ⟨q, rfl, h2⟩)⟩
theorem ev_callV_ok {y : mMt} {r : mRow} : m_s_callV CC R (T pc L) y r σ st k n (fun st σ k n => K (pc + 3) L st σ k n) ↔ ∃ o', ev_callV R y r st k n = some o' ∧ ev_ho CC Q T K pc L σ k n o' := by
  unfold m_s_callV ev_callV
  cases hd : st.drop r.2.2.2.1 with
  | nil => exact ev_no
  | cons v st' =>
    rcases v with a | a | _ | q
    · exact ev_no
    · exact ev_no
    · exact ev_no
    · exact ⟨fun h => ev_one.mp ⟨⟨h.1, h.2.1, h.2.2.1, h.2.2.2.1⟩, h.2.2.2.2⟩, fun h => ⟨(ev_one.mpr h).1.1, (ev_one.mpr h).1.2.1, (ev_one.mpr h).1.2.2.1, (ev_one.mpr h).1.2.2.2, (ev_one.mpr h).2⟩⟩
theorem ev_callS_ok {y : mMt} {r : mRow} : m_s_callS CC R (T pc L) y r σ st k n (fun st σ k n => K (pc + 3) L st σ k n) ↔ ∃ o', ev_callS R y r st k n = some o' ∧ ev_ho CC Q T K pc L σ k n o' := by
  unfold m_s_callS ev_callS
  exact ⟨fun h => ev_one.mp ⟨⟨h.1, h.2.1, h.2.2.1⟩, h.2.2.2⟩, fun h => ⟨(ev_one.mpr h).1.1, (ev_one.mpr h).1.2.1, (ev_one.mpr h).1.2.2, (ev_one.mpr h).2⟩⟩
theorem ev_bare_ok {r : mRow} : m_s_bare r pc L st (fun pc L st => K pc L st σ k n) ↔ ∃ o', ev_bare r pc L st σ k n = some o' ∧ ev_ho CC Q T K pc L σ k n o' := by
  unfold m_s_bare ev_bare
  cases hc : m_cond r st with
  | some q =>
    dsimp only
    by_cases hq : q.1
    · rw [if_pos hq]
      exact ⟨fun h => ⟨_, rfl, h.1 hq⟩, (fun ⟨o', h1, h2⟩ => by cases h1; exact ⟨fun _ => h2, fun h => absurd hq h⟩)⟩
    · rw [if_neg hq]
      exact ⟨fun h => ⟨_, rfl, h.2 hq⟩, (fun ⟨o', h1, h2⟩ => by cases h1; exact ⟨fun h => absurd h hq, fun _ => h2⟩)⟩
  | none =>
    dsimp only
    cases hp : m_pure r pc L st with
    | some q => exact ⟨fun h => ⟨_, rfl, h⟩, (fun ⟨o', h1, h2⟩ => by cases h1; exact h2)⟩
    | none => exact ev_no
set_option maxHeartbeats 4000000 in
theorem ev_nf_ok : m_step mt CC rt R nL rows mc ms Q xs T K pc L st σ k n ↔ ∃ o, ev_nf xs mt rt R nL rows mc ms pc L st σ k n = some o ∧ ev_ho CC Q T K pc L σ k n o := by
  unfold m_step ev_nf
  cases hr : m_at rows pc with
  | none => exact ev_no
  | some r =>
  obtain ⟨ig, ln, ra, rb, rz, rp⟩ := r
  dsimp only
  cases ig
  case getfield i => dsimp only; exact ev_get_ok.trans ev_nw_ok
  case putfield i => dsimp only; exact ev_put_ok.trans ev_nx_ok
  case arraylength =>
    dsimp only
    cases hxs : m_isx st 0 with
    | true => exact ev_xlen_ok.trans ev_nw_ok
    | false => exact ev_len_ok.trans ev_nw_ok
  case iaload =>
    dsimp only
    cases hxs : m_isx st 1 with
    | true => exact ev_xld_ok.trans ev_nw_ok
    | false => exact ev_ald_ok.trans ev_nw_ok
  case laload => dsimp only; exact ev_ald_ok.trans ev_nw_ok
  case baload => dsimp only; exact ev_ald_ok.trans ev_nw_ok
  case aaload => dsimp only; exact ev_aldq_ok.trans ev_nw_ok
  case iastore => dsimp only; exact ev_iast_ok.trans ev_nx_ok
  case lastore => dsimp only; exact ev_last_ok.trans ev_nx_ok
  case bastore => dsimp only; exact ev_zast_ok.trans ev_nx_ok
  case aastore => dsimp only; exact ev_astq_ok.trans ev_nx_ok
  case new i =>
    dsimp only
    by_cases hlt : ra < 13
    · rw [if_pos hlt, if_pos hlt]
      exact ⟨fun h => ev_one.mp ⟨h.1, h.2⟩, fun h => ⟨(ev_one.mpr h).1, (ev_one.mpr h).2⟩⟩
    · rw [if_neg hlt, if_neg hlt]
      exact ⟨fun h => ev_one.mp ⟨⟨h.1, h.2.1, h.2.2.1, h.2.2.2.1, h.2.2.2.2.1, h.2.2.2.2.2.1⟩, h.2.2.2.2.2.2⟩, fun h => ⟨(ev_one.mpr h).1.1, (ev_one.mpr h).1.2.1, (ev_one.mpr h).1.2.2.1, (ev_one.mpr h).1.2.2.2.1, (ev_one.mpr h).1.2.2.2.2.1, (ev_one.mpr h).1.2.2.2.2.2, (ev_one.mpr h).2⟩⟩
  case newarray t => dsimp only; exact ev_newa_ok.trans ev_nz_ok
  case anewarray i => dsimp only; exact ev_newa_ok.trans ev_nz_ok
  case multianewarray i d => dsimp only; exact ev_mna_ok.trans ev_nx_ok
  case invokevirtual i =>
    dsimp only
    refine ev_pre ?_
    cases hy : mt[ra]? with
    | none => exact ev_no
    | some y => exact ev_callV_ok
  case invokespecial i =>
    dsimp only
    refine ev_pre ?_
    by_cases h2 : ra = 2000
    · rw [if_pos h2, if_pos h2]
      exact ev_obj_ok.trans ev_nw_ok
    · rw [if_neg h2, if_neg h2]
      cases hy : mt[ra]? with
      | none => exact ev_no
      | some y => exact ev_callV_ok
  case invokestatic i =>
    dsimp only
    rw [← and_assoc]
    refine ev_pre ?_
    by_cases h2 : 1000 ≤ ra
    · rw [if_pos h2, if_pos h2]
      exact ev_math_ok.trans ev_nw_ok
    · rw [if_neg h2, if_neg h2]
      cases hy : mt[ra]? with
      | none => exact ev_no
      | some y => exact ev_callS_ok
  case ireturn =>
    dsimp only
    rw [← and_assoc]
    exact ev_pre (ev_iret_ok.trans ev_ny_ok)
  case lreturn =>
    dsimp only
    rw [← and_assoc]
    exact ev_pre (ev_lret_ok.trans ev_ny_ok)
  case areturn =>
    dsimp only
    rw [← and_assoc]
    exact ev_pre (ev_aret_ok.trans ev_ny_ok)
  case return_ =>
    dsimp only
    exact ⟨fun h => ev_one.mp ⟨⟨h.1, h.2.1, h.2.2.1, h.2.2.2.1⟩, h.2.2.2.2⟩, fun h => ⟨(ev_one.mpr h).1.1, (ev_one.mpr h).1.2.1, (ev_one.mpr h).1.2.2.1, (ev_one.mpr h).1.2.2.2, (ev_one.mpr h).2⟩⟩
  all_goals (dsimp only; exact ev_bare_ok)
end EV2
