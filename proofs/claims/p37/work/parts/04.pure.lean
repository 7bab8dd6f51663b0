/-! the model's values beside the machine's; the instructions without heap, call or branch -/
def m_vr (ρ : Nat → Nat → Option Nat) (x : mV) (w : Value) : Prop := match x with
  | .inl a => w = .int a
  | .inr (.inl a) => w = .long a
  | .inr (.inr none) => w = .null
  | .inr (.inr (some q)) => ∃ a, ρ q.1 q.2 = some a ∧ w = .ref a
def m_sr (ρ : Nat → Nat → Option Nat) : List mV → List Value → Prop
  | [], [] => True
  | x :: xs, w :: ws => m_vr ρ x w ∧ m_sr ρ xs ws
  | _, _ => False
def m_lr (ρ : Nat → Nat → Option Nat) (ls : Array Slot) (L : List (Option mV)) : Prop := ls.size = L.length ∧ lv_wf ls ∧ ∀ (i : Nat) (x : mV), m_ld L i = some x → ∃ w, ls[i]? = some (.val w) ∧ m_vr ρ x w
def m_le (ρ ρ' : Nat → Nat → Option Nat) : Prop := ∀ c i a, ρ c i = some a → ρ' c i = some a
theorem m_le.rf {ρ : Nat → Nat → Option Nat} : m_le ρ ρ := fun _ _ _ h => h
theorem m_le.tr {ρ ρ' ρ'' : Nat → Nat → Option Nat} (h : m_le ρ ρ') (h' : m_le ρ' ρ'') : m_le ρ ρ'' := fun c i a z => h' c i a (h c i a z)
theorem m_vr.le {ρ ρ' : Nat → Nat → Option Nat} (h : m_le ρ ρ') {x : mV} {w : Value} (hx : m_vr ρ x w) : m_vr ρ' x w := by
  rcases x with a | a | _ | q
  · exact hx
  · exact hx
  · exact hx
  · obtain ⟨a, h1, h2⟩ := hx
    exact ⟨a, h _ _ _ h1, h2⟩
theorem m_sr.le {ρ ρ' : Nat → Nat → Option Nat} (h : m_le ρ ρ') : ∀ {st : List mV} {sw : List Value}, m_sr ρ st sw → m_sr ρ' st sw
  | [], [], _ => trivial
  | _ :: _, _ :: _, ⟨h1, h2⟩ => ⟨h1.le h, m_sr.le h h2⟩
theorem m_lr.le {ρ ρ' : Nat → Nat → Option Nat} (h : m_le ρ ρ') {ls : Array Slot} {L : List (Option mV)} (hL : m_lr ρ ls L) : m_lr ρ' ls L :=
  ⟨hL.1, hL.2.1, fun i x hx => by obtain ⟨w, h1, h2⟩ := hL.2.2 i x hx; exact ⟨w, h1, h2.le h⟩⟩
theorem m_sr_i {ρ : Nat → Nat → Option Nat} {x : Int32} {st : List mV} {sw : List Value} (h : m_sr ρ (.inl x :: st) sw) : ∃ s', sw = .int x :: s' ∧ m_sr ρ st s' := by
  cases sw with
  | nil => exact h.elim
  | cons w s' =>
    obtain ⟨h1, h2⟩ := h
    cases (show w = .int x from h1)
    exact ⟨s', rfl, h2⟩
theorem m_sr_l {ρ : Nat → Nat → Option Nat} {x : Int64} {st : List mV} {sw : List Value} (h : m_sr ρ (.inr (.inl x) :: st) sw) : ∃ s', sw = .long x :: s' ∧ m_sr ρ st s' := by
  cases sw with
  | nil => exact h.elim
  | cons w s' =>
    obtain ⟨h1, h2⟩ := h
    cases (show w = .long x from h1)
    exact ⟨s', rfl, h2⟩
/-- a reference of the model is null or lies somewhere -/
def m_rr (ρ : Nat → Nat → Option Nat) (x : mR) (r : Option Nat) : Prop := match x, r with
  | none, none => True
  | some q, some a => ρ q.1 q.2 = some a
  | _, _ => False
theorem m_vr_r {ρ : Nat → Nat → Option Nat} {x : mR} {w : Value} (h : m_vr ρ (.inr (.inr x)) w) : ∃ r, w = va_rf r ∧ m_rr ρ x r := by
  cases x with
  | none => exact ⟨none, h, trivial⟩
  | some q =>
    obtain ⟨a, h1, h2⟩ := h
    exact ⟨some a, h2, h1⟩
theorem m_rr_v {ρ : Nat → Nat → Option Nat} {x : mR} {r : Option Nat} (h : m_rr ρ x r) : m_vr ρ (.inr (.inr x)) (va_rf r) := by
  cases x with
  | none => cases r with
    | none => rfl
    | some a => exact h.elim
  | some q => cases r with
    | none => exact h.elim
    | some a => exact ⟨a, h, rfl⟩
theorem m_sr_r {ρ : Nat → Nat → Option Nat} {x : mR} {st : List mV} {sw : List Value} (h : m_sr ρ (.inr (.inr x) :: st) sw) : ∃ r s', sw = va_rf r :: s' ∧ m_rr ρ x r ∧ m_sr ρ st s' := by
  cases sw with
  | nil => exact h.elim
  | cons w s' =>
    obtain ⟨h1, h2⟩ := h
    obtain ⟨r, e, hr⟩ := m_vr_r h1
    exact ⟨r, s', by rw [e], hr, h2⟩
theorem m_cat_rf (r : Option Nat) : (va_rf r).category = 1 := by cases r <;> rfl
/-- all that the locals hold -/
def m_all (ls : Array Slot) : List (Nat × Value) := (List.range ls.size).filterMap (fun (i : Nat) => match (ls[i]? : Option Slot) with
  | some (Slot.val v) => some (i, v)
  | _ => none)
theorem m_all_mem {ls : Array Slot} {i : Nat} {v : Value} : (i, v) ∈ m_all ls ↔ ls[i]? = some (.val v) := by
  unfold m_all
  rw [List.mem_filterMap]
  constructor
  · rintro ⟨j, -, h⟩
    cases hj : ls[j]? with
    | none => rw [hj] at h; cases h
    | some z =>
      rw [hj] at h
      cases z with
      | val w => cases h; exact hj
      | unset => cases h
      | second => cases h
  · intro h
    refine ⟨i, List.mem_range.mpr (Array.getElem?_eq_some_iff.mp h).1, ?_⟩
    rw [h]
theorem m_all_has {ρ : Nat → Nat → Option Nat} {ls : Array Slot} {L : List (Option mV)} (h : m_lr ρ ls L) : lv_has ls L.length (m_all ls) :=
  ⟨h.1, h.2.1, fun q hq => m_all_mem.mp (show (q.1, q.2) ∈ m_all ls from hq)⟩
theorem m_ld_set {L : List (Option mV)} {i j : Nat} {o : Option mV} {x : mV} (h : m_ld (L.set i o) j = some x) : (j = i ∧ o = some x) ∨ (j ≠ i ∧ m_ld L j = some x) := by
  unfold m_ld at h ⊢
  by_cases e : j = i
  · subst e
    rw [List.getElem?_set] at h
    simp only [if_true] at h
    by_cases hl : j < L.length
    · rw [if_pos hl] at h
      cases o with
      | none => cases h
      | some y => cases h; exact Or.inl ⟨rfl, rfl⟩
    · rw [if_neg hl] at h
      cases h
  · rw [List.getElem?_set_ne (Ne.symm e)] at h
    exact Or.inr ⟨e, h⟩
theorem m_ld_clr {L : List (Option mV)} {i j : Nat} {x : mV} (h : m_ld (m_clr L i) j = some x) : m_ld L j = some x ∧ ¬ (j + 1 = i ∧ ∃ y, x = .inr (.inl y)) := by
  cases i with
  | zero => exact ⟨h, fun q => by omega⟩
  | succ k =>
    unfold m_clr at h
    simp only at h
    cases hk : m_ld L k with
    | none =>
      rw [hk] at h
      refine ⟨h, ?_⟩
      rintro ⟨e, y, rfl⟩
      have : j = k := by omega
      subst this
      have h' : m_ld L j = some (.inr (.inl y)) := h
      rw [hk] at h'
      cases h'
    | some z =>
      rw [hk] at h
      rcases z with a | a | a
      · refine ⟨h, ?_⟩
        rintro ⟨e, y, rfl⟩
        have : j = k := by omega
        subst this
        have h' : m_ld L j = some (.inr (.inl y)) := h
        rw [hk] at h'
        cases h'
      · have h' : m_ld (L.set k none) j = some x := h
        rcases m_ld_set h' with ⟨-, e⟩ | ⟨e1, e2⟩
        · cases e
        · exact ⟨e2, fun q => e1 (by omega)⟩
      · refine ⟨h, ?_⟩
        rintro ⟨e, y, rfl⟩
        have : j = k := by omega
        subst this
        have h' : m_ld L j = some (.inr (.inl y)) := h
        rw [hk] at h'
        cases h'
theorem m_clr_len (L : List (Option mV)) (i : Nat) : (m_clr L i).length = L.length := by
  cases i with
  | zero => rfl
  | succ k =>
    unfold m_clr
    simp only
    cases m_ld L k with
    | none => rfl
    | some z =>
      rcases z with a | a | a
      · rfl
      · exact List.length_set ..
      · rfl
theorem m_sto_len (L : List (Option mV)) (i : Nat) (x : mV) : (m_sto L i x).length = L.length := by
  unfold m_sto
  rw [List.length_set, m_clr_len]
theorem m_sto2_len (L : List (Option mV)) (i : Nat) (x : mV) : (m_sto2 L i x).length = L.length := by
  unfold m_sto2
  rw [List.length_set, m_sto_len]
theorem m_vr_cat {ρ : Nat → Nat → Option Nat} {x : mV} {w : Value} (h : m_vr ρ x w) (hc : w.category = 2) : ∃ y, x = .inr (.inl y) := by
  rcases x with a | a | _ | q
  · cases (show w = .int a from h); cases hc
  · exact ⟨a, rfl⟩
  · cases (show w = .null from h); cases hc
  · obtain ⟨a, -, h2⟩ := h
    cases h2; cases hc
theorem m_sto_ok {ρ : Nat → Nat → Option Nat} {ls ls' : Array Slot} {L : List (Option mV)} {i : Nat} {x : mV} {w : Value} (h : m_lr ρ ls L) (hx : m_vr ρ x w)
    (h' : lv_has ls' L.length ((i, w) :: (m_all ls).filter (fun q => !(q.1 == i) && !(q.1 + 1 == i && q.2.category == 2)))) : m_lr ρ ls' (m_sto L i x) := by
  obtain ⟨s1, s2, s3⟩ := h'
  refine ⟨by rw [m_sto_len]; exact s1, s2, fun j y hy => ?_⟩
  unfold m_sto at hy
  rcases m_ld_set hy with ⟨e1, e2⟩ | ⟨e1, e2⟩
  · cases e2
    subst e1
    exact ⟨w, s3 (j, w) List.mem_cons_self, hx⟩
  · obtain ⟨e3, e4⟩ := m_ld_clr e2
    obtain ⟨w', g1, g2⟩ := h.2.2 j y e3
    refine ⟨w', s3 (j, w') (List.mem_cons_of_mem _ (List.mem_filter.mpr ⟨m_all_mem.mpr g1, ?_⟩)), g2⟩
    simp only [Bool.and_eq_true, Bool.not_eq_true', beq_eq_false_iff_ne, ne_eq, Bool.and_eq_false_iff]
    refine ⟨e1, ?_⟩
    by_cases z : j + 1 = i
    · exact Or.inr (fun q => e4 ⟨z, m_vr_cat g2 q⟩)
    · exact Or.inl z
theorem m_sto2_ok {ρ : Nat → Nat → Option Nat} {ls ls' : Array Slot} {L : List (Option mV)} {i : Nat} {x : mV} {w : Value} (h : m_lr ρ ls L) (hx : m_vr ρ x w)
    (h' : lv_has ls' L.length ((i, w) :: (m_all ls).filter (fun q => !(q.1 == i) && (!(q.1 == i + 1) && !(q.1 + 1 == i && q.2.category == 2))))) : m_lr ρ ls' (m_sto2 L i x) := by
  obtain ⟨s1, s2, s3⟩ := h'
  refine ⟨by rw [m_sto2_len]; exact s1, s2, fun j y hy => ?_⟩
  unfold m_sto2 m_sto at hy
  rcases m_ld_set hy with ⟨-, e2⟩ | ⟨e0, hy⟩
  · cases e2
  rcases m_ld_set hy with ⟨e1, e2⟩ | ⟨e1, e2⟩
  · cases e2
    subst e1
    exact ⟨w, s3 (j, w) List.mem_cons_self, hx⟩
  · obtain ⟨e3, e4⟩ := m_ld_clr e2
    obtain ⟨w', g1, g2⟩ := h.2.2 j y e3
    refine ⟨w', s3 (j, w') (List.mem_cons_of_mem _ (List.mem_filter.mpr ⟨m_all_mem.mpr g1, ?_⟩)), g2⟩
    simp only [Bool.and_eq_true, Bool.not_eq_true', beq_eq_false_iff_ne, ne_eq, Bool.and_eq_false_iff]
    refine ⟨e1, e0, ?_⟩
    by_cases z : j + 1 = i
    · exact Or.inr (fun q => e4 ⟨z, m_vr_cat g2 q⟩)
    · exact Or.inl z
theorem m_ldi_ok {ρ : Nat → Nat → Option Nat} {ls : Array Slot} {L : List (Option mV)} {i : Nat} {st st' : List mV} (h : m_lr ρ ls L) (hi : m_ldi L i st = some st') : ∃ x, ls[i]? = some (.val (.int x)) ∧ st' = .inl x :: st := by
  unfold m_ldi at hi
  cases hk : m_ld L i with
  | none => rw [hk] at hi; cases hi
  | some z =>
    rw [hk] at hi
    rcases z with a | a | a
    · cases hi
      obtain ⟨w, h1, h2⟩ := h.2.2 _ _ hk
      cases (show w = .int a from h2)
      exact ⟨a, h1, rfl⟩
    · cases hi
    · cases hi
theorem m_ldl_ok {ρ : Nat → Nat → Option Nat} {ls : Array Slot} {L : List (Option mV)} {i : Nat} {st st' : List mV} (h : m_lr ρ ls L) (hi : m_ldl L i st = some st') : ∃ x, ls[i]? = some (.val (.long x)) ∧ st' = .inr (.inl x) :: st := by
  unfold m_ldl at hi
  cases hk : m_ld L i with
  | none => rw [hk] at hi; cases hi
  | some z =>
    rw [hk] at hi
    rcases z with a | a | a
    · cases hi
    · cases hi
      obtain ⟨w, h1, h2⟩ := h.2.2 _ _ hk
      cases (show w = .long a from h2)
      exact ⟨a, h1, rfl⟩
    · cases hi
theorem m_lda_ok {ρ : Nat → Nat → Option Nat} {ls : Array Slot} {L : List (Option mV)} {i : Nat} {st st' : List mV} (h : m_lr ρ ls L) (hi : m_lda L i st = some st') : ∃ x r, ls[i]? = some (.val (va_rf r)) ∧ m_rr ρ x r ∧ st' = .inr (.inr x) :: st := by
  unfold m_lda at hi
  cases hk : m_ld L i with
  | none => rw [hk] at hi; cases hi
  | some z =>
    rw [hk] at hi
    rcases z with a | a | a
    · cases hi
    · cases hi
    · cases hi
      obtain ⟨w, h1, h2⟩ := h.2.2 _ _ hk
      obtain ⟨r, rfl, hr⟩ := m_vr_r h2
      exact ⟨a, r, h1, hr, rfl⟩
theorem m_sti_ok {L L' : List (Option mV)} {i : Nat} {st st' : List mV} (hi : m_sti L i st = some (L', st')) : ∃ x, st = .inl x :: st' ∧ L' = m_sto L i (.inl x) ∧ i < L.length := by
  unfold m_sti at hi
  split at hi
  · split at hi
    · cases hi
      exact ⟨_, rfl, rfl, by assumption⟩
    · cases hi
  · cases hi
theorem m_stl_ok {L L' : List (Option mV)} {i : Nat} {st st' : List mV} (hi : m_stl L i st = some (L', st')) : ∃ x, st = .inr (.inl x) :: st' ∧ L' = m_sto2 L i (.inr (.inl x)) ∧ i + 1 < L.length := by
  unfold m_stl at hi
  split at hi
  · split at hi
    · cases hi
      exact ⟨_, rfl, rfl, by assumption⟩
    · cases hi
  · cases hi
theorem m_sta_ok {L L' : List (Option mV)} {i : Nat} {st st' : List mV} (hi : m_sta L i st = some (L', st')) : ∃ x, st = .inr (.inr x) :: st' ∧ L' = m_sto L i (.inr (.inr x)) ∧ i < L.length := by
  unfold m_sta at hi
  split at hi
  · split at hi
    · cases hi
      exact ⟨_, rfl, rfl, by assumption⟩
    · cases hi
  · cases hi
theorem m_nx_ok {α : Type} {pc pc' : Nat} {L L' : α} {o : Option (List mV)} {st' : List mV} (h : m_nx pc L o = some (pc', L', st')) : pc' = pc ∧ L' = L ∧ o = some st' := by
  unfold m_nx at h
  cases o with
  | none => cases h
  | some z => cases h; exact ⟨rfl, rfl, rfl⟩
theorem m_ny_ok {α : Type} {pc pc' : Nat} {L' : α} {o : Option (α × List mV)} {st' : List mV} (h : m_ny pc o = some (pc', L', st')) : pc' = pc ∧ o = some (L', st') := by
  unfold m_ny at h
  cases o with
  | none => cases h
  | some z => cases h; exact ⟨rfl, rfl⟩
