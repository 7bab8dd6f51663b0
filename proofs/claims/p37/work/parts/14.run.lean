/-! a contract out of the method's steps -/
def m_T (Q : mX → mS → Prop) (mc ms : Nat) : Nat → List (Option mV) → mS → Nat → Nat → Nat → Prop := fun _ _ σ k n x => k ≤ mc ∧ n ≤ ms ∧ Q (.inr x) σ
/-- the same heap, as far as there is one -/
def m_agree (σ τ : mS) : Prop := (∀ c, σ.1 c = τ.1 c) ∧ (∀ c i, 13 ≤ c → i < σ.1 c → σ.2.1 c i = τ.2.1 c i) ∧ ∀ c i k, i < σ.1 c → (c < 13 → k < m_nf c) → (13 ≤ c → k < σ.2.1 c i) → m_get σ c i k = m_get τ c i k
theorem m_agree.rf (σ : mS) : m_agree σ σ := ⟨fun _ => rfl, fun _ _ _ _ => rfl, fun _ _ _ _ _ _ => rfl⟩
theorem m_agree.tr {σ τ υ : mS} (h : m_agree σ τ) (g : m_agree τ υ) : m_agree σ υ :=
  ⟨fun c => (h.1 c).trans (g.1 c), fun c i hc hi => (h.2.1 c i hc hi).trans (g.2.1 c i hc (by rw [← h.1 c]; exact hi)), fun c i k hi h1 h2 => (h.2.2 c i k hi h1 h2).trans (g.2.2 c i k (by rw [← h.1 c]; exact hi) h1 (fun z => by rw [← h.2.1 c i z hi]; exact h2 z))⟩
theorem m_agree.sy {σ τ : mS} (h : m_agree σ τ) : m_agree τ σ :=
  ⟨fun c => (h.1 c).symm, fun c i hc hi => (h.2.1 c i hc (by rw [h.1 c]; exact hi)).symm, fun c i k hi h1 h2 => (h.2.2 c i k (by rw [h.1 c]; exact hi) h1 (fun z => by rw [h.2.1 c i z (by rw [h.1 c]; exact hi)]; exact h2 z)).symm⟩
theorem m_X.ag {D : va_G} {ty : List (ClassId × FieldType)} {s : State} {xs : Option (Nat × (Nat → Int32))} {ρ : Nat → Nat → Option Nat} {σ τ : mS} {H : Heap} (h : m_X D ty s xs ρ σ H) (g : m_agree σ τ) : m_X D ty s xs ρ τ H := by
  refine ⟨h.1, fun c i hi => h.2.1 c i (by rw [g.1 c]; exact hi), fun c i a ha => by rw [← g.1 c]; exact h.2.2.1 c i a ha, fun c i a ha => ?_⟩
  have hi := h.2.2.1 c i a ha
  rcases h.2.2.2 c i a ha with h1 | ⟨h1, h2⟩
  · exact Or.inl h1
  · refine Or.inr ⟨h1, ?_⟩
    rcases h2 with ⟨r, e1, V, e2, e3⟩ | ⟨j, q, e1, e2, f, e3, e4⟩
    · refine Or.inl ⟨r, e1, V, e2, fun k hk => ?_⟩
      have hlt := m_cls_lt e1
      rw [← g.2.2 c i k hi (fun _ => by unfold m_nf; rw [e1]; exact hk) (fun z => by omega)]
      exact e3 k hk
    · refine Or.inr ⟨j, q, e1, e2, f, by rw [← g.2.1 c i (by omega) hi]; exact e3, fun k hk => ?_⟩
      rw [← g.2.1 c i (by omega) hi] at hk
      rw [← g.2.2 c i k hi (fun z => by omega) (fun _ => hk)]
      exact e4 k hk
theorem m_con_go {l : Launch} (hl : l.stackTraces = false) {mt : List mMt} {CC : Nat → List mV → mS → (mX → mS → Prop) → Prop} (hCC : ∀ j y avs σ Q, mt[j]? = some y → CC j avs σ Q → m_Con l y.1 (m_ws y) y.2.2.2.2.1 y.2.2.2.2.1.cells y.2.2.2.2.1.slots avs σ Q) {y : MethodName} {cc : ByteArray} {maxL mc ms : Nat} {ret : Option FieldType} {rm : Room} {avs : List mV} {σ : mS} {Q : mX → mS → Prop} {rows : List (Nat × mRow)} {ini : Bool} (hok : ∀ q ∈ rows, m_rowB mt y.cls ini cc rm q = true) (hy : plainName y.cls = true) (hn : (m_args avs).length ≤ maxL) (hini : ini = true → y.name = "<init>")
    (body : ∀ (J : Nat → List (Option mV) → List mV → mS → Nat → Nat → Prop),
      (∀ (cuts : List Nat) (f pc : Nat) (L : List (Option mV)) (st : List mV) (σ : mS) (k n : Nat), m_step mt CC ret rm maxL rows mc ms Q none (m_T Q mc ms) (m_run mt CC ret rm maxL rows mc ms Q none (m_T Q mc ms) J cuts f) pc L st σ k n → J pc L st σ k n) →
      (∀ (pc : Nat) (L : List (Option mV)) (st : List mV) (σ τ : mS) (k n : Nat), m_agree σ τ → J pc L st τ k n → J pc L st σ k n) →
      (∀ (pc : Nat) (L : List (Option mV)) (st : List mV) (σ : mS) (k n k' n' : Nat), k ≤ k' → n ≤ n' → J pc L st σ k' n' → J pc L st σ k n) → J 0 (m_L0 maxL avs) [] σ 0 0) : m_Con l y (m_W y cc maxL ret) rm mc ms avs σ Q :=
  m_con_of hl hy hn (fun p e s m args below meth cd D ty xs A ρ0 C hex hrt hnm => body (m_J p l e rm s m args below meth cd (vx_MQ below (m_Qc D ty xs A ρ0 Q) (m_XC D ty xs A ρ0 Q) args s mc ms A) A ρ0 (m_X D ty s xs))
    (fun cuts f pc L st σ k n h => m_go C (fun _ => hex) hrt (fun z => hnm.trans (hini z)) hCC hok (m_step_none h) (fun pc L σ k n x hT => m_jx_out (fun x h => (hex x h).elim) C.2.2.2.2.2.2.2.1 hT.1 hT.2.1 hT.2.2) (m_goes C (fun _ => hex) hrt (fun z => hnm.trans (hini z)) hCC hok (fun pc L σ k n x hT => m_jx_out (fun x h => (hex x h).elim) C.2.2.2.2.2.2.2.1 hT.1 hT.2.1 hT.2.2) (fun _ _ _ _ _ _ h => h) f))
    (fun pc L st σ τ k n hg hJ ρ H locs ls sw h1 h2 h3 h4 h5 h6 => hJ ρ H locs ls sw h1 (h2.ag hg) h3 h4 h5 h6)
    (fun pc L st σ k n k' n' hk hn hJ ρ H locs ls sw h1 h2 h3 h4 h5 h6 => W.widen hk hn (hJ ρ H locs ls sw h1 h2 h3 h4 h5 h6)))
/-- a contract from another heap that is the same -/
theorem m_con_ag {l : Launch} {y : MethodName} {ws : List Cond} {rm : Room} {mc ms : Nat} {avs : List mV} {σ τ : mS} {Q : mX → mS → Prop} (h : m_Con l y ws rm mc ms avs τ Q) (g : m_agree σ τ) : m_Con l y ws rm mc ms avs σ Q := by
  intro D ty xs A ρ
  have h9 := h D ty xs A ρ
  intro p e ha hc hk s m args below hf hap hP hX
  exact h9 p e ha hc hk s m args below hf hap ⟨hP.1, hP.2.1.ag g, hP.2.2⟩ hX
/-- a method's contract by its number -/
def m_ConI (l : Launch) (j : Nat) (avs : List mV) (σ : mS) (Q : mX → mS → Prop) : Prop := ∀ y, m_mt[j]? = some y → m_Con l y.1 (m_ws y) y.2.2.2.2.1 y.2.2.2.2.1.cells y.2.2.2.2.1.slots avs σ Q
def m_bigrun (CC : Nat → List mV → mS → (mX → mS → Prop) → Prop) (z : mAl) (avs : List mV) (σ : mS) (Q : mX → mS → Prop) : Prop :=
  z.1.2.2.2.2.2 = [] ∧ (m_args avs).length ≤ z.1.2.2.1 ∧ m_run m_mt CC z.1.2.2.2.1 z.1.2.2.2.2.1 z.1.2.2.1 z.2.1 z.1.2.2.2.2.1.cells z.1.2.2.2.2.1.slots Q none (m_T Q z.1.2.2.2.2.1.cells z.1.2.2.2.2.1.slots) (fun _ _ _ _ _ _ => False) [] 1000000 0 (m_L0 z.1.2.2.1 avs) [] σ 0 0
/-- a call: by a contract, or by its body, whose calls are done alike -/
def m_big (l : Launch) : Nat → Nat → List mV → mS → (mX → mS → Prop) → Prop
  | 0 => m_ConI l
  | f + 1 => fun j avs σ Q => m_ConI l j avs σ Q ∨ match m_al[j]? with
    | some z => m_bigrun (m_big l f) z avs σ Q
    | none => False
theorem m_big_ok {l : Launch} (hl : l.stackTraces = false) : ∀ (f j : Nat) (avs : List mV) (σ : mS) (Q : mX → mS → Prop), m_big l f j avs σ Q → m_ConI l j avs σ Q
  | 0, _, _, _, _, h => h
  | f + 1, j, avs, σ, Q, h => by
    have h' : m_ConI l j avs σ Q ∨ match m_al[j]? with
      | some z => m_bigrun (m_big l f) z avs σ Q
      | none => False := h
    rcases h' with h' | h'
    · exact h'
    · cases hz : m_al[j]? with
      | none => rw [hz] at h'; exact h'.elim
      | some z =>
        rw [hz] at h'
        intro y hy
        have e2 : y = z.1 := Option.some.inj (hy.symm.trans (m_al_at hz))
        subst e2
        obtain ⟨k1, k2, k3⟩ := m_al_ok z (List.mem_of_getElem? hz)
        obtain ⟨⟨y1, y2, y3, y4, y5, hh⟩, rows, ini⟩ := z
        obtain ⟨g1, g2, g3⟩ := h'
        dsimp only at g1
        subst g1
        exact m_con_of hl k3 g2 (fun p e s m args below meth cd D ty xs A ρ0 C hex hrt hnm => m_goes C (fun _ => hex) hrt (fun z => hnm.trans (k2 z)) (fun j y avs σ Q hy h => m_big_ok hl f j avs σ Q h y hy) k1 (fun pc L σ k n x hT => m_jx_out (fun x h => (hex x h).elim) C.2.2.2.2.2.2.2.1 hT.1 hT.2.1 hT.2.2) (fun _ _ _ _ _ _ h => h.elim) 1000000 _ _ _ _ _ _ g3)
theorem m_bigC {l : Launch} (hl : l.stackTraces = false) (f : Nat) : ∀ j y avs σ Q, m_mt[j]? = some y → m_big l f j avs σ Q → m_Con l y.1 (m_ws y) y.2.2.2.2.1 y.2.2.2.2.1.cells y.2.2.2.2.1.slots avs σ Q := fun j y avs σ Q hy h => m_big_ok hl f j avs σ Q h y hy
theorem con_X7_isGone {l : Launch} (hl : l.stackTraces = false) {σ : mS} {i : Nat} {Q : mX → mS → Prop} (h : ∀ v : Int32, (v = 0 ∨ v = 1) → (v = 1 ↔ m_i σ 7 i 9 = 0) → Q (.inl (some (.inl v))) σ) : m_Con l yX7_isGone (m_W yX7_isGone cX7_isGone 1 (some .boolean)) rm_X7_isGone 0 0 [.inr (.inr (some (7, i)))] σ Q := by
  refine m_con_go hl (m_bigC hl 0) ok_X7_isGone (by decide +kernel) (Nat.le_of_ble_eq_true rfl) (fun h => by cases h) fun J hS hA hW => ?_
  apply hS [] 1000
  repeat' first
    | rfl
    | exact Or.inl rfl
    | exact Or.inr ⟨rfl, Or.inl rfl⟩
    | exact Or.inr ⟨rfl, Or.inr rfl⟩
    | exact Nat.le_refl _
    | exact ⟨by decide, by decide⟩
    | (apply And.intro)
    | intro h0
  · exact h 0 (Or.inl rfl) ⟨(fun z => absurd z (by decide)), (fun z => absurd z h0)⟩
  · exact h 1 (Or.inr rfl) ⟨fun _ => Decidable.of_not_not h0, fun _ => rfl⟩
