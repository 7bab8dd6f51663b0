/-! a contract out of its method's body -/
def m_args (avs : List mV) : List (Option mV) := avs.flatMap (fun x => match x with
  | .inr (.inl _) => [some x, none]
  | _ => [some x])
theorem m_ent {ρ : Nat → Nat → Option Nat} : ∀ {avs : List mV} {ws : List Value}, m_sr ρ avs ws → (lg_sl ws).length = (m_args avs).length ∧ ∀ (i : Nat) (x : mV), m_ld (m_args avs) i = some x → ∃ w, (lg_sl ws)[i]? = some (.val w) ∧ m_vr ρ x w
  | [], [], _ => ⟨rfl, fun i x h => by simp [m_args, m_ld] at h⟩
  | [], _ :: _, h => h.elim
  | _ :: _, [], h => h.elim
  | x :: xs, w :: ws, ⟨h1, h2⟩ => by
    obtain ⟨e1, e2⟩ := m_ent h2
    have hc := m_vr_catN h1
    have hl : lg_sl (w :: ws) = (if w.category = 2 then [.val w, .second] else [.val w]) ++ lg_sl ws := by simp [lg_sl]
    have go1 : w.category = 1 → m_args (x :: xs) = some x :: m_args xs → (lg_sl (w :: ws)).length = (m_args (x :: xs)).length ∧ ∀ (i : Nat) (z : mV), m_ld (m_args (x :: xs)) i = some z → ∃ v, (lg_sl (w :: ws))[i]? = some (.val v) ∧ m_vr ρ z v := by
      intro g1 g2
      rw [hl, g2, if_neg (by omega)]
      refine ⟨by simp [e1], fun i z h => ?_⟩
      cases i with
      | zero =>
        have : x = z := by simpa [m_ld] using h
        subst this
        exact ⟨w, by simp, h1⟩
      | succ i =>
        obtain ⟨v, v1, v2⟩ := e2 i z (by simpa [m_ld] using h)
        exact ⟨v, by simpa using v1, v2⟩
    have go2 : w.category = 2 → m_args (x :: xs) = some x :: none :: m_args xs → (lg_sl (w :: ws)).length = (m_args (x :: xs)).length ∧ ∀ (i : Nat) (z : mV), m_ld (m_args (x :: xs)) i = some z → ∃ v, (lg_sl (w :: ws))[i]? = some (.val v) ∧ m_vr ρ z v := by
      intro g1 g2
      rw [hl, g2, if_pos g1]
      refine ⟨by simp [e1], fun i z h => ?_⟩
      match i, h with
      | 0, h =>
        have : x = z := by simpa [m_ld] using h
        subst this
        exact ⟨w, by simp, h1⟩
      | 1, h => simp [m_ld] at h
      | i + 2, h =>
        obtain ⟨v, v1, v2⟩ := e2 i z (by simpa [m_ld] using h)
        exact ⟨v, by simpa using v1, v2⟩
    rcases x with a | a | a
    · exact go1 hc rfl
    · exact go2 hc rfl
    · exact go1 hc rfl
/-- the locals at a method's start -/
def m_L0 (nL : Nat) (avs : List mV) : List (Option mV) := m_args avs ++ List.replicate (nL - (m_args avs).length) none
theorem m_ent_lr {ρ : Nat → Nat → Option Nat} {avs : List mV} {ws : List Value} {nL : Nat} (h : m_sr ρ avs ws) (hn : (m_args avs).length ≤ nL) : m_lr ρ ((lg_sl ws ++ List.replicate (nL - (lg_sl ws).length) Slot.unset).toArray) (m_L0 nL avs) := by
  obtain ⟨e1, e2⟩ := m_ent h
  obtain ⟨g1, g2, -⟩ := lv_entry ws (n := nL) (by rw [e1]; exact hn)
  refine ⟨by rw [g1]; simp [m_L0]; omega, g2, fun i x hx => ?_⟩
  have hi : i < (m_args avs).length ∧ m_ld (m_args avs) i = some x := by
    unfold m_ld m_L0 at hx
    by_cases hlt : i < (m_args avs).length
    · rw [List.getElem?_append_left hlt] at hx
      exact ⟨hlt, hx⟩
    · rw [List.getElem?_append_right (by omega)] at hx
      by_cases h3 : i - (m_args avs).length < nL - (m_args avs).length
      · rw [List.getElem?_replicate, if_pos h3] at hx
        cases hx
      · rw [List.getElem?_replicate, if_neg h3] at hx
        cases hx
  obtain ⟨v, v1, v2⟩ := e2 i x hi.2
  refine ⟨v, ?_, v2⟩
  rw [List.getElem?_toArray, List.getElem?_append_left (by rw [e1]; exact hi.1)]
  exact v1
theorem m_con_of {l : Launch} (hl : l.stackTraces = false) {y : MethodName} {cc : ByteArray} {maxL mc ms : Nat} {ret : Option FieldType} {rm : Room} {avs : List mV} {σ : mS} {Q : mX → mS → Prop} (hy : plainName y.cls = true) (hn : (m_args avs).length ≤ maxL)
    (body : ∀ (p : Program) (e : Env) (s : State) (m : MethodId) (args : Array Value) (below : List Frame) (meth : Method) (cd : Code) (D : va_G) (ty : List (ClassId × FieldType)) (xs : Option (Nat × (Nat → Int32))) (A : Nat → Prop) (ρ0 : Nat → Nat → Option Nat),
      m_C p l s m args meth cd cc y.cls maxL D ty A → (∀ x ∈ cd.exceptionTable.toList, False) → meth.sig.returnType = ret → meth.name = y.name →
      m_J p l e rm s m args below meth cd (vx_MQ below (m_Qc D ty xs A ρ0 Q) (m_XC D ty xs A ρ0 Q) args s mc ms A) A ρ0 (m_X D ty s xs) 0 (m_L0 maxL avs) [] σ 0 0) : m_Con l y (m_W y cc maxL ret) rm mc ms avs σ Q := by
  intro D ty xs A ρ
  refine vx_ofW hy rfl (fun p e s m args below meth c s₁ B hml ht hP => ?_)
  obtain ⟨⟨ws, rfl, hsr⟩, hX, hE, hA1, hA2⟩ := hP
  have hts : ∀ w ∈ m_W y cc maxL ret, w.before ws.toArray s = true := atoms_spec (ws := m_W y cc maxL ret) B.pre
  have hJ := body p e s m ws.toArray below meth c D ty xs A ρ ⟨B.exec, B.bytes, findClass_of_methodNamed B.named, fun w hw => hts w (List.mem_cons_of_mem _ hw), hE, hA2, hml, B.notSynchronized, hl⟩ ht B.returns (name_of_methodNamed B.named B.method).1
  rw [lg_entry_eq]
  exact hJ ρ s.heap [] _ [] m_le.rf hX hA1 va_S.rf (m_ent_lr hsr hn) trivial
