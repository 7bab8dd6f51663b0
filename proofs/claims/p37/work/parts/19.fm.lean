/-! a method of the JDK's own that is as its code says; all methods, floorMod too -/
section VFM
variable {p : Program} {l : Launch}
theorem vx_ofWF {y : MethodName} {ws ws' : List Cond} {rm : Room} {Pc : Array Value → State → Prop} {Qc : Array Value → State → Outcome → State → Prop} {XC : String → State → State → Prop} {mc ms : Nat} {free : Addr → Prop} {cc : ByteArray} {maxL : Nat} {ret : Option FieldType}
    (hy : plainFor y = true) (hw : ws = Cond.code y cc maxL ret :: ws')
    (body : ∀ p e s m args below meth c s₁, BodyLoose p l y (headSpec ws rm) cc maxL ret e s m args below meth c s₁ → c.maxLocals = maxL → (∀ x ∈ c.exceptionTable.toList, False) → Pc args s →
      W p l e (headSpec ws rm).room s m args below meth c s.heap [] 0 0 (vx_MQ below Qc XC args s mc ms free) (entryFrame m args maxL)) : vx_Met l y ws rm Pc Qc XC mc ms free := by
  refine MetFree.of_bodySF (code := cc) (maxLocals := maxL) (ret := ret) hy ?_ ?_
  · intro args s m h hn
    obtain ⟨meth, c, h1, h2, h3, h4, h5, h6, -, -⟩ := Cond.code_spec hn (atoms_spec (ws := ws) h _ (by rw [hw]; exact List.mem_cons_self))
    exact ⟨meth, c, h1, h2, h3, h4, h5, h6⟩
  · intro p e s m args below meth c s₁ B hml hP _
    have hh0 : s₁.heap = s.heap := by rw [B.state]; rfl
    have ht : ∀ x ∈ c.exceptionTable.toList, False := by
      obtain ⟨meth9, c9, h1, h2, -, -, -, -, h7, -⟩ := Cond.code_spec B.named (atoms_spec (ws := ws) B.pre _ (by rw [hw]; exact List.mem_cons_self))
      cases Option.some.inj (h1.symm.trans B.method)
      cases Option.some.inj (h2.symm.trans (Stand.of_body B).code)
      intro x hx
      rw [Array.isEmpty_iff.mp h7] at hx
      cases hx
    obtain ⟨t, a1, o, b1, b2, b3⟩ := body p e s m args below meth c s₁ B hml ht hP s₁ hh0 (Stand.of_body B)
    exact ⟨t, o, a1, b1, b2, b3⟩
end VFM
theorem m_con_ofF {l : Launch} (hl : l.stackTraces = false) {y : MethodName} {cc : ByteArray} {maxL mc ms : Nat} {ret : Option FieldType} {rm : Room} {avs : List mV} {σ : mS} {Q : mX → mS → Prop} (hy : plainFor y = true) (hn : (m_args avs).length ≤ maxL)
    (body : ∀ (p : Program) (e : Env) (s : State) (m : MethodId) (args : Array Value) (below : List Frame) (meth : Method) (cd : Code) (D : va_G) (ty : List (ClassId × FieldType)) (xs : Option (Nat × (Nat → Int32))) (A : Nat → Prop) (ρ0 : Nat → Nat → Option Nat),
      m_C p l s m args meth cd cc y.cls maxL D ty A → (∀ x ∈ cd.exceptionTable.toList, False) → meth.sig.returnType = ret → meth.name = y.name →
      m_J p l e rm s m args below meth cd (vx_MQ below (m_Qc D ty xs A ρ0 Q) (m_XC D ty xs A ρ0 Q) args s mc ms A) A ρ0 (m_X D ty s xs) 0 (m_L0 maxL avs) [] σ 0 0) : m_Con l y (m_W y cc maxL ret) rm mc ms avs σ Q := by
  intro D ty xs A ρ
  refine vx_ofWF hy rfl (fun p e s m args below meth c s₁ B hml ht hP => ?_)
  obtain ⟨⟨ws, rfl, hsr⟩, hX, hE, hA1, hA2⟩ := hP
  have hts : ∀ w ∈ m_W y cc maxL ret, w.before ws.toArray s = true := atoms_spec (ws := m_W y cc maxL ret) B.pre
  have hJ := body p e s m ws.toArray below meth c D ty xs A ρ ⟨B.exec, B.bytes, findClass_of_methodNamed B.named, fun w hw => hts w (List.mem_cons_of_mem _ hw), hE, hA2, hml, B.notSynchronized, hl⟩ ht B.returns (name_of_methodNamed B.named B.method).1
  rw [lg_entry_eq]
  exact hJ ρ s.heap [] _ [] m_le.rf hX hA1 va_S.rf (m_ent_lr hsr hn) trivial
theorem m_con_goF {l : Launch} (hl : l.stackTraces = false) {mt : List mMt} {CC : Nat → List mV → mS → (mX → mS → Prop) → Prop} (hCC : ∀ j y avs σ Q, mt[j]? = some y → CC j avs σ Q → m_Con l y.1 (m_ws y) y.2.2.2.2.1 y.2.2.2.2.1.cells y.2.2.2.2.1.slots avs σ Q) {y : MethodName} {cc : ByteArray} {maxL mc ms : Nat} {ret : Option FieldType} {rm : Room} {avs : List mV} {σ : mS} {Q : mX → mS → Prop} {rows : List (Nat × mRow)} {ini : Bool} (hok : ∀ q ∈ rows, m_rowB mt y.cls ini cc rm q = true) (hy : plainFor y = true) (hn : (m_args avs).length ≤ maxL) (hini : ini = true → y.name = "<init>")
    (body : ∀ (J : Nat → List (Option mV) → List mV → mS → Nat → Nat → Prop),
      (∀ (pc : Nat) (L : List (Option mV)) (st : List mV) (σ : mS) (k n : Nat), m_step mt CC ret rm maxL rows mc ms Q none (m_T Q mc ms) J pc L st σ k n → J pc L st σ k n) → J 0 (m_L0 maxL avs) [] σ 0 0) : m_Con l y (m_W y cc maxL ret) rm mc ms avs σ Q :=
  m_con_ofF hl hy hn (fun p e s m args below meth cd D ty xs A ρ0 C hex hrt hnm => body (m_J p l e rm s m args below meth cd (vx_MQ below (m_Qc D ty xs A ρ0 Q) (m_XC D ty xs A ρ0 Q) args s mc ms A) A ρ0 (m_X D ty s xs))
    (fun pc L st σ k n h => m_go C (fun _ => hex) hrt (fun z => hnm.trans (hini z)) hCC hok (m_step_none h) (fun pc L σ k n x hT => m_jx_out (fun x h => (hex x h).elim) C.2.2.2.2.2.2.2.1 hT.1 hT.2.1 hT.2.2) (fun _ _ _ _ _ _ h => h)))
def m_alF : List mAl := m_al ++ [((m_yfm, prog_19_method_50_code, 3, some .int, { frames := 0, cells := 0, slots := 0, locals := 0 }, []), rw_fm, false)]
def m_okF (z : mAl) : Prop := (∀ q ∈ z.2.1, m_rowB m_mt z.1.1.cls z.2.2 z.1.2.1 z.1.2.2.2.2.1 q = true) ∧ (z.2.2 = true → z.1.1.name = "<init>") ∧ plainFor z.1.1 = true
theorem m_alF_ok : ∀ z ∈ m_alF, m_okF z := by
  intro z hz
  rcases List.mem_append.mp hz with hz | hz
  · obtain ⟨h1, h2, h3⟩ := m_al_ok z hz
    exact ⟨h1, h2, plainFor_of_name h3⟩
  · have e := List.mem_singleton.mp hz
    subst e
    exact ⟨ok_fm, (fun h => by cases h), by decide +kernel⟩
theorem m_alF_mt : m_alF.map (fun z => z.1) = m_mt := by
  unfold m_alF
  rw [List.map_append]
  exact m_al_mt
theorem m_alF_at {j : Nat} {z : mAl} (h : m_alF[j]? = some z) : m_mt[j]? = some z.1 := by
  rw [← m_alF_mt, List.getElem?_map, h]; rfl
theorem m_alF_hh : ∀ z ∈ m_alF, z.1.2.2.2.2.2 ≠ [] → z.1.1.cls = RL ∧ z.2.2 = false ∧ m_hok z.1.2.2.2.2.2 = true := by
  have h : m_alF.all (fun z => z.1.2.2.2.2.2.isEmpty || (decide (z.1.1.cls = RL) && (!z.2.2 && m_hok z.1.2.2.2.2.2))) = true := by decide +kernel
  intro z hz hne
  have g := List.all_eq_true.mp h z hz
  rcases (Bool.or_eq_true _ _).mp g with g | g
  · exact absurd (List.isEmpty_iff.mp g) hne
  · rw [Bool.and_eq_true, Bool.and_eq_true, decide_eq_true_eq, Bool.not_eq_true'] at g
    exact g
