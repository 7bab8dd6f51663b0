/-! main's run as the machine's -/
theorem m_con_ofX {l : Launch} (hl : l.stackTraces = false) {y : MethodName} {cc : ByteArray} {maxL mc ms : Nat} {ret : Option FieldType} {rm : Room} {avs : List mV} {σ : mS} {Q : mX → mS → Prop} {xs : Option (Nat × (Nat → Int32))} (hy : plainFor y = true) (hn : (m_args avs).length ≤ maxL)
    (body : ∀ (p : Program) (e : Env) (s : State) (m : MethodId) (args : Array Value) (below : List Frame) (meth : Method) (cd : Code) (D : va_G) (ty : List (ClassId × FieldType)) (A : Nat → Prop) (ρ0 : Nat → Nat → Option Nat),
      m_C p l s m args meth cd cc y.cls maxL D ty A → (∀ x ∈ cd.exceptionTable.toList, False) → meth.sig.returnType = ret → meth.name = y.name →
      m_J p l e rm s m args below meth cd (vx_MQ below (m_Qc D ty xs A ρ0 Q) (m_XC D ty xs A ρ0 Q) args s mc ms A) A ρ0 (m_X D ty s xs) 0 (m_L0 maxL avs) [] σ 0 0) : m_ConX l xs y (m_W y cc maxL ret) rm mc ms avs σ Q := by
  intro D ty A ρ
  refine vx_ofWF hy rfl (fun p e s m args below meth c s₁ B hml ht hP => ?_)
  obtain ⟨⟨ws, rfl, hsr⟩, hX, hE, hA1, hA2⟩ := hP
  have hts : ∀ w ∈ m_W y cc maxL ret, w.before ws.toArray s = true := atoms_spec (ws := m_W y cc maxL ret) B.pre
  have hJ := body p e s m ws.toArray below meth c D ty A ρ ⟨B.exec, B.bytes, findClass_of_methodNamed B.named, fun w hw => hts w (List.mem_cons_of_mem _ hw), hE, hA2, hml, B.notSynchronized, hl⟩ ht B.returns (name_of_methodNamed B.named B.method).1
  rw [lg_entry_eq]
  exact hJ ρ s.heap [] _ [] m_le.rf hX hA1 va_S.rf (m_ent_lr hsr hn) trivial
theorem ev_r_JX {CC : Nat → List mV → mS → (mX → mS → Prop) → Prop} {xs : ab_X} {Gd : ev_G} {C : ec_C} {j : Nat} {z : mAl} {q : mX × mS} {Q : mX → mS → Prop} {J : Nat → List (Option mV) → List mV → mS → Nat → Nat → Prop} (hJ : ev_cl sm_all CC j z xs Q J) (IH : ∀ j avs σ x σ' (Q : mX → mS → Prop), C j avs σ = some (x, σ') → Q x σ' → CC j avs σ Q) (hQ : Q q.1 q.2) : ∀ (f : Nat) (s : ev_T), ev_r xs Gd C j z f s = some q → J s.1 s.2.1 s.2.2.1 s.2.2.2.1 s.2.2.2.2.1 s.2.2.2.2.2
  | 0, _, h => by cases h
  | f + 1, s, h => by
    obtain ⟨-, o, h2, h3⟩ := ev_r_succ.mp h
    refine hJ _ _ _ _ _ _ trivial (ev_nf_ok.mpr ⟨o, h2, ?_⟩)
    rcases o with s' | e | c
    · exact ev_r_JX hJ IH hQ f s' h3
    · have e1 : e = q := h3
      subst e1
      exact hQ
    · obtain ⟨x, σ', g1, g2⟩ := h3
      refine IH _ _ _ _ _ _ g1 ?_
      cases x with
      | inl v => exact ev_r_JX hJ IH hQ f _ g2
      | inr x =>
        show ab_TT z Q J s.1 s.2.1 σ' _ _ x
        unfold ab_TT
        dsimp only at g2
        cases hh : z.1.2.2.2.2.2 with
        | nil =>
          rw [hh] at g2
          have e1 := g2.2
          subst e1
          exact ⟨g2.1.1, g2.1.2, hQ⟩
        | cons w ws =>
          rw [hh] at g2
          obtain ⟨s', k1, k2⟩ := g2
          exact ev_hd_J.mpr ⟨s', k1, ev_r_JX hJ IH hQ f s' k2⟩
def n_ConX (l : Launch) (xs : ab_X) (j : Nat) (avs : List mV) (σ : mS) (Q : mX → mS → Prop) : Prop := ∀ y, m_mt[j]? = some y → m_ConX l xs y.1 (m_ws y) y.2.2.2.2.1 y.2.2.2.2.1.cells y.2.2.2.2.1.slots avs σ Q
theorem n_con171 {l : Launch} (hl : l.stackTraces = false) {xs : ab_X} {avs : List mV} {σ : mS} {q : mX × mS} {Q : mX → mS → Prop} (hn : (m_args avs).length ≤ 4) (hr : gx xs (fun _ _ _ => none) 171 z171 (0, m_L0 4 avs, [], σ, 0, 0) q) (hQ : Q q.1 q.2) : n_ConX l xs 171 avs σ Q := by
  intro y hy
  have e2 : y = z171.1 := Option.some.inj (hy.symm.trans (m_alF_at z171_at))
  subst e2
  obtain ⟨k1, k2, k3⟩ := m_alF_ok z171 (List.mem_of_getElem? z171_at)
  refine m_con_ofX hl k3 hn (fun p e s m args below meth cd D ty A ρ0 C hex hrt hnm => ?_)
  obtain ⟨f, h⟩ := hr
  refine ev_r_J (l := l) (q := q) (z := z171) (xs := xs) (Q := Q) (fun pc L st σ k n h => ?_) (fun j avs σ x σ' Q h _ => by cases h) hQ f _ h
  exact m_go C (fun _ => hex) hrt (fun z => hnm.trans (k2 z)) (fun j y avs σ Q hy h => h y hy) k1 h (fun pc L σ k n x hT => m_jx_out (fun x h => (hex x h).elim) C.2.2.2.2.2.2.2.1 hT.1 hT.2.1 hT.2.2) (fun _ _ _ _ _ _ h => h)
/-- the calls of main have their contracts -/
theorem n_Cf_con {l : Launch} (hl : l.stackTraces = false) {xs : ab_X} {j : Nat} {avs : List mV} {σ : mS} {x : mX} {σ' : mS} {Q : mX → mS → Prop} (h : n_Cf xs j avs σ = some (x, σ')) (hQ : Q x σ') : n_ConX l xs j avs σ Q := by
  have run : ∀ {j : Nat}, ev_run sm_all j avs σ x σ' → n_ConX l xs j avs σ Q := fun r y hy => m_ConX_of (ev_run_con hl r hQ y hy)
  rcases n_Cf_R h with ⟨rfl, ⟨k, n, ea, _, _⟩, r⟩ | ⟨rfl, r, _⟩ | ⟨_, _, r⟩
  · subst ea
    exact n_con171 hl (Nat.le_of_ble_eq_true rfl) r hQ
  · exact run r
  · exact run r
