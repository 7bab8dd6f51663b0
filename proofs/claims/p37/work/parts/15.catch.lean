/-! the law's own methods: a handler takes what a call throws -/
/-- which exception a handler of the law takes, by its pool entry -/
def m_hdx (i : Nat) : Nat := match i with
  | 94 => 0
  | 98 => 1
  | 102 => 2
  | _ => 9
def m_hnd : List (Nat × Nat × Nat × Nat) → Nat → Nat → Option Nat
  | [], _, _ => none
  | q :: t, pc, x => bif Nat.ble q.1 pc && Nat.blt pc q.2.1 && Nat.beq (m_hdx q.2.2.2) x then some q.2.2.1 else m_hnd t pc x
def m_TH (hh : List (Nat × Nat × Nat × Nat)) (rows : List (Nat × mRow)) (K : Nat → List (Option mV) → List mV → mS → Nat → Nat → Prop) : Nat → List (Option mV) → mS → Nat → Nat → Nat → Prop := fun pc L σ k n x => match m_hnd hh pc x with
  | some h => match m_at rows h with
    | some r => match r.1 with
      | .astore j => j < L.length ∧ K (h + 2) ((m_clr L j).set j none) [] σ k n
      | .astore_n j => (j : Nat) < L.length ∧ K (h + 1) ((m_clr L j).set j none) [] σ k n
      | _ => False
    | none => False
  | none => False
theorem m_stoN_ok {ρ : Nat → Nat → Option Nat} {ls ls' : Array Slot} {L : List (Option mV)} {i : Nat} {w : Value} (h : m_lr ρ ls L)
    (h' : lv_has ls' L.length ((i, w) :: (m_all ls).filter (fun q => !(q.1 == i) && !(q.1 + 1 == i && q.2.category == 2)))) : m_lr ρ ls' ((m_clr L i).set i none) := by
  obtain ⟨s1, s2, s3⟩ := h'
  refine ⟨by rw [List.length_set, m_clr_len]; exact s1, s2, fun j y hy => ?_⟩
  rcases m_ld_set hy with ⟨-, e2⟩ | ⟨e1, e2⟩
  · cases e2
  · obtain ⟨e3, e4⟩ := m_ld_clr e2
    obtain ⟨w', g1, g2⟩ := h.2.2 j y e3
    refine ⟨w', s3 (j, w') (List.mem_cons_of_mem _ (List.mem_filter.mpr ⟨m_all_mem.mpr g1, ?_⟩)), g2⟩
    simp only [Bool.and_eq_true, Bool.not_eq_true', beq_eq_false_iff_ne, ne_eq, Bool.and_eq_false_iff]
    refine ⟨e1, ?_⟩
    by_cases z : j + 1 = i
    · exact Or.inr (fun q => e4 ⟨z, m_vr_cat g2 q⟩)
    · exact Or.inl z
/-- the rows of a law's table, by what they take -/
def m_hok (hh : List (Nat × Nat × Nat × Nat)) : Bool := hh.all (fun q => Nat.blt (m_hdx q.2.2.2) 3 && m_BIG.contains (.classLink RL q.2.2.2 (m_xn (m_hdx q.2.2.2))))
section MCT
variable {p : Program} {l : Launch} {e : Env} {R : Room} {s : State} {m : MethodId} {args : Array Value} {below : List Frame} {meth : Method} {cd : Code} {Qt : State → Prop} {A : Nat → Prop} {ρ0 : Nat → Nat → Option Nat} {cc : ByteArray} {own : String} {D : va_G} {ty : List (ClassId × FieldType)} {xs : Option (Nat × (Nat → Int32))} {nL : Nat}
variable {pc k n mc ms : Nat} {L : List (Option mV)} {st : List mV} {σ : mS} {Q : mX → mS → Prop}
theorem m_hnd_split : ∀ {hh : List (Nat × Nat × Nat × Nat)} {pc x h : Nat}, m_hok hh = true → m_hnd hh pc x = some h → ∃ (pre suf : List (Nat × Nat × Nat × Nat)) (q : Nat × Nat × Nat × Nat), hh = pre ++ q :: suf ∧ q.2.2.1 = h ∧ (q.1 ≤ pc ∧ pc < q.2.1) ∧ m_hdx q.2.2.2 = x ∧ (∀ z ∈ pre, m_hdx z.2.2.2 ≠ x ∨ ¬ (z.1 ≤ pc ∧ pc < z.2.1))
  | [], _, _, _, _, h => by cases h
  | q :: t, pc, x, h, hk, hh => by
    unfold m_hnd at hh
    cases hb : (Nat.ble q.1 pc && Nat.blt pc q.2.1 && Nat.beq (m_hdx q.2.2.2) x) with
    | true =>
      rw [hb] at hh
      have h9 : q.2.2.1 = h := Option.some.inj hh
      simp only [Bool.and_eq_true, Nat.ble_eq, Nat.blt_eq] at hb
      exact ⟨[], t, q, rfl, h9, hb.1, Nat.eq_of_beq_eq_true hb.2, fun _ z => by cases z⟩
    | false =>
      rw [hb] at hh
      have hk' : m_hok t = true := by
        unfold m_hok at hk ⊢
        rw [List.all_cons, Bool.and_eq_true] at hk
        exact hk.2
      obtain ⟨pre, suf, q', e1, e2, e3, e4, e5⟩ := m_hnd_split hk' (show m_hnd t pc x = some h from hh)
      refine ⟨q :: pre, suf, q', by rw [e1]; rfl, e2, e3, e4, fun z hz => ?_⟩
      rcases List.mem_cons.mp hz with rfl | hz
      · by_cases h1 : m_hdx z.2.2.2 = x
        · refine Or.inr (fun h2 => ?_)
          have : (Nat.ble z.1 pc && Nat.blt pc z.2.1 && Nat.beq (m_hdx z.2.2.2) x) = true := by
            simp only [Bool.and_eq_true, Nat.ble_eq, Nat.blt_eq]
            exact ⟨h2, by rw [h1]; exact Nat.beq_refl x⟩
          rw [hb] at this
          cases this
        · exact Or.inl h1
      · exact e5 z hz
end MCT
section MCU
variable {p : Program} {l : Launch} {e : Env} {R : Room} {s : State} {m : MethodId} {args : Array Value} {below : List Frame} {meth : Method} {cd : Code} {Qt : State → Prop} {A : Nat → Prop} {ρ0 : Nat → Nat → Option Nat} {cc : ByteArray} {D : va_G} {ty : List (ClassId × FieldType)} {xs : Option (Nat × (Nat → Int32))} {nL : Nat}
variable {pc k n mc ms : Nat} {L : List (Option mV)} {st : List mV} {σ : mS} {Q : mX → mS → Prop} {mt : List mMt} {rows : List (Nat × mRow)}
theorem m_hok_at {hh : List (Nat × Nat × Nat × Nat)} (h : m_hok hh = true) {q : Nat × Nat × Nat × Nat} (hq : q ∈ hh) : m_hdx q.2.2.2 < 3 ∧ Cond.classLink RL q.2.2.2 (m_xn (m_hdx q.2.2.2)) ∈ m_BIG := by
  have h1 := List.all_eq_true.mp h q hq
  rw [Bool.and_eq_true, Nat.blt_eq] at h1
  exact ⟨h1.1, List.contains_iff_mem.mp h1.2⟩
theorem m_jx_TH (C : m_C p l s m args meth cd cc RL nL D ty A) {hh : List (Nat × Nat × Nat × Nat)} (htab : cd.exceptionTable.toList = tableOf hh) (hk : m_hok hh = true) (hcast : ∀ x, x < 3 → Cond.castable (m_xn x) (m_xn x) ∈ m_ODD) (hok : ∀ q ∈ rows, m_rowB mt RL false cc R q = true) {K : Nat → List (Option mV) → List mV → mS → Nat → Nat → Prop} {x : Nat} (h : m_TH hh rows K pc L σ k n x)
    (hK : ∀ pc L st σ k n, K pc L st σ k n → m_J p l e R s m args below meth cd Qt A ρ0 (m_X D ty s xs) pc L st σ k n) : m_JX p l e R s m args below meth cd Qt A ρ0 (m_X D ty s xs) pc L σ k n x := by
  obtain ⟨hx, hb, hown, HB, HE, hA, hml, hlk, hl0⟩ := C
  intro ρ H locs ls sw q ce h1 h2 h3 h4 h5 h6 h7 h8
  unfold m_TH at h
  cases hh1 : m_hnd hh pc x with
  | none => rw [hh1] at h; exact h.elim
  | some hp =>
  rw [hh1] at h
  dsimp only at h
  cases hr : m_at rows hp with
  | none => rw [hr] at h; exact h.elim
  | some r =>
  rw [hr] at h
  dsimp only at h
  have hrow := hok (hp, r) (m_at_mem hr)
  obtain ⟨ig, ln, ra, rb, rz, rp⟩ := r
  unfold m_rowB at hrow
  rw [Bool.and_eq_true] at hrow
  have hd : decode cc hp = .ok (ig, m_len (ig, ln, ra, rb, rz, rp)) := of_decide_eq_true hrow.1
  obtain ⟨pre, suf, z, e1, e2, e3, e4, e5⟩ := m_hnd_split hk hh1
  have hz : z ∈ hh := by rw [e1]; exact List.mem_append_right _ List.mem_cons_self
  obtain ⟨z1, z2⟩ := m_hok_at hk hz
  have hsplit : cd.exceptionTable.toList = tableOf pre ++ (⟨z.1, z.2.1, z.2.2.1, z.2.2.2⟩ : ExceptionTableEntry) :: tableOf suf := by rw [htab, e1]; simp [tableOf]
  have hx3 : x < 3 := by rw [← e4]; exact z1
  have go : ∀ (kk : W p l e R s m args below meth cd H locs k n Qt (F0 m hp ls [.ref q])), vx_W p l e R s m args below meth cd H locs k n Qt (F0 m pc ls sw) q := by
    intro kk
    refine vx_catch (own := RL) (name := m_xn x) (E := m_xn x) hown (tableOf pre) ⟨z.1, z.2.1, z.2.2.1, z.2.2.2⟩ (tableOf suf) hsplit ?_ ?_ ?_ ?_ ?_ h6 h7 h8 ?_
    · intro w hw
      obtain ⟨w0, hw0, rfl⟩ := List.mem_map.mp hw
      have hw1 : w0 ∈ hh := by rw [e1]; exact List.mem_append_left _ hw0
      obtain ⟨w2, w3⟩ := m_hok_at hk hw1
      rcases e5 w0 hw0 with e6 | e6
      · refine Or.inr ⟨?_, _, HB _ w3, HE.2.2.2.2.2.2 _ _ hx3 w2 (fun z => e6 z.symm)⟩
        intro h0
        have h0' : w0.2.2.2 = 0 := h0
        rw [h0'] at w2
        exact absurd w2 (by decide)
      · refine Or.inl ?_
        show covers ⟨w0.1, w0.2.1, w0.2.2.1, w0.2.2.2⟩ pc = false
        unfold covers
        simp only [Bool.and_eq_false_iff, decide_eq_false_iff_not]
        by_cases g1 : w0.1 ≤ pc
        · exact Or.inr (fun g2 => e6 ⟨g1, g2⟩)
        · exact Or.inl g1
    · show covers ⟨z.1, z.2.1, z.2.2.1, z.2.2.2⟩ pc = true
      unfold covers
      simp only [Bool.and_eq_true, decide_eq_true_eq]
      exact e3
    · intro h0
      have h0' : z.2.2.2 = 0 := h0
      rw [h0'] at z1
      exact absurd z1 (by decide)
    · rw [← e4]; exact HB _ z2
    · exact va_Nw.use rfl (HE.2.2.1 _ (hcast x hx3))
    · show W p l e R s m args below meth cd H locs k n Qt (F0 m z.2.2.1 ls [.ref q])
      rw [e2]; exact kk
  dsimp only at h
  split at h
  · obtain ⟨hj, h⟩ := h
    exact go (lv_astore hx hb hd (m_all_has h5) hj rfl (fun ls' hl => hK _ _ _ _ _ _ h ρ H locs ls' [] h1 h2 h3 h4 (m_stoN_ok h5 hl) trivial))
  · obtain ⟨hj, h⟩ := h
    exact go (lv_astore_n hx hb hd rfl (m_all_has h5) hj rfl (fun ls' hl => hK _ _ _ _ _ _ h ρ H locs ls' [] h1 h2 h3 h4 (m_stoN_ok h5 hl) trivial))
  · exact h.elim
end MCU
/-- a contract of one of the law's own methods, by steps -/
theorem m_con_goH {l : Launch} (hl : l.stackTraces = false) {mt : List mMt} {CC : Nat → List mV → mS → (mX → mS → Prop) → Prop} (hCC : ∀ j y avs σ Q, mt[j]? = some y → CC j avs σ Q → m_Con l y.1 (m_ws y) y.2.2.2.2.1 y.2.2.2.2.1.cells y.2.2.2.2.1.slots avs σ Q) {nm ds : String} {cc : ByteArray} {maxL mc ms : Nat} {ret : Option FieldType} {rm : Room} {avs : List mV} {σ : mS} {Q : mX → mS → Prop} {rows : List (Nat × mRow)} {hh : List (Nat × Nat × Nat × Nat)} (hk : m_hok hh = true) (hcast : ∀ x, x < 3 → Cond.castable (m_xn x) (m_xn x) ∈ m_ODD) (hok : ∀ q ∈ rows, m_rowB mt RL false cc rm q = true) (hn : (m_args avs).length ≤ maxL)
    (body : ∀ (J : Nat → List (Option mV) → List mV → mS → Nat → Nat → Prop),
      (∀ (cuts : List Nat) (f pc : Nat) (L : List (Option mV)) (st : List mV) (σ : mS) (k n : Nat), m_step mt CC ret rm maxL rows mc ms Q none (m_TH hh rows J) (m_run mt CC ret rm maxL rows mc ms Q none (m_TH hh rows J) J cuts f) pc L st σ k n → J pc L st σ k n) → J 0 (m_L0 maxL avs) [] σ 0 0) : m_Con l ⟨RL, nm, ds⟩ (Cond.codeWith ⟨RL, nm, ds⟩ cc maxL ret hh :: m_BIG) rm mc ms avs σ Q := by
  intro D ty xs A ρ
  refine vx_ofWH (show plainName RL = true by decide +kernel) rfl (fun p e s m args below meth c s₁ B hml hP => ?_)
  obtain ⟨⟨ws, rfl, hsr⟩, hX, hE, hA1, hA2⟩ := hP
  have hts : ∀ w ∈ (Cond.codeWith ⟨RL, nm, ds⟩ cc maxL ret hh :: m_BIG), w.before ws.toArray s = true := atoms_spec (ws := Cond.codeWith ⟨RL, nm, ds⟩ cc maxL ret hh :: m_BIG) B.pre
  have htab := vx_table (x := ⟨RL, nm, ds⟩) B (hts _ List.mem_cons_self)
  have C : m_C p l s m ws.toArray meth c cc RL maxL D ty A := ⟨B.exec, B.bytes, findClass_of_methodNamed B.named, fun w hw => hts w (List.mem_cons_of_mem _ hw), hE, hA2, hml, B.notSynchronized, hl⟩
  have hJ := body (m_J p l e rm s m ws.toArray below meth c (vx_MQ below (m_Qc D ty xs A ρ Q) (m_XC D ty xs A ρ Q) ws.toArray s mc ms A) A ρ (m_X D ty s xs))
    (fun cuts f pc L st σ k n h => m_go C (fun z => absurd z (by decide +kernel)) B.returns (ini := false) (fun z => by cases z) hCC hok (m_step_none h) (fun pc L σ k n x hT => m_jx_TH C htab hk hcast hok hT (fun _ _ _ _ _ _ h => h)) (m_goes C (fun z => absurd z (by decide +kernel)) B.returns (ini := false) (fun z => by cases z) hCC hok (fun pc L σ k n x hT => m_jx_TH C htab hk hcast hok hT (fun _ _ _ _ _ _ h => h)) (fun _ _ _ _ _ _ h => h) f))
  rw [lg_entry_eq]
  exact hJ ρ s.heap [] _ [] m_le.rf hX hA1 va_S.rf (m_ent_lr hsr hn) trivial
theorem m_cast_ok : ∀ x, x < 3 → Cond.castable (m_xn x) (m_xn x) ∈ m_ODD := by
  have h : (List.range 3).all (fun x => lw_tbl.contains (.castable (m_xn x) (m_xn x))) = true := by decide +kernel
  intro x hx
  exact List.mem_filter.mpr ⟨List.contains_iff_mem.mp (List.all_eq_true.mp h x (List.mem_range.mpr hx)), rfl⟩
