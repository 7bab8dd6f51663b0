/-! the relation of both halls, and what is asked ahead of a step -/
/-- a class of which one thing is under way, whether it is counted, its fields that aren't written yet -/
abbrev sm_M : Type := Option (Nat × Bool × List Nat)
def sm_wf (l : List (Nat × Nat)) (pc : Nat) : List Nat := (l.filter (fun q => Nat.ble pc q.2)).map (fun q => q.1)
def sm_w4 : List (Nat × Nat) := [(1, 45), (2, 51), (3, 57), (4, 64), (5, 70), (6, 77), (7, 83), (8, 89), (9, 95), (10, 101), (11, 107), (12, 113)]
def sm_w31 : List (Nat × Nat) := [(0, 35), (1, 40), (2, 45)]
def sm_w32 : List (Nat × Nat) := [(0, 73), (1, 79), (2, 85), (3, 92), (4, 99), (5, 108), (6, 117), (9, 123), (7, 185), (8, 203)]
def sm_md (j pc : Nat) : sm_M :=
  bif Nat.beq j 4 then (bif Nat.blt 29 pc then some (7, Nat.blt 39 pc, sm_wf sm_w4 pc) else none) else
  bif Nat.beq j 31 then (bif Nat.blt 28 pc then some (13, Nat.blt 53 pc, sm_wf sm_w31 pc) else none) else
  bif Nat.beq j 32 then (bif Nat.blt 54 pc then some (10, Nat.blt 64 pc, sm_wf sm_w32 pc) else none) else none
def sm_sp (j : Nat) : Bool := Nat.beq j 4 || (Nat.beq j 31 || Nat.beq j 32)
theorem sm_md_n {j pc : Nat} (h : sm_sp j = false) : sm_md j pc = none := by
  unfold sm_sp at h
  simp only [Bool.or_eq_false_iff] at h
  unfold sm_md
  rw [h.1, h.2.1, h.2.2]
  rfl
theorem sm_md_0 {j : Nat} : sm_md j 0 = none := by
  unfold sm_md
  cases Nat.beq j 4 <;> cases Nat.beq j 31 <;> cases Nat.beq j 32 <;> rfl
/-- methods that look at no trade -/
def sm_NT (j : Nat) : Bool := Nat.beq j 95 || (Nat.beq j 91 || Nat.beq j 114)
/-- where the count of a class stands -/
def sm_ca (c : Nat) : Nat × Nat := match c with
  | 10 => (2, 5)
  | 13 => (2, 6)
  | _ => (0, 1)
def sm_toI (x : mV) : Int := match x with
  | .inl v => v.toInt
  | _ => 0
def sm_cn (σ : mS) (c : Nat) : Int := sm_toI (m_get σ (sm_ca c).1 0 (sm_ca c).2)
def sm_cl (c : Nat) : Prop := c = 7 ∨ c = 10 ∨ c = 13
def sm_in (σ : mS) (c i : Nat) : Prop := i < sm_mx c ∨ (c = 1 ∧ i < σ.1 1)
def sm_x (m : sm_M) (c : Nat) : Int := match m with
  | some z => bif Nat.beq c z.1 && !z.2.1 then 1 else 0
  | none => 0
/-- references that may be about -/
def sm_gd (m : sm_M) (σ : mS) (q : Nat × Nat) : Prop := sm_in σ q.1 q.2 ∧ (sm_cl q.1 → (q.2 : Int) < sm_cn σ q.1 + sm_x m q.1)
/-- references that a field may hold -/
def sm_gh (σ : mS) (c k : Nat) (q : Nat × Nat) : Prop := sm_in σ q.1 q.2 ∧ q.1 ≠ 10 ∧ q.1 ≠ 13 ∧ (q.1 = 7 → (q.2 : Int) < sm_cn σ 7)
def sm_bit (b : Bool) : Int := bif b then 1 else 0
/-- cells of which nothing is known: of things that aren't counted, and what isn't written yet -/
def sm_de (m : sm_M) (n : Int) (c i k : Nat) : Prop := match m with
  | none => n ≤ (i : Int)
  | some z => if c = z.1 ∧ (i : Int) + sm_bit z.2.1 = n then k ∈ z.2.2 else n ≤ (i : Int)
def sm_dd (m : sm_M) (E : Nat → Nat → Prop) (σ : mS) (c i k : Nat) : Prop := (((c = 7 ∧ k ≠ 0) ∨ c = 10 ∨ c = 13) ∧ sm_de m (sm_cn σ c) c i k) ∨ (c = 10 ∧ E i k)
def sm_ce (σ : mS) (c i k : Nat) : Prop := sm_in σ c i ∧ (c ≠ 17 ∧ c ≠ 20 ∧ c ≠ 21) ∧ (c < 13 → k < m_nf c) ∧ (c = 1 → k < 8) ∧ (13 ≤ c → k < σ.2.1 c i)
def sm_ids (σ σ2 : mS) : Prop := (σ.2.1 17 0 = 120 ∧ σ.2.1 20 0 = 200 ∧ σ.2.1 21 0 = 4 ∧ ∀ i, i < 4 → σ.2.1 13 i = 3) ∧
  (∀ k, k < 120 → m_get σ 17 0 k = .inr (.inr (some (7, k))) ∧ m_get σ2 17 1 k = .inr (.inr (some (7, k + 120)))) ∧
  (∀ k, k < 200 → m_get σ 20 0 k = .inr (.inr (some (10, k))) ∧ m_get σ2 20 1 k = .inr (.inr (some (10, k + 200)))) ∧
  ∀ k, k < 4 → m_get σ 21 0 k = .inr (.inr (some (13, k))) ∧ m_get σ2 21 1 k = .inr (.inr (some (13, k + 18)))
def sm_hr (m : sm_M) (E : Nat → Nat → Prop) (σ σ2 : mS) : Prop :=
  (∀ c i k, sm_ce σ c i k → ¬ sm_dd m E σ c i k → m_get σ2 c (i + sm_off c) k = rn sm_ρ (m_get σ c i k) ∧ gV (sm_gh σ c k) (m_get σ c i k)) ∧
  (∀ c i, 13 ≤ c → i < sm_mx c → σ2.2.1 c (i + sm_off c) = σ.2.1 c i) ∧ sm_ids σ σ2
section SM3
variable {m m' : sm_M} {E : Nat → Nat → Prop} {σ σ' σ2 : mS} {c i k : Nat} {x : mV}
theorem sm_x0 : 0 ≤ sm_x m c := by
  unfold sm_x
  cases m with
  | none => exact Int.le_refl _
  | some z =>
    dsimp only
    cases (Nat.beq c z.1 && !z.2.1) with
    | true => exact (by decide : (0 : Int) ≤ 1)
    | false => exact Int.le_refl _
theorem sm_gd_none {q : Nat × Nat} (h : sm_gd none σ q) : sm_gd m σ q := ⟨h.1, fun hc => by
  have a := h.2 hc
  have b : sm_x (none : sm_M) q.1 = 0 := rfl
  have d := sm_x0 (m := m) (c := q.1)
  omega⟩
theorem sm_gh_gd {q : Nat × Nat} (h : sm_gh σ c k q) : sm_gd m σ q := by
  refine ⟨h.1, fun hc => ?_⟩
  have d := sm_x0 (m := m) (c := q.1)
  rcases hc with e | e | e
  · have a := h.2.2.2 e
    rw [e] at d ⊢
    omega
  · exact absurd e h.2.1
  · exact absurd e h.2.2.1
theorem sm_gh_mono (h1 : σ'.1 = σ.1) (h2 : ∀ c, sm_cn σ c ≤ sm_cn σ' c) {q : Nat × Nat} (h : sm_gh σ c k q) : sm_gh σ' c k q := by
  refine ⟨?_, h.2.1, h.2.2.1, fun e => ?_⟩
  · unfold sm_in
    rw [h1]
    exact h.1
  · have := h.2.2.2 e
    have := h2 7
    omega
theorem sm_gd_mono (h1 : σ'.1 = σ.1) (h2 : ∀ c, sm_cn σ c ≤ sm_cn σ' c) {q : Nat × Nat} (h : sm_gd m σ q) : sm_gd m σ' q := by
  refine ⟨?_, fun e => ?_⟩
  · unfold sm_in
    rw [h1]
    exact h.1
  · have := h.2 e
    have := h2 q.1
    omega
theorem m_tp_rn {t : Nat} {ρ : Nat × Nat → mR} (h : m_tp t x) : m_tp t (rn ρ x) := by
  rcases x with a | a | _ | q
  · exact h
  · exact h
  · exact h
  · exact h
theorem sm_cn_set {c' : Nat} (h : ¬ ((sm_ca c').1 = c ∧ 0 = i ∧ (sm_ca c').2 = k)) : sm_cn (m_set σ c i k x) c' = sm_cn σ c' := by
  unfold sm_cn
  rw [m_get_ne σ x h]
theorem sm_wr (h : sm_hr m E σ σ2) (hc : c ≠ 17 ∧ c ≠ 20 ∧ c ≠ 21) (hxs : m_tp (m_ty c k) x) (hg : gV (sm_gh (m_set σ c i k x) c k) x) (hcn : ∀ c', sm_cn σ c' ≤ sm_cn (m_set σ c i k x) c')
    (hdd : ∀ c' i' k', sm_ce σ c' i' k' → ¬ sm_dd m' E (m_set σ c i k x) c' i' k' → (c' = c ∧ i' = i ∧ k' = k) ∨ ¬ sm_dd m E σ c' i' k') : sm_hr m' E (m_set σ c i k x) (m_set σ2 c (i + sm_off c) k (rn sm_ρ x)) := by
  obtain ⟨h1, h2, h3, h4, h5, h6⟩ := h
  refine ⟨fun c' i' k' hce hd => ?_, fun c' i' a b => ?_, ?_, fun k' hk => ?_, fun k' hk => ?_, fun k' hk => ?_⟩
  · have hce' : sm_ce σ c' i' k' := by
      unfold sm_ce sm_in at hce ⊢
      rw [m_set_1, m_set_2] at hce
      exact hce
    by_cases e : c' = c ∧ i' = i ∧ k' = k
    · obtain ⟨rfl, rfl, rfl⟩ := e
      rw [m_get_eq σ hxs, m_get_eq σ2 (m_tp_rn hxs)]
      exact ⟨rfl, hg⟩
    · rw [m_get_ne σ x e, m_get_ne σ2 (rn sm_ρ x) (fun z => e ⟨z.1, by have := z.2.1; rw [z.1] at this; omega, z.2.2⟩)]
      rcases hdd c' i' k' hce' hd with z | z
      · exact absurd z e
      · obtain ⟨g1, g2⟩ := h1 c' i' k' hce' z
        exact ⟨g1, gV_mono (fun q hq => sm_gh_mono (m_set_1 ..) hcn hq) g2⟩
  · rw [m_set_2, m_set_2]; exact h2 c' i' a b
  · rw [m_set_2]; exact h3
  · rw [m_get_ne σ x (fun z => hc.1 z.1.symm), m_get_ne σ2 _ (fun z => hc.1 z.1.symm)]; exact h4 k' hk
  · rw [m_get_ne σ x (fun z => hc.2.1 z.1.symm), m_get_ne σ2 _ (fun z => hc.2.1 z.1.symm)]; exact h5 k' hk
  · rw [m_get_ne σ x (fun z => hc.2.2 z.1.symm), m_get_ne σ2 _ (fun z => hc.2.2 z.1.symm)]; exact h6 k' hk
end SM3
/-- a run in the other hall changes that one alone -/
def sm_f2 (σ2 σ2' : mS) : Prop := σ2'.1 = σ2.1 ∧ σ2'.2.1 = σ2.2.1 ∧ ∀ c i k, (∀ i0, i0 < sm_mx c → i ≠ i0 + sm_off c) → m_get σ2' c i k = m_get σ2 c i k
theorem sm_f2.rf {σ : mS} : sm_f2 σ σ := ⟨rfl, rfl, fun _ _ _ _ => rfl⟩
theorem sm_f2.tr {σ σ' σ'' : mS} (h : sm_f2 σ σ') (g : sm_f2 σ' σ'') : sm_f2 σ σ'' := ⟨g.1.trans h.1, g.2.1.trans h.2.1, fun c i k hn => (g.2.2 c i k hn).trans (h.2.2 c i k hn)⟩
theorem sm_f2_set {σ : mS} {c i k : Nat} {x : mV} (hi : i < sm_mx c) : sm_f2 σ (m_set σ c (i + sm_off c) k x) := ⟨m_set_1 .., m_set_2 .., fun c' i' k' h => m_get_ne σ x (fun z => by
  obtain ⟨z1s, z2s, -⟩ := z
  subst z1s
  exact h i hi z2s)⟩
/-! the guard -/
def sm_same (j a b : Nat) : Bool := decide (sm_md j b = sm_md j a)
def sm_gg (j pc : Nat) (r : mRow) : Bool := sm_same j pc (pc + 3) && ((Nat.blt r.2.2.1 13 && Nat.blt r.2.2.2.1 (m_nf r.2.2.1)) && ((!(Nat.beq r.2.2.1 1) || Nat.blt r.2.2.2.1 8) && ((!(sm_NT j) || !(Nat.beq r.2.2.1 10)) && match sm_md j pc with
  | none => true
  | some q => !(Nat.beq r.2.2.1 q.1) || (q.2.1 && !(q.2.2.any (Nat.beq r.2.2.2.1))))))
/-- what lies in an array's place -/
def sm_arr (c : Nat) : Nat := match c with
  | 7 => 17
  | 10 => 20
  | _ => 21
def sm_tgt (σ : mS) (z : Nat × Bool × List Nat) (q : Nat × Nat) : Prop := ∃ i : Nat, i < sm_mx z.1 ∧ (i : Int) + sm_bit z.2.1 = sm_cn σ z.1 ∧ m_get σ (sm_arr z.1) 0 i = .inr (.inr (some q))
def sm_isc (c k : Nat) : Bool := (Nat.beq c 0 && Nat.beq k 1) || (Nat.beq c 2 && (Nat.beq k 5 || Nat.beq k 6))
def sm_gp (j pc : Nat) (r : mRow) (st : List mV) (σ : mS) : Prop := (r.2.2.1 < 13 ∧ r.2.2.1 ≠ 1) ∧ (match st with
  | v :: .inr (.inr (some q)) :: _ => gV (fun q => q.1 ≠ 10 ∧ q.1 ≠ 13 ∧ (q.1 = 7 → sm_md j pc = none)) v ∧ (if sm_isc r.2.2.1 r.2.2.2.1 = true then sm_NT j = false ∧ ∃ c0 un, sm_md j pc = some (c0, false, un) ∧ sm_md j (pc + 3) = some (c0, true, un) ∧ sm_cl c0 ∧ sm_ca c0 = (r.2.2.1, r.2.2.2.1) ∧ sm_toI v = sm_cn σ c0 + 1
    else match sm_md j pc with
      | none => sm_md j (pc + 3) = none
      | some z => if r.2.2.1 = z.1 then z.2.1 = true ∧ sm_md j (pc + 3) = some (z.1, z.2.1, z.2.2.filter (fun f => !(Nat.beq f r.2.2.2.1))) ∧ sm_tgt σ z q else sm_md j (pc + 3) = some z)
  | _ => True)
def sm_e0 (c : Nat) : Nat := match c with
  | 17 => 7
  | 20 => 10
  | _ => 13
def sm_al (c : Nat) (un : List Nat) : Bool := (List.range (match c with
  | 7 => 13
  | 10 => 10
  | _ => 3)).all (fun k => (Nat.beq c 7 && Nat.beq k 0) || un.any (Nat.beq k))
def sm_ga (j pc : Nat) (st : List mV) (σ : mS) : Prop := match st with
  | .inl x :: .inr (.inr (some q)) :: _ => if q.1 = 17 ∨ q.1 = 20 ∨ q.1 = 21 then sm_md j pc = none ∧ sm_NT j = false ∧ ((sm_md j (pc + 1) = none ∧ x.toInt < sm_cn σ (sm_e0 q.1)) ∨ ∃ un, sm_md j (pc + 1) = some (sm_e0 q.1, false, un) ∧ sm_al (sm_e0 q.1) un = true ∧ x.toInt = sm_cn σ (sm_e0 q.1)) else sm_md j (pc + 1) = sm_md j pc
  | _ => True
def sm_gi (j pc : Nat) (st : List mV) (σ : mS) : Prop := match st with
  | .inl _ :: .inl x :: .inr (.inr (some q)) :: _ => ∃ un, sm_md j pc = some (13, false, un) ∧ sm_md j (pc + 1) = some (13, false, un.filter (fun f => !(Nat.beq f x.toNatClampNeg))) ∧ sm_tgt σ (13, false, un) q
  | _ => True
def sm_gc (j pc : Nat) (r : mRow) : Bool := sm_same j pc (pc + 3) && match sm_md j pc with
  | none => !(sm_NT j) || sm_NT r.2.2.1
  | some q => Nat.beq q.1 10 && (q.2.1 && sm_NT r.2.2.1)
def sm_gr (j pc : Nat) : Bool := match sm_md j pc with
  | none => true
  | some q => q.2.1 && q.2.2.isEmpty
def sm_gs (j pc : Nat) (r : mRow) : Bool := !(sm_sp j) || match r.1 with
  | .goto _ => sm_same j pc r.2.2.1
  | .tableswitch _ _ _ _ => false
  | .ifCond _ _ => sm_same j pc (pc + 3) && sm_same j pc r.2.2.1
  | .if_icmp _ _ => sm_same j pc (pc + 3) && sm_same j pc r.2.2.1
  | .if_acmp _ _ => sm_same j pc (pc + 3) && sm_same j pc r.2.2.1
  | .ifnull _ => sm_same j pc (pc + 3) && sm_same j pc r.2.2.1
  | .ifnonnull _ => sm_same j pc (pc + 3) && sm_same j pc r.2.2.1
  | _ => sm_same j pc (pc + m_len r)
def sm_g (j pc : Nat) (r : mRow) (st : List mV) (σ : mS) : Prop := match r.1 with
  | .getfield _ => sm_gg j pc r = true
  | .putfield _ => sm_gp j pc r st σ
  | .arraylength => sm_same j pc (pc + 1) = true
  | .iaload => sm_same j pc (pc + 1) = true ∧ sm_md j pc = none
  | .laload => sm_same j pc (pc + 1) = true
  | .aaload => sm_ga j pc st σ
  | .iastore => sm_gi j pc st σ
  | .lastore => sm_same j pc (pc + 1) = true
  | .invokevirtual _ => sm_gc j pc r = true
  | .invokespecial _ => sm_gc j pc r = true ∧ r.2.2.1 ≠ 2000
  | .invokestatic _ => sm_gc j pc r = true
  | .ireturn => sm_gr j pc = true
  | .lreturn => sm_gr j pc = true
  | .areturn => sm_gr j pc = true ∧ sm_NT j = false
  | .return_ => sm_gr j pc = true
  | .new _ => False
  | .newarray _ => False
  | .anewarray _ => False
  | .multianewarray _ _ => False
  | .baload => False
  | .bastore => False
  | .aastore => False
  | _ => sm_gs j pc r = true
def sm_G : ev_G := fun j z s => match m_at z.2.1 s.1 with
  | none => False
  | some r => sm_g j s.1 r s.2.2.1 s.2.2.2.1
