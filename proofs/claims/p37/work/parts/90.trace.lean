/-! what holds along a run: an invariant that the steps and the calls keep -/
section TR1
variable {xs : ab_X} {Gd : ev_G} {C : Nat → List mV → mS → Option (mX × mS)} {j : Nat} {z : mAl}
theorem ev_inv {I : ev_T → Prop} {Po : mX → mS → Prop} (hs : ∀ s s', I s → ev_st xs z s = some (.inl s') → I s') (hf : ∀ s e, I s → ev_st xs z s = some (.inr (.inl e)) → Po e.1 e.2)
    (hc : ∀ s c x σ', I s → ev_st xs z s = some (.inr (.inr c)) → C c.1 c.2.2.1 s.2.2.2.1 = some (x, σ') → match x with
      | .inl v => I (ev_nxt s c v σ')
      | .inr e => match z.1.2.2.2.2.2 with
        | [] => Po (.inr e) σ'
        | hh => ∀ s', ev_hd hh z.2.1 s c e σ' = some s' → I s') : ∀ (f : Nat) (s : ev_T) (x : mX) (σ' : mS), I s → ev_r xs Gd C j z f s = some (x, σ') → Po x σ'
  | 0, _, _, _, _, h => by cases h
  | f + 1, s, x, σ', hI, h => by
    obtain ⟨-, o, ho, hro⟩ := ev_r_succ.mp h
    rcases o with s' | e | c
    · exact ev_inv hs hf hc f s' x σ' (hs s s' hI ho) hro
    · have e1 : e = (x, σ') := hro
      have := hf s e hI ho
      rw [e1] at this
      exact this
    · obtain ⟨y, τ, c1, c2⟩ := hro
      have g := hc s c y τ hI ho c1
      cases y with
      | inl v => exact ev_inv hs hf hc f _ x σ' g c2
      | inr e =>
        dsimp only at c2 g
        cases hh : z.1.2.2.2.2.2 with
        | nil =>
          rw [hh] at c2 g
          have e1 := c2.2
          cases e1
          exact g
        | cons w ws =>
          rw [hh] at c2 g
          obtain ⟨s', k1, k2⟩ := c2
          exact ev_inv hs hf hc f s' x σ' (g s' k1) k2
end TR1
/-- an instruction that may change the heap -/
def tr_w (r : mRow) : Bool := match r.1 with
  | .putfield _ => true
  | .iastore => true
  | .lastore => true
  | .bastore => true
  | .aastore => true
  | .new _ => Nat.blt r.2.2.1 13
  | .newarray _ => true
  | .anewarray _ => true
  | .multianewarray _ _ => true
  | _ => false
def tr_inv (r : mRow) : Option Nat := match r.1 with
  | .invokevirtual _ => some r.2.2.1
  | .invokespecial _ => bif Nat.beq r.2.2.1 2000 then none else some r.2.2.1
  | .invokestatic _ => bif Nat.ble 1000 r.2.2.1 then none else some r.2.2.1
  | _ => none
/-- what follows, an end, a call have the same heap; a call is the row's -/
def tr_q (r : mRow) (σ : mS) (o : ev_O) : Prop := match o with
  | .inl s' => s'.2.2.2.1 = σ
  | .inr (.inl e) => e.2 = σ
  | .inr (.inr c) => tr_inv r = some c.1
section TR2
variable {xs : ab_X} {mt : List mMt} {rt : Option FieldType} {R : Room} {nL : Nat} {rows : List (Nat × mRow)} {mc ms : Nat} {pc : Nat} {L : List (Option mV)} {st : List mV} {σ : mS} {k n : Nat} {r : mRow} {o : ev_O}
/-- an instruction that leaves the heap: what follows, an end, a call have the same; a call is the row's -/
theorem tr_same (hr : m_at rows pc = some r) (hw : tr_w r = false) (h : ev_nf xs mt rt R nL rows mc ms pc L st σ k n = some o) : tr_q r σ o := by
  have nw : ∀ {pc' : Nat} {o1 : Option (List mV)}, ev_nw pc' L σ k n o1 = some o → tr_q r σ o := by
    intro pc' o1 h
    cases o1 with
    | none => cases h
    | some q => cases h; rfl
  have ny : ∀ {ov : Option (Option mV)}, ev_ny σ ov = some o → tr_q r σ o := by
    intro ov h
    cases ov with
    | none => cases h
    | some q => cases h; rfl
  have cV : ∀ {y : mMt}, tr_inv r = some r.2.2.1 → ev_callV R y r st k n = some o → tr_q r σ o := by
    intro y e h
    obtain ⟨c, rfl, c2, -⟩ := sm_callV_ok h
    show tr_inv r = some c.1
    rw [c2]; exact e
  have cS : ∀ {y : mMt}, tr_inv r = some r.2.2.1 → ev_callS R y r st k n = some o → tr_q r σ o := by
    intro y e h
    obtain ⟨c, rfl, c2, -⟩ := sm_callS_ok h
    show tr_inv r = some c.1
    rw [c2]; exact e
  unfold ev_nf at h
  rw [hr] at h
  dsimp only at h
  obtain ⟨ig, ln, ra, rb, rz, rp⟩ := r
  cases ig
  case getfield i => exact nw h
  case putfield i => cases hw
  case arraylength =>
    dsimp only at h
    cases hxs : m_isx st 0 with
    | true => rw [hxs] at h; exact nw h
    | false => rw [hxs] at h; exact nw h
  case iaload =>
    dsimp only at h
    cases hxs : m_isx st 1 with
    | true => rw [hxs] at h; exact nw h
    | false => rw [hxs] at h; exact nw h
  case laload => exact nw h
  case baload => exact nw h
  case aaload => exact nw h
  case iastore => cases hw
  case lastore => cases hw
  case bastore => cases hw
  case aastore => cases hw
  case newarray t => cases hw
  case anewarray i => cases hw
  case multianewarray i d => cases hw
  case new i =>
    dsimp only at h
    have hlt : ¬ ra < 13 := fun z => by
      have : Nat.blt ra 13 = true := Nat.blt_eq.mpr z
      have hw : Nat.blt ra 13 = false := hw
      rw [hw] at this
      cases this
    rw [if_neg hlt] at h
    obtain ⟨-, h2⟩ := ev_if_some.mp h
    cases h2
    rfl
  case invokevirtual i =>
    dsimp only at h
    obtain ⟨-, h2⟩ := ev_if_some.mp h
    cases hy : mt[ra]? with
    | none => rw [hy] at h2; cases h2
    | some y => rw [hy] at h2; exact cV rfl h2
  case invokespecial i =>
    dsimp only at h
    obtain ⟨-, h2⟩ := ev_if_some.mp h
    by_cases he : ra = 2000
    · rw [if_pos he] at h2; exact nw h2
    · rw [if_neg he] at h2
      have e : tr_inv (.invokespecial i, ln, ra, rb, rz, rp) = some ra := by
        show (bif Nat.beq ra 2000 then none else some ra) = some ra
        cases hb : Nat.beq ra 2000 with
        | true => exact absurd (Nat.eq_of_beq_eq_true hb) he
        | false => rfl
      cases hy : mt[ra]? with
      | none => rw [hy] at h2; cases h2
      | some y => rw [hy] at h2; exact cV e h2
  case invokestatic i =>
    dsimp only at h
    obtain ⟨-, h2⟩ := ev_if_some.mp h
    by_cases he : 1000 ≤ ra
    · rw [if_pos he] at h2; exact nw h2
    · rw [if_neg he] at h2
      have e : tr_inv (.invokestatic i, ln, ra, rb, rz, rp) = some ra := by
        show (bif Nat.ble 1000 ra then none else some ra) = some ra
        cases hb : Nat.ble 1000 ra with
        | true => exact absurd (Nat.ble_eq.mp hb) he
        | false => rfl
      cases hy : mt[ra]? with
      | none => rw [hy] at h2; cases h2
      | some y => rw [hy] at h2; exact cS e h2
  case ireturn =>
    dsimp only at h
    obtain ⟨-, h2⟩ := ev_if_some.mp h
    exact ny h2
  case lreturn =>
    dsimp only at h
    obtain ⟨-, h2⟩ := ev_if_some.mp h
    exact ny h2
  case areturn =>
    dsimp only at h
    obtain ⟨-, h2⟩ := ev_if_some.mp h
    exact ny h2
  case return_ =>
    dsimp only at h
    obtain ⟨-, h2⟩ := ev_if_some.mp h
    cases h2
    rfl
  all_goals
    have h : ev_bare _ pc L st σ k n = some o := h
    unfold ev_bare at h
    split at h
    · cases h; rfl
    · split at h
      · cases h; rfl
      · cases h
end TR2
/-! methods that change nothing -/
def tr_ro (j : Nat) : Bool := [2, 3, 6, 7, 8, 9, 10, 11, 16, 22, 23, 24, 25, 26, 27, 28, 33, 35, 39, 40, 41, 43, 90, 92, 93, 94, 95, 98, 99, 100, 101, 102, 103, 104, 109, 112, 113, 117, 121, 160, 161, 162, 163, 164, 165, 166, 167, 168, 169, 170].any (Nat.beq j)
def tr_roB (z : mAl) : Bool := z.1.2.2.2.2.2.isEmpty && z.2.1.all (fun q => !(tr_w q.2) && match tr_inv q.2 with
  | none => true
  | some i => tr_ro i)
def tr_qq (σ : mS) (o : ev_O) : Prop := match o with
  | .inl s' => s'.2.2.2.1 = σ
  | .inr (.inl e) => e.2 = σ
  | .inr (.inr c) => tr_ro c.1 = true
theorem tr_ro_rows : (List.range 171).all (fun j => !(tr_ro j) || match m_alF[j]? with
  | some z => tr_roB z
  | none => false) = true := by decide +kernel
theorem tr_ro_lt {j : Nat} (h : tr_ro j = true) : j < 171 := by
  obtain ⟨i, h1, h2⟩ := List.any_eq_true.mp h
  have e := Nat.eq_of_beq_eq_true h2
  subst e
  simp only [List.mem_cons, List.mem_nil_iff, or_false] at h1
  omega
theorem tr_ro_ok {Gd : ev_G} : ∀ (f j : Nat) (avs : List mV) (σ : mS) (x : mX) (σ' : mS), tr_ro j = true → ev_c Gd f j avs σ = some (x, σ') → σ' = σ
  | 0, _, _, _, _, _, _, h => by cases h
  | f + 1, j, avs, σ, x, σ', hj, h => by
    obtain ⟨z, h1, h2, h3⟩ := ev_c_succ.mp h
    have hz : tr_roB z = true := by
      have g := List.all_eq_true.mp tr_ro_rows j (List.mem_range.mpr (tr_ro_lt hj))
      rw [hj, h1] at g
      exact g
    unfold tr_roB at hz
    rw [Bool.and_eq_true] at hz
    have hh := List.isEmpty_iff.mp hz.1
    have row : ∀ {pc : Nat} {r : mRow}, m_at z.2.1 pc = some r → tr_w r = false ∧ ∀ i, tr_inv r = some i → tr_ro i = true := by
      intro pc r hr
      have g := List.all_eq_true.mp hz.2 _ (m_at_mem hr)
      rw [Bool.and_eq_true, Bool.not_eq_true'] at g
      refine ⟨g.1, fun i hi => ?_⟩
      have g2 := g.2
      dsimp only at g2
      rw [hi] at g2
      exact g2
    have same : ∀ (s : ev_T) (o : ev_O), ev_st none z s = some o → tr_qq s.2.2.2.1 o := by
      intro s o ho
      unfold ev_st at ho
      cases hr : m_at z.2.1 s.1 with
      | none =>
        unfold ev_nf at ho
        rw [hr] at ho
        cases ho
      | some r =>
        have g := tr_same hr (row hr).1 ho
        rcases o with s' | e | c
        · exact g
        · exact g
        · exact (row hr).2 _ g
    refine ev_inv (I := fun s => s.2.2.2.1 = σ) (Po := fun _ τ => τ = σ) (fun s s' hI ho => (same s _ ho).trans hI) (fun s e hI ho => (same s _ ho).trans hI) (fun s c y τ hI ho hc => ?_) f _ x σ' rfl h3
    have e := tr_ro_ok f c.1 c.2.2.1 s.2.2.2.1 y τ (same s _ ho) hc
    cases y with
    | inl v => exact e.trans hI
    | inr b =>
      dsimp only
      rw [hh]
      exact e.trans hI
