/-! no method of the table throws what a stop gives -/
def th_in (r : mRow) : Bool := match r.1 with
  | .new _ => Nat.beq r.2.2.1 107
  | _ => false
theorem th_all : m_alF.all (fun z => z.2.1.all (fun q => !(th_in q.2))) = true := by decide +kernel
def th_o (r : mRow) (o : ev_O) : Prop := match o with
  | .inl _ => True
  | .inr (.inl e) => e.1 ≠ .inr 7
  | .inr (.inr c) => tr_inv r = some c.1
section TH
variable {xs : ab_X} {mt : List mMt} {rt : Option FieldType} {R : Room} {nL : Nat} {rows : List (Nat × mRow)} {mc ms : Nat} {pc : Nat} {L : List (Option mV)} {st : List mV} {σ : mS} {k n : Nat} {r : mRow} {o : ev_O}
theorem th_step (hr : m_at rows pc = some r) (hw : th_in r = false) (h : ev_nf xs mt rt R nL rows mc ms pc L st σ k n = some o) : th_o r o := by
  have nw : ∀ {pc' : Nat} {o1 : Option (List mV)}, ev_nw pc' L σ k n o1 = some o → th_o r o := by
    intro pc' o1 h
    cases o1 with
    | none => cases h
    | some q => cases h; trivial
  have nx : ∀ {pc' k' n' : Nat} {o1 : Option ev_H}, ev_nx pc' L k' n' o1 = some o → th_o r o := by
    intro pc' k' n' o1 h
    cases o1 with
    | none => cases h
    | some q => cases h; trivial
  have nz : ∀ {pc' k' : Nat} {o1 : Option (List mV × mS × Nat)}, ev_nz pc' L k' o1 = some o → th_o r o := by
    intro pc' k' o1 h
    cases o1 with
    | none => cases h
    | some q => cases h; trivial
  have ny : ∀ {ov : Option (Option mV)}, ev_ny σ ov = some o → th_o r o := by
    intro ov h
    cases ov with
    | none => cases h
    | some q => cases h; exact fun z => by cases z
  have cV : ∀ {y : mMt}, tr_inv r = some r.2.2.1 → ev_callV R y r st k n = some o → th_o r o := by
    intro y e h
    obtain ⟨c, rfl, c2, -⟩ := sm_callV_ok h
    show tr_inv r = some c.1
    rw [c2]; exact e
  have cS : ∀ {y : mMt}, tr_inv r = some r.2.2.1 → ev_callS R y r st k n = some o → th_o r o := by
    intro y e h
    obtain ⟨c, rfl, c2, -⟩ := sm_callS_ok h
    show tr_inv r = some c.1
    rw [c2]; exact e
  have bare : ∀ {r' : mRow}, ev_bare r' pc L st σ k n = some o → th_o r o := by
    intro r' h
    unfold ev_bare at h
    split at h
    · cases h; trivial
    · split at h
      · cases h; trivial
      · cases h
  unfold ev_nf at h
  rw [hr] at h
  dsimp only at h
  obtain ⟨ig, ln, ra, rb, rz, rp⟩ := r
  cases ig
  case getfield i => exact nw h
  case putfield i => exact nx h
  case arraylength =>
    dsimp only at h
    cases hx : m_isx st 0 with
    | true => rw [hx] at h; exact nw h
    | false => rw [hx] at h; exact nw h
  case iaload =>
    dsimp only at h
    cases hx : m_isx st 1 with
    | true => rw [hx] at h; exact nw h
    | false => rw [hx] at h; exact nw h
  case laload => exact nw h
  case baload => exact nw h
  case aaload => exact nw h
  case iastore => exact nx h
  case lastore => exact nx h
  case bastore => exact nx h
  case aastore => exact nx h
  case newarray t => exact nz h
  case anewarray i => exact nz h
  case multianewarray i d => exact nx h
  case new i =>
    dsimp only at h
    by_cases hlt : ra < 13
    · rw [if_pos hlt] at h
      obtain ⟨-, h2⟩ := ev_if_some.mp h
      cases h2
      trivial
    · rw [if_neg hlt] at h
      obtain ⟨-, h2⟩ := ev_if_some.mp h
      cases h2
      intro z
      injection z with z
      have hw : Nat.beq ra 107 = false := hw
      have e : ra = 107 := by omega
      rw [e] at hw
      cases hw
  case invokevirtual i =>
    dsimp only at h
    obtain ⟨-, h2⟩ := ev_if_some.mp h
    cases hy : mt[ra]? with
    | none => rw [hy] at h2; cases h2
    | some y => rw [hy] at h2; exact cV rfl h2
  case invokespecial i =>
    dsimp only at h
    obtain ⟨-, h2⟩ := ev_if_some.mp h
    by_cases he : ra = 2000
    · rw [if_pos he] at h2; exact nw h2
    · rw [if_neg he] at h2
      have hb : Nat.beq ra 2000 = false := by
        cases hb : Nat.beq ra 2000 with
        | false => rfl
        | true => exact absurd (Nat.eq_of_beq_eq_true hb) he
      cases hy : mt[ra]? with
      | none => rw [hy] at h2; cases h2
      | some y =>
        rw [hy] at h2
        refine cV ?_ h2
        show (bif Nat.beq ra 2000 then none else some ra) = some ra
        rw [hb]
        rfl
  case invokestatic i =>
    dsimp only at h
    obtain ⟨-, h2⟩ := ev_if_some.mp h
    by_cases he : 1000 ≤ ra
    · rw [if_pos he] at h2; exact nw h2
    · rw [if_neg he] at h2
      have hb : Nat.ble 1000 ra = false := by
        cases hb : Nat.ble 1000 ra with
        | false => rfl
        | true => exact absurd (Nat.le_of_ble_eq_true hb) he
      cases hy : mt[ra]? with
      | none => rw [hy] at h2; cases h2
      | some y =>
        rw [hy] at h2
        refine cS ?_ h2
        show (bif Nat.ble 1000 ra then none else some ra) = some ra
        rw [hb]
        rfl
  case ireturn =>
    dsimp only at h
    obtain ⟨-, h2⟩ := ev_if_some.mp h
    exact ny h2
  case lreturn =>
    dsimp only at h
    obtain ⟨-, h2⟩ := ev_if_some.mp h
    exact ny h2
  case areturn =>
    dsimp only at h
    obtain ⟨-, h2⟩ := ev_if_some.mp h
    exact ny h2
  case return_ =>
    dsimp only at h
    obtain ⟨-, h2⟩ := ev_if_some.mp h
    cases h2
    exact fun z => by cases z
  all_goals exact bare h
end TH
theorem th_ok {Gd : ev_G} : ∀ (f j : Nat) (avs : List mV) (σ : mS) (x : mX) (σ' : mS), ev_c Gd f j avs σ = some (x, σ') → x ≠ .inr 7
  | 0, _, _, _, _, _, h => by cases h
  | f + 1, j, avs, σ, x, σ', h => by
    obtain ⟨z, e1, -, e3⟩ := ev_c_succ.mp h
    have z2 := List.all_eq_true.mp th_all z (List.mem_of_getElem? e1)
    have row : ∀ (s : ev_T) (o : ev_O), ev_st none z s = some o → ∃ r, th_o r o := by
      intro s o ho
      cases hr : m_at z.2.1 s.1 with
      | none =>
        unfold ev_st ev_nf at ho
        rw [hr] at ho
        cases ho
      | some r =>
        have g := List.all_eq_true.mp z2 _ (m_at_mem hr)
        exact ⟨r, th_step hr (by simpa using g) ho⟩
    refine ev_inv (I := fun _ => True) (Po := fun x _ => x ≠ .inr 7) (fun _ _ _ _ => trivial) (fun s e _ ho => ?_) (fun s c y τ _ ho hc => ?_) f _ x σ' trivial e3
    · obtain ⟨r, g⟩ := row s _ ho
      exact g
    · have g := th_ok f c.1 c.2.2.1 s.2.2.2.1 y τ hc
      cases y with
      | inl v => trivial
      | inr b =>
        dsimp only
        split
        · exact g
        · exact fun _ _ => trivial
theorem th_run {Gd : ev_G} {j : Nat} {avs : List mV} {σ σ' : mS} {x : mX} (h : ev_run Gd j avs σ x σ') : x ≠ .inr 7 := by
  obtain ⟨f, h⟩ := h
  exact th_ok f j avs σ x σ' h
