/-! runs backwards: more instructions; methods that throw nothing -/
def nt_in (r : mRow) : Bool := match r.1 with
  | .new _ => Nat.ble 13 r.2.2.1
  | _ => false
def nt_B (S : List Nat) (z : mAl) : Bool := z.1.2.2.2.2.2.isEmpty && z.2.1.all (fun q => !(nt_in q.2) && match tr_inv q.2 with
  | some j => S.any (Nat.beq j)
  | none => true)
def nt_S (S : List Nat) : Bool := S.all (fun j => match m_alF[j]? with
  | some z => nt_B S z
  | none => false)
def nt_o (r : mRow) (o : ev_O) : Prop := match o with
  | .inl _ => True
  | .inr (.inl e) => ∃ v, e.1 = .inl v
  | .inr (.inr c) => tr_inv r = some c.1
section NT
variable {xs : ab_X} {mt : List mMt} {rt : Option FieldType} {R : Room} {nL : Nat} {rows : List (Nat × mRow)} {mc ms : Nat} {pc : Nat} {L : List (Option mV)} {st : List mV} {σ : mS} {k n : Nat} {r : mRow} {o : ev_O}
theorem nt_step (hr : m_at rows pc = some r) (hw : nt_in r = false) (h : ev_nf xs mt rt R nL rows mc ms pc L st σ k n = some o) : nt_o r o := by
  have nw : ∀ {pc' : Nat} {o1 : Option (List mV)}, ev_nw pc' L σ k n o1 = some o → nt_o r o := by
    intro pc' o1 h
    cases o1 with
    | none => cases h
    | some q => cases h; trivial
  have nx : ∀ {pc' k' n' : Nat} {o1 : Option ev_H}, ev_nx pc' L k' n' o1 = some o → nt_o r o := by
    intro pc' k' n' o1 h
    cases o1 with
    | none => cases h
    | some q => cases h; trivial
  have nz : ∀ {pc' k' : Nat} {o1 : Option (List mV × mS × Nat)}, ev_nz pc' L k' o1 = some o → nt_o r o := by
    intro pc' k' o1 h
    cases o1 with
    | none => cases h
    | some q => cases h; trivial
  have ny : ∀ {ov : Option (Option mV)}, ev_ny σ ov = some o → nt_o r o := by
    intro ov h
    cases ov with
    | none => cases h
    | some q => cases h; exact ⟨q, rfl⟩
  have cV : ∀ {y : mMt}, tr_inv r = some r.2.2.1 → ev_callV R y r st k n = some o → nt_o r o := by
    intro y e h
    obtain ⟨c, rfl, c2, -⟩ := sm_callV_ok h
    show tr_inv r = some c.1
    rw [c2]; exact e
  have cS : ∀ {y : mMt}, tr_inv r = some r.2.2.1 → ev_callS R y r st k n = some o → nt_o r o := by
    intro y e h
    obtain ⟨c, rfl, c2, -⟩ := sm_callS_ok h
    show tr_inv r = some c.1
    rw [c2]; exact e
  have bare : ∀ {r' : mRow}, ev_bare r' pc L st σ k n = some o → nt_o r o := by
    intro r' h
    unfold ev_bare at h
    split at h
    · cases h; trivial
    · split at h
      · cases h; trivial
      · cases h
  unfold ev_nf at h
  rw [hr] at h
  dsimp only at h
  obtain ⟨ig, ln, ra, rb, rz, rp⟩ := r
  cases ig
  case getfield i => exact nw h
  case putfield i => exact nx h
  case arraylength =>
    dsimp only at h
    cases hx : m_isx st 0 with
    | true => rw [hx] at h; exact nw h
    | false => rw [hx] at h; exact nw h
  case iaload =>
    dsimp only at h
    cases hx : m_isx st 1 with
    | true => rw [hx] at h; exact nw h
    | false => rw [hx] at h; exact nw h
  case laload => exact nw h
  case baload => exact nw h
  case aaload => exact nw h
  case iastore => exact nx h
  case lastore => exact nx h
  case bastore => exact nx h
  case aastore => exact nx h
  case newarray t => exact nz h
  case anewarray i => exact nz h
  case multianewarray i d => exact nx h
  case new i =>
    dsimp only at h
    have hlt : ra < 13 := by
      have hw : Nat.ble 13 ra = false := hw
      have : ¬ 13 ≤ ra := fun z => by rw [Nat.ble_eq_true_of_le z] at hw; cases hw
      omega
    rw [if_pos hlt] at h
    obtain ⟨-, h2⟩ := ev_if_some.mp h
    cases h2
    trivial
  case invokevirtual i =>
    dsimp only at h
    obtain ⟨-, h2⟩ := ev_if_some.mp h
    cases hy : mt[ra]? with
    | none => rw [hy] at h2; cases h2
    | some y => rw [hy] at h2; exact cV rfl h2
  case invokespecial i =>
    dsimp only at h
    obtain ⟨-, h2⟩ := ev_if_some.mp h
    by_cases he : ra = 2000
    · rw [if_pos he] at h2; exact nw h2
    · rw [if_neg he] at h2
      have hb : Nat.beq ra 2000 = false := by
        cases hb : Nat.beq ra 2000 with
        | false => rfl
        | true => exact absurd (Nat.eq_of_beq_eq_true hb) he
      cases hy : mt[ra]? with
      | none => rw [hy] at h2; cases h2
      | some y =>
        rw [hy] at h2
        refine cV ?_ h2
        show (bif Nat.beq ra 2000 then none else some ra) = some ra
        rw [hb]
        rfl
  case invokestatic i =>
    dsimp only at h
    obtain ⟨-, h2⟩ := ev_if_some.mp h
    by_cases he : 1000 ≤ ra
    · rw [if_pos he] at h2; exact nw h2
    · rw [if_neg he] at h2
      have hb : Nat.ble 1000 ra = false := by
        cases hb : Nat.ble 1000 ra with
        | false => rfl
        | true => exact absurd (Nat.le_of_ble_eq_true hb) he
      cases hy : mt[ra]? with
      | none => rw [hy] at h2; cases h2
      | some y =>
        rw [hy] at h2
        refine cS ?_ h2
        show (bif Nat.ble 1000 ra then none else some ra) = some ra
        rw [hb]
        rfl
  case ireturn =>
    dsimp only at h
    obtain ⟨-, h2⟩ := ev_if_some.mp h
    exact ny h2
  case lreturn =>
    dsimp only at h
    obtain ⟨-, h2⟩ := ev_if_some.mp h
    exact ny h2
  case areturn =>
    dsimp only at h
    obtain ⟨-, h2⟩ := ev_if_some.mp h
    exact ny h2
  case return_ =>
    dsimp only at h
    obtain ⟨-, h2⟩ := ev_if_some.mp h
    cases h2
    exact ⟨none, rfl⟩
  all_goals exact bare h
end NT
/-- methods of such a set give something back -/
theorem nt_ok {Gd : ev_G} {S : List Nat} (hS : nt_S S = true) : ∀ (f j : Nat) (avs : List mV) (σ : mS) (x : mX) (σ' : mS), j ∈ S → ev_c Gd f j avs σ = some (x, σ') → ∃ v, x = .inl v
  | 0, _, _, _, _, _, _, h => by cases h
  | f + 1, j, avs, σ, x, σ', hj, h => by
    obtain ⟨z, e1, -, e3⟩ := ev_c_succ.mp h
    have hz := List.all_eq_true.mp hS j hj
    rw [e1] at hz
    have hz : nt_B S z = true := hz
    unfold nt_B at hz
    rw [Bool.and_eq_true] at hz
    obtain ⟨z1, z2⟩ := hz
    have hh : z.1.2.2.2.2.2 = [] := List.isEmpty_iff.mp z1
    have row : ∀ (s : ev_T) (o : ev_O), ev_st none z s = some o → ∃ r, nt_o r o ∧ (match tr_inv r with
      | some j => S.any (Nat.beq j)
      | none => true) = true := by
      intro s o ho
      cases hr : m_at z.2.1 s.1 with
      | none =>
        unfold ev_st ev_nf at ho
        rw [hr] at ho
        cases ho
      | some r =>
        have g := List.all_eq_true.mp z2 _ (m_at_mem hr)
        rw [Bool.and_eq_true] at g
        exact ⟨r, nt_step hr (by simpa using g.1) ho, g.2⟩
    refine ev_inv (I := fun _ => True) (Po := fun x _ => ∃ v, x = .inl v) (fun _ _ _ _ => trivial) (fun s e _ ho => ?_) (fun s c y τ _ ho hc => ?_) f _ x σ' trivial e3
    · obtain ⟨r, g, -⟩ := row s _ ho
      exact g
    · obtain ⟨r, g, g2⟩ := row s _ ho
      have g : tr_inv r = some c.1 := g
      rw [g] at g2
      obtain ⟨a, a1, a2⟩ := List.any_eq_true.mp g2
      have ea := Nat.eq_of_beq_eq_true a2
      subst ea
      obtain ⟨v, rfl⟩ := nt_ok hS f c.1 c.2.2.1 s.2.2.2.1 y τ a1 hc
      trivial
def Snt : List Nat := [0, 1, 2, 3, 4, 5, 6, 7, 8, 9, 10, 11, 12, 13, 14, 15, 16, 17, 18, 19, 20, 21, 22, 23, 24, 25, 26, 27, 28, 29, 30, 31, 32, 33, 34, 35, 36, 37, 38, 39, 40, 41, 42, 43, 44, 45, 46, 47, 48, 49, 50, 51, 52, 53, 54, 55, 56, 57, 58, 59, 60, 61, 62, 63, 64, 65, 66, 67, 68, 69, 70, 71, 72, 73, 74, 75, 76, 77, 78, 79, 80, 81, 82, 83, 84, 85, 86, 87, 88, 89, 90, 91, 92, 93, 94, 95, 96, 97, 98, 99, 100, 101, 102, 103, 104, 105, 106, 107, 108, 109, 110, 111, 112, 113, 114, 115, 116, 117, 118, 119, 120, 121, 122, 123, 141, 157, 158, 159, 163, 164, 165, 166, 167, 168, 169, 170, 190]
theorem Snt_ok : nt_S Snt = true := by decide +kernel
theorem nt_run {Gd : ev_G} {j : Nat} {avs : List mV} {σ σ' : mS} {x : mX} (hj : Snt.any (Nat.beq j) = true) (h : ev_run Gd j avs σ x σ') : ∃ v, x = .inl v := by
  obtain ⟨f, h⟩ := h
  obtain ⟨a, a1, a2⟩ := List.any_eq_true.mp hj
  have e := Nat.eq_of_beq_eq_true a2
  subst e
  exact nt_ok Snt_ok f j avs σ x σ' a1 h
