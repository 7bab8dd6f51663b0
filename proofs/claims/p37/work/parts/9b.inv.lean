/-! runs backwards: what a run that there is must have gone through -/
def EV (F f j : Nat) (z : mAl) (pc : Nat) (L : List (Option mV)) (st : List mV) (σ : mS) (q : mX × mS) : Prop := ∃ k n, ev_r none sm_all (ev_c sm_all F) j z f (pc, L, st, σ, k, n) = some q
section EI
variable {F f j : Nat} {z : mAl} {pc : Nat} {L : List (Option mV)} {st : List mV} {σ : mS} {q : mX × mS} {r : mRow}
theorem ei_go {avs : List mV} {σ' : mS} {x : mX} (h : ev_run sm_all j avs σ x σ') (hz : m_alF[j]? = some z) : ∃ F f, EV F f j z 0 (m_L0 z.1.2.2.1 avs) [] σ (x, σ') := by
  obtain ⟨f, h⟩ := h
  cases f with
  | zero => cases h
  | succ f =>
    obtain ⟨z', e1, -, e3⟩ := ev_c_succ.mp h
    rw [hz] at e1
    cases e1
    exact ⟨f, f, 0, 0, e3⟩
theorem ei {s : ev_T} (h : ev_r none sm_all (ev_c sm_all F) j z f s = some q) : ∃ f', f = f' + 1 ∧ ∃ o, ev_st none z s = some o ∧ ev_ro (fun s' => ev_r none sm_all (ev_c sm_all F) j z f' s' = some q) (ev_c sm_all F) z s q o := by
  cases f with
  | zero => cases h
  | succ f =>
    obtain ⟨-, o, o1, o2⟩ := ev_r_succ.mp h
    exact ⟨f, rfl, o, o1, o2⟩
theorem ei_p (h : EV F f j z pc L st σ q) {pc' : Nat} {L' : List (Option mV)} {st' : List mV} (hr : m_at z.2.1 pc = some r) (hb : er_bareI r.1 = true) (hc : m_cond r st = none) (hp : m_pure r pc L st = some (pc', L', st')) : ∃ f', f' < f ∧ EV F f' j z pc' L' st' σ q := by
  obtain ⟨k, n, h⟩ := h
  obtain ⟨f', rfl, o, o1, o2⟩ := ei h
  rw [er_bare hr hb] at o1
  unfold ev_bare at o1
  rw [hc, hp] at o1
  cases o1
  exact ⟨f', Nat.lt_succ_self _, k, n, o2⟩
theorem ei_c (h : EV F f j z pc L st σ q) {P : Prop} {st' : List mV} (hr : m_at z.2.1 pc = some r) (hb : er_bareI r.1 = true) (hc : m_cond r st = some (P, st')) : (P ∧ ∃ f', f' < f ∧ EV F f' j z r.2.2.1 L st' σ q) ∨ (¬ P ∧ ∃ f', f' < f ∧ EV F f' j z (pc + 3) L st' σ q) := by
  obtain ⟨k, n, h⟩ := h
  obtain ⟨f', rfl, o, o1, o2⟩ := ei h
  rw [er_bare hr hb] at o1
  unfold ev_bare at o1
  rw [hc] at o1
  dsimp only at o1
  by_cases hP : P
  · rw [if_pos hP] at o1
    cases o1
    exact Or.inl ⟨hP, f', Nat.lt_succ_self _, k, n, o2⟩
  · rw [if_neg hP] at o1
    cases o1
    exact Or.inr ⟨hP, f', Nat.lt_succ_self _, k, n, o2⟩
theorem ei_get {i : Nat} {e : Nat × Nat × Nat × Int × List Nat} {p : Nat × Nat} {v : mV} (h : EV F f j z pc L (.inr (.inr (some p)) :: st) σ q) (hr : m_at z.2.1 pc = some (.getfield i, e)) (hv : m_get σ e.2.1 p.2 e.2.2.1 = v) : ∃ f', f' < f ∧ EV F f' j z (pc + 3) L (v :: st) σ q := by
  obtain ⟨k, n, h⟩ := h
  obtain ⟨f', rfl, o, o1, o2⟩ := ei h
  unfold ev_st ev_nf at o1
  dsimp only at o1
  rw [hr] at o1
  dsimp only at o1
  by_cases hp : p.1 = e.2.1
  · have : ev_get (.getfield i, e) σ (.inr (.inr (some p)) :: st) = some (m_get σ e.2.1 p.2 e.2.2.1 :: st) := ev_if_some.mpr ⟨hp, rfl⟩
    rw [this, hv] at o1
    cases o1
    exact ⟨f', Nat.lt_succ_self _, k, n, o2⟩
  · have : ev_get (.getfield i, e) σ (.inr (.inr (some p)) :: st) = none := if_neg hp
    rw [this] at o1
    cases o1
theorem ei_put {i : Nat} {e : Nat × Nat × Nat × Int × List Nat} {p : Nat × Nat} {v : mV} (h : EV F f j z pc L (v :: .inr (.inr (some p)) :: st) σ q) (hr : m_at z.2.1 pc = some (.putfield i, e)) : m_tp (m_ty e.2.1 e.2.2.1) v ∧ ∃ f', f' < f ∧ EV F f' j z (pc + 3) L st (m_set σ e.2.1 p.2 e.2.2.1 v) q := by
  obtain ⟨k, n, h⟩ := h
  obtain ⟨f', rfl, o, o1, o2⟩ := ei h
  unfold ev_st ev_nf at o1
  dsimp only at o1
  rw [hr] at o1
  dsimp only at o1
  by_cases hp : p.1 = e.2.1 ∧ m_tp (m_ty e.2.1 e.2.2.1) v
  · have : ev_put (.putfield i, e) σ (v :: .inr (.inr (some p)) :: st) = some (st, m_set σ e.2.1 p.2 e.2.2.1 v) := ev_if_some.mpr ⟨hp, rfl⟩
    rw [this] at o1
    cases o1
    exact ⟨hp.2, f', Nat.lt_succ_self _, k, n, o2⟩
  · have : ev_put (.putfield i, e) σ (v :: .inr (.inr (some p)) :: st) = none := if_neg hp
    rw [this] at o1
    cases o1
theorem ei_len {e : Nat × Nat × Nat × Int × List Nat} {p : Nat × Nat} {l : Nat} (h : EV F f j z pc L (.inr (.inr (some p)) :: st) σ q) (hr : m_at z.2.1 pc = some (.arraylength, e)) (hl : σ.2.1 p.1 p.2 = l) (hp : 13 ≤ p.1 ∧ p.1 ≤ 21) : ∃ f', f' < f ∧ EV F f' j z (pc + 1) L (.inl (Int32.ofNat l) :: st) σ q := by
  obtain ⟨k, n, h⟩ := h
  obtain ⟨f', rfl, o, o1, o2⟩ := ei h
  unfold ev_st ev_nf at o1
  dsimp only at o1
  rw [hr] at o1
  dsimp only at o1
  have hxs : m_isx (.inr (.inr (some p)) :: st) 0 = false := by
    show Nat.beq p.1 98 = false
    cases hb : Nat.beq p.1 98 with
    | true => have := Nat.eq_of_beq_eq_true hb; omega
    | false => rfl
  rw [hxs] at o1
  have : ev_len σ (.inr (.inr (some p)) :: st) = some (.inl (Int32.ofNat (σ.2.1 p.1 p.2)) :: st) := ev_if_some.mpr ⟨hp, rfl⟩
  dsimp only [cond_false] at o1
  rw [this, hl] at o1
  cases o1
  exact ⟨f', Nat.lt_succ_self _, k, n, o2⟩
theorem ei_ald {e : Nat × Nat × Nat × Int × List Nat} {p : Nat × Nat} {x : Int32} {v : mV} (h : EV F f j z pc L (.inl x :: .inr (.inr (some p)) :: st) σ q) (hr : m_at z.2.1 pc = some (.aaload, e)) (hv : vp_in x (σ.2.1 p.1 p.2) → m_get σ p.1 p.2 x.toNatClampNeg = v) : vp_in x (σ.2.1 p.1 p.2) ∧ ∃ f', f' < f ∧ EV F f' j z (pc + 1) L (v :: st) σ q := by
  obtain ⟨k, n, h⟩ := h
  obtain ⟨f', rfl, o, o1, o2⟩ := ei h
  unfold ev_st ev_nf at o1
  dsimp only at o1
  rw [hr] at o1
  dsimp only at o1
  by_cases hm : (16 ≤ p.1 ∧ p.1 ≤ 21) ∧ vp_in x (σ.2.1 p.1 p.2)
  · have : ev_aldq σ (.inl x :: .inr (.inr (some p)) :: st) = some (m_get σ p.1 p.2 x.toNatClampNeg :: st) := ev_if_some.mpr ⟨hm, rfl⟩
    rw [this, hv hm.2] at o1
    cases o1
    exact ⟨hm.2, f', Nat.lt_succ_self _, k, n, o2⟩
  · have : ev_aldq σ (.inl x :: .inr (.inr (some p)) :: st) = none := if_neg hm
    rw [this] at o1
    cases o1
/-- behind a call -/
def ev_bk (F f j : Nat) (z : mAl) (pc : Nat) (L : List (Option mV)) (st : List mV) (σ : mS) (q : mX × mS) (c : Nat) (avs : List mV) : Prop := ∃ x σ1, ev_run sm_all c avs σ x σ1 ∧ ((∃ v, x = .inl v ∧ ∃ f', f' < f ∧ EV F f' j z (pc + 3) L (v.toList ++ st) σ1 q) ∨ ∃ b, x = .inr b ∧ q = (.inr b, σ1))
theorem ei_bk {s : ev_T} {f' : Nat} {c : Nat × mMt × List mV × List mV} (hh : z.1.2.2.2.2.2 = []) (hf : f' < f) (o2 : ev_ro (fun s' => ev_r none sm_all (ev_c sm_all F) j z f' s' = some q) (ev_c sm_all F) z s q (.inr (.inr c))) : ev_bk F f j z s.1 s.2.1 c.2.2.2 s.2.2.2.1 q c.1 c.2.2.1 := by
  obtain ⟨x, σ', g1, g2⟩ := o2
  refine ⟨x, σ', ⟨F, g1⟩, ?_⟩
  cases x with
  | inl v => exact Or.inl ⟨v, rfl, f', hf, _, _, g2⟩
  | inr b =>
    rw [hh] at g2
    exact Or.inr ⟨b, rfl, g2.2.symm⟩
theorem ei_v {i : Nat} {e : Nat × Nat × Nat × Int × List Nat} {p : Nat × Nat} {as : List mV} (h : EV F f j z pc L (as ++ .inr (.inr (some p)) :: st) σ q) (hr : m_at z.2.1 pc = some (.invokevirtual i, e)) (ha : as.length = e.2.2.1) (hh : z.1.2.2.2.2.2 = []) : ev_bk F f j z pc L st σ q e.2.1 (.inr (.inr (some p)) :: as.reverse) := by
  obtain ⟨k, n, h⟩ := h
  obtain ⟨f', rfl, o, o1, o2⟩ := ei h
  unfold ev_st ev_nf at o1
  dsimp only at o1
  rw [hr] at o1
  dsimp only at o1
  obtain ⟨-, o1⟩ := ev_if_some.mp o1
  cases hy : m_mt[e.2.1]? with
  | none => rw [hy] at o1; cases o1
  | some y =>
    rw [hy] at o1
    dsimp only at o1
    unfold ev_callV at o1
    have e1 : (as ++ (.inr (.inr (some p)) : mV) :: st).drop e.2.2.1 = .inr (.inr (some p)) :: st := by rw [← ha, List.drop_left]
    have e2 : (as ++ (.inr (.inr (some p)) : mV) :: st).take e.2.2.1 = as := by rw [← ha, List.take_left]
    rw [e1] at o1
    dsimp only at o1
    obtain ⟨⟨p1, -⟩, o1⟩ := ev_if_some.mp o1
    unfold m_take at o1
    rw [e2, ← p1] at o1
    cases o1
    exact ei_bk hh (Nat.lt_succ_self _) o2
/-- what an instruction without heap or call needs -/
theorem ei_ok (h : EV F f j z pc L st σ q) (hr : m_at z.2.1 pc = some r) (hb : er_bareI r.1 = true) : ¬ (m_cond r st = none ∧ m_pure r pc L st = none) := by
  rintro ⟨h1, h2⟩
  obtain ⟨k, n, h⟩ := h
  obtain ⟨f', rfl, o, o1, o2⟩ := ei h
  rw [er_bare hr hb] at o1
  unfold ev_bare at o1
  rw [h1, h2] at o1
  cases o1
/-- an int was given back -/
theorem ei_vi {v : Option mV} (h : EV F f j z pc L (v.toList ++ []) σ q) (hr : m_at z.2.1 pc = some r) (hb : er_bareI r.1 = true) (hi : ∀ w, (∀ x, w ≠ some (.inl x)) → m_cond r (w.toList ++ []) = none ∧ m_pure r pc L (w.toList ++ []) = none) : ∃ x, v = some (.inl x) := by
  rcases v with _ | x | x | x
  · exact absurd (hi none (fun x z => by cases z)) (ei_ok h hr hb)
  · exact ⟨x, rfl⟩
  · exact absurd (hi (some (.inr (.inl x))) (fun x z => by cases z)) (ei_ok h hr hb)
  · exact absurd (hi (some (.inr (.inr x))) (fun x z => by cases z)) (ei_ok h hr hb)
/-- a reference was given back -/
theorem ei_vr {v : Option mV} (h : EV F f j z pc L (v.toList ++ []) σ q) (hr : m_at z.2.1 pc = some r) (hb : er_bareI r.1 = true) (hi : ∀ w, (∀ x, w ≠ some (.inr (.inr x))) → m_cond r (w.toList ++ []) = none ∧ m_pure r pc L (w.toList ++ []) = none) : ∃ x, v = some (.inr (.inr x)) := by
  rcases v with _ | x | x | x
  · exact absurd (hi none (fun x z => by cases z)) (ei_ok h hr hb)
  · exact absurd (hi (some (.inl x)) (fun x z => by cases z)) (ei_ok h hr hb)
  · exact absurd (hi (some (.inr (.inl x))) (fun x z => by cases z)) (ei_ok h hr hb)
  · exact ⟨x, rfl⟩
theorem ei_iret {e : Nat × Nat × Nat × Int × List Nat} {v : Int32} (h : EV F f j z pc L [.inl v] σ q) (hr : m_at z.2.1 pc = some (.ireturn, e)) : q = (.inl (some (.inl v)), σ) := by
  obtain ⟨k, n, h⟩ := h
  obtain ⟨f', rfl, o, o1, o2⟩ := ei h
  unfold ev_st ev_nf at o1
  dsimp only at o1
  rw [hr] at o1
  obtain ⟨-, o1⟩ := ev_if_some.mp o1
  cases hy : ev_iret z.1.2.2.2.1 [.inl v] with
  | none => rw [hy] at o1; cases o1
  | some y =>
    rw [hy] at o1
    obtain ⟨-, g⟩ := ev_if_some.mp hy
    cases g
    cases o1
    exact o2.symm
theorem ei_lret {e : Nat × Nat × Nat × Int × List Nat} {v : Int64} (h : EV F f j z pc L [.inr (.inl v)] σ q) (hr : m_at z.2.1 pc = some (.lreturn, e)) : q = (.inl (some (.inr (.inl v))), σ) := by
  obtain ⟨k, n, h⟩ := h
  obtain ⟨f', rfl, o, o1, o2⟩ := ei h
  unfold ev_st ev_nf at o1
  dsimp only at o1
  rw [hr] at o1
  obtain ⟨-, o1⟩ := ev_if_some.mp o1
  cases hy : ev_lret z.1.2.2.2.1 [.inr (.inl v)] with
  | none => rw [hy] at o1; cases o1
  | some y =>
    rw [hy] at o1
    obtain ⟨-, g⟩ := ev_if_some.mp hy
    cases g
    cases o1
    exact o2.symm
theorem ei_aret {e : Nat × Nat × Nat × Int × List Nat} {v : mR} (h : EV F f j z pc L [.inr (.inr v)] σ q) (hr : m_at z.2.1 pc = some (.areturn, e)) : q = (.inl (some (.inr (.inr v))), σ) := by
  obtain ⟨k, n, h⟩ := h
  obtain ⟨f', rfl, o, o1, o2⟩ := ei h
  unfold ev_st ev_nf at o1
  dsimp only at o1
  rw [hr] at o1
  obtain ⟨-, o1⟩ := ev_if_some.mp o1
  cases hy : ev_aret z.1.2.2.2.1 [.inr (.inr v)] with
  | none => rw [hy] at o1; cases o1
  | some y =>
    rw [hy] at o1
    obtain ⟨-, g⟩ := ev_if_some.mp hy
    cases g
    cases o1
    exact o2.symm
theorem ei_ret {e : Nat × Nat × Nat × Int × List Nat} (h : EV F f j z pc L [] σ q) (hr : m_at z.2.1 pc = some (.return_, e)) : q = (.inl none, σ) := by
  obtain ⟨k, n, h⟩ := h
  obtain ⟨f', rfl, o, o1, o2⟩ := ei h
  unfold ev_st ev_nf at o1
  dsimp only at o1
  rw [hr] at o1
  obtain ⟨-, o1⟩ := ev_if_some.mp o1
  cases o1
  exact o2.symm
end EI
theorem ro_run {Gd : ev_G} {j : Nat} {avs : List mV} {σ σ' : mS} {x : mX} (hj : tr_ro j = true) (h : ev_run Gd j avs σ x σ') : σ' = σ := by
  obtain ⟨f, h⟩ := h
  exact tr_ro_ok f j avs σ x σ' hj h
theorem gt_i {c k : Nat} (h : m_ty c k = 0) (σ : mS) (i : Nat) : ∃ y, m_get σ c i k = .inl y := by
  unfold m_get
  rw [h]
  exact ⟨_, rfl⟩
theorem gt_r {c k : Nat} (h : m_ty c k = 2) (σ : mS) (i : Nat) : ∃ y, m_get σ c i k = .inr (.inr y) := by
  unfold m_get
  rw [h]
  exact ⟨_, rfl⟩
/-! what a method gives back is of its type -/
def tp_x (rt : Option FieldType) (x : mX) : Prop := match x with
  | .inl none => rt = none
  | .inl (some (.inl v)) => rt = some .int ∨ (rt = some .boolean ∧ (v = 0 ∨ v = 1))
  | .inl (some (.inr (.inl _))) => rt = some .long
  | .inl (some (.inr (.inr _))) => m_isr rt = true
  | .inr _ => True
def tp_o (rt : Option FieldType) (o : ev_O) : Prop := match o with
  | .inr (.inl e) => tp_x rt e.1
  | _ => True
section TP
variable {xs : ab_X} {mt : List mMt} {rt : Option FieldType} {R : Room} {nL : Nat} {rows : List (Nat × mRow)} {mc ms : Nat} {pc : Nat} {L : List (Option mV)} {st : List mV} {σ : mS} {k n : Nat} {r : mRow} {o : ev_O}
theorem tp_fin (h : ev_nf xs mt rt R nL rows mc ms pc L st σ k n = some o) : tp_o rt o := by
  have nw : ∀ {pc' : Nat} {o1 : Option (List mV)}, ev_nw pc' L σ k n o1 = some o → tp_o rt o := by
    intro pc' o1 h
    cases o1 with
    | none => cases h
    | some q => cases h; trivial
  have nx : ∀ {pc' k' n' : Nat} {o1 : Option ev_H}, ev_nx pc' L k' n' o1 = some o → tp_o rt o := by
    intro pc' k' n' o1 h
    cases o1 with
    | none => cases h
    | some q => cases h; trivial
  have nz : ∀ {pc' k' : Nat} {o1 : Option (List mV × mS × Nat)}, ev_nz pc' L k' o1 = some o → tp_o rt o := by
    intro pc' k' o1 h
    cases o1 with
    | none => cases h
    | some q => cases h; trivial
  have cV : ∀ {y : mMt} {r : mRow}, ev_callV R y r st k n = some o → tp_o rt o := by
    intro y r h
    obtain ⟨c, rfl, c2, -⟩ := sm_callV_ok h
    trivial
  have cS : ∀ {y : mMt} {r : mRow}, ev_callS R y r st k n = some o → tp_o rt o := by
    intro y r h
    obtain ⟨c, rfl, c2, -⟩ := sm_callS_ok h
    trivial
  have bare : ∀ {r : mRow}, ev_bare r pc L st σ k n = some o → tp_o rt o := by
    intro r h
    unfold ev_bare at h
    split at h
    · cases h; trivial
    · split at h
      · cases h; trivial
      · cases h
  unfold ev_nf at h
  cases hr : m_at rows pc with
  | none => rw [hr] at h; cases h
  | some r =>
  rw [hr] at h
  dsimp only at h
  obtain ⟨ig, ln, ra, rb, rz, rp⟩ := r
  cases ig
  case getfield i => exact nw h
  case putfield i => exact nx h
  case arraylength =>
    dsimp only at h
    cases hxs : m_isx st 0 with
    | true => rw [hxs] at h; exact nw h
    | false => rw [hxs] at h; exact nw h
  case iaload =>
    dsimp only at h
    cases hxs : m_isx st 1 with
    | true => rw [hxs] at h; exact nw h
    | false => rw [hxs] at h; exact nw h
  case laload => exact nw h
  case baload => exact nw h
  case aaload => exact nw h
  case iastore => exact nx h
  case lastore => exact nx h
  case bastore => exact nx h
  case aastore => exact nx h
  case newarray t => exact nz h
  case anewarray i => exact nz h
  case multianewarray i d => exact nx h
  case new i =>
    dsimp only at h
    by_cases hlt : ra < 13
    · rw [if_pos hlt] at h
      obtain ⟨-, h2⟩ := ev_if_some.mp h
      cases h2
      trivial
    · rw [if_neg hlt] at h
      obtain ⟨-, h2⟩ := ev_if_some.mp h
      cases h2
      trivial
  case invokevirtual i =>
    dsimp only at h
    obtain ⟨-, h2⟩ := ev_if_some.mp h
    cases hy : mt[ra]? with
    | none => rw [hy] at h2; cases h2
    | some y => rw [hy] at h2; exact cV h2
  case invokespecial i =>
    dsimp only at h
    obtain ⟨-, h2⟩ := ev_if_some.mp h
    by_cases he : ra = 2000
    · rw [if_pos he] at h2; exact nw h2
    · rw [if_neg he] at h2
      cases hy : mt[ra]? with
      | none => rw [hy] at h2; cases h2
      | some y => rw [hy] at h2; exact cV h2
  case invokestatic i =>
    dsimp only at h
    obtain ⟨-, h2⟩ := ev_if_some.mp h
    by_cases he : 1000 ≤ ra
    · rw [if_pos he] at h2; exact nw h2
    · rw [if_neg he] at h2
      cases hy : mt[ra]? with
      | none => rw [hy] at h2; cases h2
      | some y => rw [hy] at h2; exact cS h2
  case ireturn =>
    dsimp only at h
    obtain ⟨-, h2⟩ := ev_if_some.mp h
    unfold ev_iret at h2
    split at h2
    · rename_i v
      by_cases hp : rt = some .int ∨ (rt = some .boolean ∧ (v = 0 ∨ v = 1))
      · rw [show ev_if (rt = some .int ∨ (rt = some .boolean ∧ (v = 0 ∨ v = 1))) (some (some (.inl v : mV))) = some (some (.inl v)) from ev_if_some.mpr ⟨hp, rfl⟩] at h2
        cases h2
        exact hp
      · rw [show ev_if (rt = some .int ∨ (rt = some .boolean ∧ (v = 0 ∨ v = 1))) (some (some (.inl v : mV))) = none from if_neg hp] at h2
        cases h2
    · cases h2
  case lreturn =>
    dsimp only at h
    obtain ⟨-, h2⟩ := ev_if_some.mp h
    unfold ev_lret at h2
    split at h2
    · rename_i v
      by_cases hp : rt = some .long
      · rw [show ev_if (rt = some .long) (some (some (.inr (.inl v) : mV))) = some (some (.inr (.inl v))) from ev_if_some.mpr ⟨hp, rfl⟩] at h2
        cases h2
        exact hp
      · rw [show ev_if (rt = some .long) (some (some (.inr (.inl v) : mV))) = none from if_neg hp] at h2
        cases h2
    · cases h2
  case areturn =>
    dsimp only at h
    obtain ⟨-, h2⟩ := ev_if_some.mp h
    unfold ev_aret at h2
    split at h2
    · rename_i v
      by_cases hp : m_isr rt = true
      · rw [show ev_if (m_isr rt = true) (some (some (.inr (.inr v) : mV))) = some (some (.inr (.inr v))) from ev_if_some.mpr ⟨hp, rfl⟩] at h2
        cases h2
        exact hp
      · rw [show ev_if (m_isr rt = true) (some (some (.inr (.inr v) : mV))) = none from if_neg hp] at h2
        cases h2
    · cases h2
  case return_ =>
    dsimp only at h
    obtain ⟨e, h2⟩ := ev_if_some.mp h
    cases h2
    exact e.2.2.1
  all_goals exact bare h
end TP
theorem ev_ty {Gd : ev_G} {j : Nat} {z : mAl} {avs : List mV} {σ σ' : mS} {x : mX} (hz : m_alF[j]? = some z) (h : ev_run Gd j avs σ x σ') : tp_x z.1.2.2.2.1 x := by
  obtain ⟨f, h⟩ := h
  cases f with
  | zero => cases h
  | succ f =>
    obtain ⟨z', e1, -, e3⟩ := ev_c_succ.mp h
    rw [hz] at e1
    cases e1
    refine ev_inv (I := fun _ => True) (Po := fun x _ => tp_x z.1.2.2.2.1 x) (fun _ _ _ _ => trivial) (fun s e _ h => tp_fin (o := .inr (.inl e)) h) (fun s c x σ' _ _ _ => ?_) f _ x σ' trivial e3
    cases x with
    | inl v => trivial
    | inr e =>
      dsimp only
      cases z.1.2.2.2.2.2 with
      | nil => trivial
      | cons w ws => exact fun _ _ => trivial
