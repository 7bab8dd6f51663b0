/-! what leads to a place of main: stops, and a judgement that knows the way to it -/
def n_nc (o : Option ev_O) : Prop := ∀ c, o = some (.inr (.inr c)) → False
theorem n_nx {pc k n : Nat} {L : List (Option mV)} {o : Option ev_H} : n_nc (ev_nx pc L k n o) := fun c h => by cases o <;> cases h
theorem n_nw {pc k n : Nat} {L : List (Option mV)} {σ : mS} {o : Option (List mV)} : n_nc (ev_nw pc L σ k n o) := fun c h => by cases o <;> cases h
theorem n_ny {σ : mS} {o : Option (Option mV)} : n_nc (ev_ny σ o) := fun c h => by cases o <;> cases h
theorem n_nz {pc k : Nat} {L : List (Option mV)} {o : Option (List mV × mS × Nat)} : n_nc (ev_nz pc L k o) := fun c h => by cases o <;> cases h
theorem n_nb {r : mRow} {pc k n : Nat} {L : List (Option mV)} {st : List mV} {σ : mS} : n_nc (ev_bare r pc L st σ k n) := fun c h => by
  unfold ev_bare at h
  split at h
  · cases h
  · split at h
    · cases h
    · cases h
theorem n_ni {p : Prop} {o : Option ev_O} (ho : n_nc o) : n_nc (ev_if p o) := fun c h => ho c (ev_if_some.mp h).2
theorem n_no : n_nc none := fun c h => by cases h
theorem n_nl {s : ev_T} : n_nc (some (.inl s)) := fun c h => by cases h
theorem n_ne {e : mX × mS} : n_nc (some (.inr (.inl e))) := fun c h => by cases h
theorem n_rmV {R : Room} {y : mMt} {r : mRow} {st : List mV} {k n : Nat} {c : Nat × mMt × List mV × List mV} (h : ev_callV R y r st k n = some (.inr (.inr c))) : m_rm R (k + c.2.1.2.2.2.2.1.cells) (n + c.2.1.2.2.2.2.1.slots) := by
  unfold ev_callV at h
  split at h
  · obtain ⟨⟨_, _, _, hm⟩, e⟩ := ev_if_some.mp h
    cases e
    exact hm
  · cases h
theorem n_rmS {R : Room} {y : mMt} {r : mRow} {st : List mV} {k n : Nat} {c : Nat × mMt × List mV × List mV} (h : ev_callS R y r st k n = some (.inr (.inr c))) : m_rm R (k + c.2.1.2.2.2.2.1.cells) (n + c.2.1.2.2.2.2.1.slots) := by
  unfold ev_callS at h
  obtain ⟨⟨_, _, hm⟩, e⟩ := ev_if_some.mp h
  cases e
  exact hm
theorem n_rmq {xs : ab_X} {z : mAl} {s : ev_T} {c : Nat × mMt × List mV × List mV} (h : ev_st xs z s = some (.inr (.inr c))) : ev_rmq z s c := by
  unfold ev_st ev_nf at h
  cases hr : m_at z.2.1 s.1 with
  | none => rw [hr] at h; cases h
  | some r =>
  rw [hr] at h
  obtain ⟨ig, ln, ra, rb, rz, rp⟩ := r
  dsimp only at h
  cases ig
  case invokevirtual i =>
    have h := (ev_if_some.mp h).2
    cases hy : m_mt[ra]? with
    | none => rw [hy] at h; cases h
    | some y => rw [hy] at h; exact n_rmV h
  case invokespecial i =>
    have h := (ev_if_some.mp h).2
    by_cases h2 : ra = 2000
    · rw [if_pos h2] at h; exact (n_nw c h).elim
    · rw [if_neg h2] at h
      cases hy : m_mt[ra]? with
      | none => rw [hy] at h; cases h
      | some y => rw [hy] at h; exact n_rmV h
  case invokestatic i =>
    have h := (ev_if_some.mp h).2
    by_cases h2 : 1000 ≤ ra
    · rw [if_pos h2] at h; exact (n_nw c h).elim
    · rw [if_neg h2] at h
      cases hy : m_mt[ra]? with
      | none => rw [hy] at h; cases h
      | some y => rw [hy] at h; exact n_rmS h
  case new i =>
    by_cases h2 : ra < 13
    · rw [if_pos h2] at h; exact (n_ni n_nl c h).elim
    · rw [if_neg h2] at h; exact (n_ni n_ne c h).elim
  case arraylength =>
    cases hb : m_isx s.2.2.1 0 with
    | true => rw [hb] at h; exact (n_nw c h).elim
    | false => rw [hb] at h; exact (n_nw c h).elim
  case iaload =>
    cases hb : m_isx s.2.2.1 1 with
    | true => rw [hb] at h; exact (n_nw c h).elim
    | false => rw [hb] at h; exact (n_nw c h).elim
  all_goals first
    | exact (n_nw c h).elim
    | exact (n_nx c h).elim
    | exact (n_nz c h).elim
    | exact (n_ni n_ny c h).elim
    | exact (n_ni n_ne c h).elim
    | exact (n_nb c h).elim
/-- calls, with stops -/
noncomputable def n_D (C : ec_C) (D : Nat → List mV → mS → Prop) : ec_C := fun j avs σ => @ite _ (D j avs σ) (Classical.propDecidable _) (some (.inr 7, σ)) (C j avs σ)
theorem n_D_y {C : ec_C} {D : Nat → List mV → mS → Prop} {j : Nat} {avs : List mV} {σ : mS} (h : D j avs σ) : n_D C D j avs σ = some (.inr 7, σ) := if_pos h
theorem n_D_n {C : ec_C} {D : Nat → List mV → mS → Prop} {j : Nat} {avs : List mV} {σ : mS} (h : ¬ D j avs σ) : n_D C D j avs σ = C j avs σ := if_neg h
def n_run (C : ec_C) (s : ev_T) (q : mX × mS) : Prop := ∃ f, ev_r none sm_all C 18 ab_main f s = some q
def REACH (C : ec_C) (s0 s : ev_T) : Prop := ∀ (D : Nat → List mV → mS → Prop), (∀ avs σ, ¬ D 123 avs σ) → ∀ q, n_run (n_D C D) s q → ∃ q', n_run (n_D C D) s0 q' ∧ (q' = q ∨ ∃ j avs σ, D j avs σ ∧ q' = (.inr 7, σ))
theorem REACH.rf {C : ec_C} {s : ev_T} : REACH C s s := fun _ _ q h => ⟨q, h, Or.inl rfl⟩
def n_C0 (C : ec_C) (j : Nat) (avs : List mV) (σ : mS) (Q : mX → mS → Prop) : Prop := ∃ x σ', C j avs σ = some (x, σ') ∧ Q x σ'
theorem n_C0m {C : ec_C} : ac_CCm (n_C0 C) := fun _ _ _ _ _ hQ h => by
  obtain ⟨x, σ', r, q⟩ := h
  exact ⟨x, σ', r, hQ x σ' q⟩
def n_RJ (C : ec_C) (s0 : ev_T) : Nat → List (Option mV) → List mV → mS → Nat → Nat → Prop := fun pc L st σ k n => REACH C s0 (pc, L, st, σ, k, n) → ∃ q, n_run C (pc, L, st, σ, k, n) q
theorem n_RJ_cl {C : ec_C} {s0 : ev_T} : ev_cl sm_all (n_C0 C) 18 ab_main none (fun _ _ => True) (n_RJ C s0) := by
  intro pc L st σ k n hG hst hR
  obtain ⟨o, o1, o2⟩ := ev_nf_ok.mp hst
  have o1 : ev_st none ab_main (pc, L, st, σ, k, n) = some o := o1
  rcases o with s' | e | c
  · have hR' : REACH C s0 s' := fun D h3 q ⟨f, h⟩ => hR D h3 q ⟨f + 1, ev_r_succ.mpr ⟨trivial, .inl s', o1, h⟩⟩
    obtain ⟨q, f, h⟩ := o2 hR'
    exact ⟨q, f + 1, ev_r_succ.mpr ⟨trivial, _, o1, h⟩⟩
  · exact ⟨e, 1, ev_r_succ.mpr ⟨trivial, _, o1, rfl⟩⟩
  · obtain ⟨x, σ', hc, g2⟩ := o2
    cases x with
    | inl v =>
      have hR' : REACH C s0 (ev_nxt (pc, L, st, σ, k, n) c v σ') := fun D h3 q ⟨f, h⟩ => by
        by_cases hD : D c.1 c.2.2.1 σ
        · obtain ⟨q', r', e'⟩ := hR D h3 (.inr 7, σ) ⟨f + 1, ev_r_succ.mpr ⟨trivial, _, o1, .inr 7, σ, n_D_y hD, n_rmq o1, rfl⟩⟩
          refine ⟨q', r', Or.inr ?_⟩
          rcases e' with e' | e'
          · exact ⟨_, _, _, hD, e'⟩
          · exact e'
        · exact hR D h3 q ⟨f + 1, ev_r_succ.mpr ⟨trivial, _, o1, .inl v, σ', (n_D_n hD).trans hc, h⟩⟩
      obtain ⟨q, f, h⟩ := g2 hR'
      exact ⟨q, f + 1, ev_r_succ.mpr ⟨trivial, _, o1, .inl v, σ', hc, h⟩⟩
    | inr b => exact ⟨(.inr b, σ'), 1, ev_r_succ.mpr ⟨trivial, _, o1, .inr b, σ', hc, n_rmq o1, rfl⟩⟩
section NR
variable {C : ec_C} {pc k n : Nat} {L : List (Option mV)} {st : List mV} {σ : mS} {q : mX × mS} {r : mRow}
theorem nf_p (hr : m_at ab_main.2.1 pc = some r) (hb : er_bareI r.1 = true) (hc : m_cond r st = none) {pc' : Nat} {L' : List (Option mV)} {st' : List mV} (hp : m_pure r pc L st = some (pc', L', st')) (K : n_run C (pc', L', st', σ, k, n) q) : n_run C (pc, L, st, σ, k, n) q := by
  obtain ⟨f, h⟩ := K
  refine ⟨f + 1, ev_r_succ.mpr ⟨trivial, .inl (pc', L', st', σ, k, n), ?_, h⟩⟩
  rw [er_bare hr hb]
  unfold ev_bare
  rw [hc, hp]
theorem nf_c (hr : m_at ab_main.2.1 pc = some r) (hb : er_bareI r.1 = true) {P : Prop} {st' : List mV} (hc : m_cond r st = some (P, st')) (hP : ¬ P) (K : n_run C (pc + 3, L, st', σ, k, n) q) : n_run C (pc, L, st, σ, k, n) q := by
  obtain ⟨f, h⟩ := K
  refine ⟨f + 1, ev_r_succ.mpr ⟨trivial, .inl (pc + 3, L, st', σ, k, n), ?_, h⟩⟩
  rw [er_bare hr hb]
  unfold ev_bare
  rw [hc]
  dsimp only
  rw [if_neg hP]
end NR
def z171 : mAl := ((yL_part, cL_part, 4, (some .int), { frames := 0, cells := 0, slots := 0, locals := 0 }, []), rw_L_part, false)
theorem z171_at : m_alF[171]? = some z171 := rfl
/-- all that is held where one of 44 is asked for -/
def n_Dh (τ : mS) : Nat → List mV → mS → Prop := fun j avs σ => j = 171 ∧ σ = τ ∧ ∃ kk, avs = [rf 98 0, .inl kk, .inl (Int32.ofInt 44)]
set_option maxRecDepth 100000 in
theorem n_stop {C : ec_C} {u7 u8 : Int32} {y9 y10 y11 y12 y13 y14 y15 y16 y17 : Option mV} {τ : mS} {k n : Nat} (hk : m_rm ab_main.1.2.2.2.2.1 k n) (h7 : u7.toInt ≠ 0) (h8 : ¬ 62 ≤ u8.toInt) : n_run (n_D C (n_Dh τ)) (162, [some (rf 98 0), some (rf 11 0), some (rf 13 14), some (rf 13 15), some (rf 13 16), some (rf 13 17), some (rf 14 6), some (.inl u7), some (.inl u8), y9, y10, y11, y12, y13, y14, y15, y16, y17], [], τ, k, n) (.inr 7, τ) := by
  refine nf_p rfl rfl rfl rfl ?_
  show n_run _ (164, [some (rf 98 0), some (rf 11 0), some (rf 13 14), some (rf 13 15), some (rf 13 16), some (rf 13 17), some (rf 14 6), some (.inl u7), some (.inl u8), y9, y10, y11, y12, y13, y14, y15, y16, y17], [.inl u8], τ, k, n) _
  refine nf_p rfl rfl rfl rfl ?_
  show n_run _ (166, [some (rf 98 0), some (rf 11 0), some (rf 13 14), some (rf 13 15), some (rf 13 16), some (rf 13 17), some (rf 14 6), some (.inl u7), some (.inl u8), y9, y10, y11, y12, y13, y14, y15, y16, y17], [.inl (Int32.ofInt 62), .inl u8], τ, k, n) _
  refine nf_c rfl rfl rfl (fun z => h8 (by have := ic_ge.mp z; exact this)) ?_
  show n_run _ (169, [some (rf 98 0), some (rf 11 0), some (rf 13 14), some (rf 13 15), some (rf 13 16), some (rf 13 17), some (rf 14 6), some (.inl u7), some (.inl u8), y9, y10, y11, y12, y13, y14, y15, y16, y17], [], τ, k, n) _
  refine nf_p rfl rfl rfl rfl ?_
  show n_run _ (171, [some (rf 98 0), some (rf 11 0), some (rf 13 14), some (rf 13 15), some (rf 13 16), some (rf 13 17), some (rf 14 6), some (.inl u7), some (.inl u8), y9, y10, y11, y12, y13, y14, y15, y16, y17], [.inl u7], τ, k, n) _
  refine nf_c rfl rfl rfl (fun z => h7 (ic_eq.mp z)) ?_
  show n_run _ (174, [some (rf 98 0), some (rf 11 0), some (rf 13 14), some (rf 13 15), some (rf 13 16), some (rf 13 17), some (rf 14 6), some (.inl u7), some (.inl u8), y9, y10, y11, y12, y13, y14, y15, y16, y17], [], τ, k, n) _
  refine nf_p rfl rfl rfl rfl ?_
  refine nf_p rfl rfl rfl rfl ?_
  refine nf_p rfl rfl rfl rfl ?_
  refine nf_p rfl rfl rfl rfl ?_
  refine nf_p rfl rfl rfl rfl ?_
  show n_run _ (181, [some (rf 98 0), some (rf 11 0), some (rf 13 14), some (rf 13 15), some (rf 13 16), some (rf 13 17), some (rf 14 6), some (.inl u7), some (.inl u8), y9, y10, y11, y12, y13, y14, y15, y16, y17], [.inl (Int32.ofInt 44), .inl ((Int32.ofInt 3) * u8), rf 98 0], τ, k, n) _
  have e1 : ∃ c : Nat × mMt × List mV × List mV, ev_st none ab_main (181, [some (rf 98 0), some (rf 11 0), some (rf 13 14), some (rf 13 15), some (rf 13 16), some (rf 13 17), some (rf 14 6), some (.inl u7), some (.inl u8), y9, y10, y11, y12, y13, y14, y15, y16, y17], [.inl (Int32.ofInt 44), .inl ((Int32.ofInt 3) * u8), rf 98 0], τ, k, n) = some (.inr (.inr c)) ∧ c.1 = 171 ∧ c.2.2.1 = [rf 98 0, .inl ((Int32.ofInt 3) * u8), .inl (Int32.ofInt 44)] := by
    refine ⟨(171, z171.1, [rf 98 0, .inl ((Int32.ofInt 3) * u8), .inl (Int32.ofInt 44)], []), ?_, rfl, rfl⟩
    unfold ev_st ev_nf
    dsimp only
    rw [show m_at ab_main.2.1 181 = some _ from rfl]
    dsimp only
    refine ev_if_some.mpr ⟨⟨rfl, hk⟩, ?_⟩
    rw [if_neg (by decide)]
    rw [show m_mt[171]? = some _ from rfl]
    dsimp only
    unfold ev_callS
    exact ev_if_some.mpr ⟨⟨rfl, (by show (0 : Nat) ≤ 8; decide), hk⟩, rfl⟩
  obtain ⟨c, c1, c2, c3⟩ := e1
  exact ⟨1, ev_r_succ.mpr ⟨trivial, _, c1, .inr 7, τ, n_D_y ⟨c2, rfl, _, c3⟩, n_rmq c1, rfl⟩⟩
