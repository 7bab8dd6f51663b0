/-! runs as functions of a fuel: the steps of one method, and calls; a guard may be asked ahead of each step -/
abbrev ev_G : Type := Nat → mAl → ev_T → Prop
noncomputable def ev_st (xs : ab_X) (z : mAl) (s : ev_T) : Option ev_O := ev_nf xs m_mt z.1.2.2.2.1 z.1.2.2.2.2.1 z.1.2.2.1 z.2.1 z.1.2.2.2.2.1.cells z.1.2.2.2.2.1.slots s.1 s.2.1 s.2.2.1 s.2.2.2.1 s.2.2.2.2.1 s.2.2.2.2.2
def ev_nxt (s : ev_T) (c : Nat × mMt × List mV × List mV) (v : Option mV) (σ' : mS) : ev_T := (s.1 + 3, s.2.1, v.toList ++ c.2.2.2, σ', s.2.2.2.2.1 + c.2.1.2.2.2.2.1.cells, s.2.2.2.2.2 + c.2.1.2.2.2.2.1.slots)
def ev_rmq (z : mAl) (s : ev_T) (c : Nat × mMt × List mV × List mV) : Prop := s.2.2.2.2.1 + c.2.1.2.2.2.2.1.cells ≤ z.1.2.2.2.2.1.cells ∧ s.2.2.2.2.2 + c.2.1.2.2.2.2.1.slots ≤ z.1.2.2.2.2.1.slots
/-- at a handler -/
def ev_hd (hh : List (Nat × Nat × Nat × Nat)) (rows : List (Nat × mRow)) (s : ev_T) (c : Nat × mMt × List mV × List mV) (x : Nat) (σ' : mS) : Option ev_T := match m_hnd hh s.1 x with
  | none => none
  | some h => match m_at rows h with
    | none => none
    | some r => match r.1 with
      | .astore i => if i < s.2.1.length then some (h + 2, (m_clr s.2.1 i).set i none, [], σ', s.2.2.2.2.1 + c.2.1.2.2.2.2.1.cells, s.2.2.2.2.2 + c.2.1.2.2.2.2.1.slots) else none
      | .astore_n i => if (i : Nat) < s.2.1.length then some (h + 1, (m_clr s.2.1 i).set i none, [], σ', s.2.2.2.2.1 + c.2.1.2.2.2.2.1.cells, s.2.2.2.2.2 + c.2.1.2.2.2.2.1.slots) else none
      | _ => none
noncomputable def ev_r (xs : ab_X) (Gd : ev_G) (C : Nat → List mV → mS → Option (mX × mS)) (j : Nat) (z : mAl) : Nat → ev_T → Option (mX × mS)
  | 0, _ => none
  | f + 1, s => ev_if (Gd j z s) (match ev_st xs z s with
    | none => none
    | some (.inl s') => ev_r xs Gd C j z f s'
    | some (.inr (.inl e)) => some e
    | some (.inr (.inr c)) => match C c.1 c.2.2.1 s.2.2.2.1 with
      | none => none
      | some (.inl v, σ') => ev_r xs Gd C j z f (ev_nxt s c v σ')
      | some (.inr x, σ') => match z.1.2.2.2.2.2 with
        | [] => ev_if (ev_rmq z s c) (some (.inr x, σ'))
        | hh => match ev_hd hh z.2.1 s c x σ' with
          | none => none
          | some s' => ev_r xs Gd C j z f s')
noncomputable def ev_c (Gd : ev_G) : Nat → Nat → List mV → mS → Option (mX × mS)
  | 0 => fun _ _ _ => none
  | f + 1 => fun j avs σ => match m_alF[j]? with
    | none => none
    | some z => ev_if ((m_args avs).length ≤ z.1.2.2.1) (ev_r none Gd (ev_c Gd f) j z f (0, m_L0 z.1.2.2.1 avs, [], σ, 0, 0))
/-- what a step's outcome leads to -/
def ev_ro (R : ev_T → Prop) (C : Nat → List mV → mS → Option (mX × mS)) (z : mAl) (s : ev_T) (q : mX × mS) (o : ev_O) : Prop := match o with
  | .inl s' => R s'
  | .inr (.inl e) => e = q
  | .inr (.inr c) => ∃ x σ', C c.1 c.2.2.1 s.2.2.2.1 = some (x, σ') ∧ match x with
    | .inl v => R (ev_nxt s c v σ')
    | .inr x => match z.1.2.2.2.2.2 with
      | [] => ev_rmq z s c ∧ (.inr x, σ') = q
      | hh => ∃ s', ev_hd hh z.2.1 s c x σ' = some s' ∧ R s'
section EV3
variable {xs : ab_X} {Gd Gd' : ev_G} {C C' : Nat → List mV → mS → Option (mX × mS)} {j : Nat} {z : mAl} {f f' : Nat} {s : ev_T} {q : mX × mS}
theorem ev_r_succ : ev_r xs Gd C j z (f + 1) s = some q ↔ Gd j z s ∧ ∃ o, ev_st xs z s = some o ∧ ev_ro (fun s' => ev_r xs Gd C j z f s' = some q) C z s q o := by
  show ev_if (Gd j z s) _ = some q ↔ _
  rw [ev_if_some]
  refine and_congr_right (fun _ => ?_)
  cases hs : ev_st xs z s with
  | none => exact ⟨(fun h => by cases h), (fun ⟨_, h, _⟩ => by cases h)⟩
  | some o =>
    rcases o with s' | e | c
    · exact ⟨fun h => ⟨_, rfl, h⟩, (fun ⟨_, h1, h2⟩ => by cases h1; exact h2)⟩
    · exact ⟨fun h => ⟨_, rfl, Option.some.inj h⟩, (fun ⟨_, h1, h2⟩ => by cases h1; exact congrArg some h2)⟩
    · dsimp only
      cases hc : C c.1 c.2.2.1 s.2.2.2.1 with
      | none => exact ⟨(fun h => by cases h), (fun ⟨_, h1, h23⟩ => by cases h1; obtain ⟨x, σ', h2, -⟩ := h23; rw [hc] at h2; cases h2)⟩
      | some p =>
        obtain ⟨x, σ'⟩ := p
        cases x with
        | inl v => exact ⟨fun h => ⟨_, rfl, .inl v, σ', hc, h⟩, (fun ⟨_, h1, h23⟩ => by cases h1; obtain ⟨x, σ'', h2, h3⟩ := h23; rw [hc] at h2; cases h2; exact h3)⟩
        | inr x =>
          dsimp only
          cases hh : z.1.2.2.2.2.2 with
          | nil =>
            constructor
            · intro h
              obtain ⟨h1, h2⟩ := ev_if_some.mp h
              exact ⟨_, rfl, .inr x, σ', hc, (by dsimp only; rw [hh]; exact ⟨h1, Option.some.inj h2⟩)⟩
            · rintro ⟨o', h1, h23⟩
              cases h1
              obtain ⟨x', σ'', h2, h3⟩ := h23
              rw [hc] at h2
              cases h2
              dsimp only at h3
              rw [hh] at h3
              exact ev_if_some.mpr ⟨h3.1, congrArg some h3.2⟩
          | cons w ws =>
            dsimp only
            constructor
            · intro h
              refine ⟨_, rfl, .inr x, σ', hc, ?_⟩
              dsimp only
              rw [hh]
              dsimp only
              cases hd : ev_hd (w :: ws) z.2.1 s c x σ' with
              | none => rw [hd] at h; cases h
              | some s' => rw [hd] at h; exact ⟨s', rfl, h⟩
            · rintro ⟨o', h1, h23⟩
              cases h1
              obtain ⟨x', σ'', h2, h3⟩ := h23
              rw [hc] at h2
              cases h2
              dsimp only at h3
              rw [hh] at h3
              obtain ⟨s', g1, g2⟩ := h3
              rw [g1]
              exact g2
theorem ev_ro_mono {R R' : ev_T → Prop} {o : ev_O} (hR : ∀ s, R s → R' s) (hC : ∀ j avs σ q, C j avs σ = some q → C' j avs σ = some q) (h : ev_ro R C z s q o) : ev_ro R' C' z s q o := by
  rcases o with s' | e | c
  · exact hR _ h
  · exact h
  · obtain ⟨x, σ', h1, h2⟩ := h
    refine ⟨x, σ', hC _ _ _ _ h1, ?_⟩
    cases x with
    | inl v => exact hR _ h2
    | inr x =>
      dsimp only at h2 ⊢
      cases hh : z.1.2.2.2.2.2 with
      | nil => rw [hh] at h2; exact h2
      | cons w ws =>
        rw [hh] at h2
        obtain ⟨s', g1, g2⟩ := h2
        exact ⟨s', g1, hR _ g2⟩
theorem ev_r_mono (hC : ∀ j avs σ q, C j avs σ = some q → C' j avs σ = some q) (hG : ∀ j z s, Gd j z s → Gd' j z s) : ∀ (f f' : Nat) (s : ev_T), f ≤ f' → ev_r xs Gd C j z f s = some q → ev_r xs Gd' C' j z f' s = some q
  | 0, _, _, _, h => by cases h
  | f + 1, 0, _, hf, _ => by omega
  | f + 1, f' + 1, s, hf, h => by
    obtain ⟨h1, o, h2, h3⟩ := ev_r_succ.mp h
    exact ev_r_succ.mpr ⟨hG _ _ _ h1, o, h2, ev_ro_mono (fun s' h => ev_r_mono hC hG f f' s' (Nat.le_of_succ_le_succ hf) h) hC h3⟩
theorem ev_c_succ {avs : List mV} {σ : mS} : ev_c Gd (f + 1) j avs σ = some q ↔ ∃ z, m_alF[j]? = some z ∧ (m_args avs).length ≤ z.1.2.2.1 ∧ ev_r none Gd (ev_c Gd f) j z f (0, m_L0 z.1.2.2.1 avs, [], σ, 0, 0) = some q := by
  show (match m_alF[j]? with
    | none => none
    | some z => ev_if _ _) = some q ↔ _
  cases hz : m_alF[j]? with
  | none => exact ⟨(fun h => by cases h), (fun ⟨_, h, _⟩ => by cases h)⟩
  | some z =>
    dsimp only
    rw [ev_if_some]
    exact ⟨fun h => ⟨z, rfl, h⟩, (fun ⟨_, h1, h2⟩ => by cases h1; exact h2)⟩
theorem ev_c_mono (hG : ∀ j z s, Gd j z s → Gd' j z s) : ∀ (f f' : Nat) (j : Nat) (avs : List mV) (σ : mS) (q : mX × mS), f ≤ f' → ev_c Gd f j avs σ = some q → ev_c Gd' f' j avs σ = some q
  | 0, _, _, _, _, _, _, h => by cases h
  | f + 1, 0, _, _, _, _, hf, _ => by omega
  | f + 1, f' + 1, j, avs, σ, q, hf, h => by
    obtain ⟨z, h1, h2, h3⟩ := ev_c_succ.mp h
    exact ev_c_succ.mpr ⟨z, h1, h2, ev_r_mono (fun j avs σ q h => ev_c_mono hG f f' j avs σ q (Nat.le_of_succ_le_succ hf) h) hG f f' _ (Nat.le_of_succ_le_succ hf) h3⟩
/-- a call's run, whatever the fuel -/
def ev_run (Gd : ev_G) (j : Nat) (avs : List mV) (σ : mS) (x : mX) (σ' : mS) : Prop := ∃ f, ev_c Gd f j avs σ = some (x, σ')
theorem ev_run_uni {avs : List mV} {σ σ1 σ2 : mS} {x1 x2 : mX} (h1 : ev_run Gd j avs σ x1 σ1) (h2 : ev_run Gd' j avs σ x2 σ2) : x1 = x2 ∧ σ1 = σ2 := by
  obtain ⟨f1, h1⟩ := h1
  obtain ⟨f2, h2⟩ := h2
  have a1 := ev_c_mono (Gd' := fun _ _ _ => True) (fun _ _ _ _ => trivial) f1 (max f1 f2) _ _ _ _ (Nat.le_max_left _ _) h1
  have a2 := ev_c_mono (Gd' := fun _ _ _ => True) (fun _ _ _ _ => trivial) f2 (max f1 f2) _ _ _ _ (Nat.le_max_right _ _) h2
  rw [a1] at a2
  cases a2
  exact ⟨rfl, rfl⟩
/-! a run holds of the machine -/
/-- a contract of a method with or without handlers -/
theorem ev_conI {l : Launch} (hl : l.stackTraces = false) {avs : List mV} {σ : mS} {Q : mX → mS → Prop} (hz : m_alF[j]? = some z) (hn : (m_args avs).length ≤ z.1.2.2.1) (main : ∀ J : Nat → List (Option mV) → List mV → mS → Nat → Nat → Prop, ab_cl l z none Q J → J 0 (m_L0 z.1.2.2.1 avs) [] σ 0 0) : m_ConI l j avs σ Q := by
  have hhr := m_alF_hh z (List.mem_of_getElem? hz)
  intro y hy
  have e2 : y = z.1 := Option.some.inj (hy.symm.trans (m_alF_at hz))
  subst e2
  obtain ⟨k1, k2, k3⟩ := m_alF_ok z (List.mem_of_getElem? hz)
  obtain ⟨⟨y1, y2, y3, y4, y5, hh⟩, rows, ini⟩ := z
  cases hh with
  | nil => exact m_con_goF hl (CC := m_ConI l) (fun j y avs σ Q hy h => h y hy) k1 k3 hn k2 (fun J hS => main J hS)
  | cons w ws =>
    obtain ⟨h1, h2, h3⟩ := hhr (fun w => by cases w)
    obtain ⟨c, nm, ds⟩ := y1
    dsimp only at h1 h2 h3
    subst h1
    subst h2
    exact m_con_goH hl (CC := m_ConI l) (fun j y avs σ Q hy h => h y hy) h3 m_cast_ok k1 hn (fun J hS => main J (fun pc L st σ k n hst => hS [] 0 pc L st σ k n hst))
theorem ev_hd_J {rows : List (Nat × mRow)} {hh : List (Nat × Nat × Nat × Nat)} {J : Nat → List (Option mV) → List mV → mS → Nat → Nat → Prop} {c : Nat × mMt × List mV × List mV} {x : Nat} {σ' : mS} : m_TH hh rows J s.1 s.2.1 σ' (s.2.2.2.2.1 + c.2.1.2.2.2.2.1.cells) (s.2.2.2.2.2 + c.2.1.2.2.2.2.1.slots) x ↔ ∃ s', ev_hd hh rows s c x σ' = some s' ∧ J s'.1 s'.2.1 s'.2.2.1 s'.2.2.2.1 s'.2.2.2.2.1 s'.2.2.2.2.2 := by
  unfold m_TH ev_hd
  cases m_hnd hh s.1 x with
  | none => exact ev_no
  | some h =>
    dsimp only
    cases m_at rows h with
    | none => exact ev_no
    | some r =>
      obtain ⟨ig, ln, ra, rb, rz, rp⟩ := r
      cases ig
      case astore i =>
        dsimp only
        by_cases hi : i < s.2.1.length
        · rw [if_pos hi]
          exact ⟨fun h => ⟨_, rfl, h.2⟩, (fun ⟨s', h1, h2⟩ => by cases h1; exact ⟨hi, h2⟩)⟩
        · rw [if_neg hi]
          exact ⟨fun h => absurd h.1 hi, (fun ⟨s', h1, h2⟩ => by cases h1)⟩
      case astore_n i =>
        dsimp only
        by_cases hi : (i : Nat) < s.2.1.length
        · rw [if_pos hi]
          exact ⟨fun h => ⟨_, rfl, h.2⟩, (fun ⟨s', h1, h2⟩ => by cases h1; exact ⟨hi, h2⟩)⟩
        · rw [if_neg hi]
          exact ⟨fun h => absurd h.1 hi, (fun ⟨s', h1, h2⟩ => by cases h1)⟩
      all_goals exact ev_no
theorem ev_r_J {l : Launch} {Q : mX → mS → Prop} {J : Nat → List (Option mV) → List mV → mS → Nat → Nat → Prop} (hJ : ab_cl l z xs Q J) (IH : ∀ j avs σ x σ' (Q : mX → mS → Prop), C j avs σ = some (x, σ') → Q x σ' → m_ConI l j avs σ Q) (hQ : Q q.1 q.2) : ∀ (f : Nat) (s : ev_T), ev_r xs Gd C j z f s = some q → J s.1 s.2.1 s.2.2.1 s.2.2.2.1 s.2.2.2.2.1 s.2.2.2.2.2
  | 0, _, h => by cases h
  | f + 1, s, h => by
    obtain ⟨-, o, h2, h3⟩ := ev_r_succ.mp h
    refine hJ _ _ _ _ _ _ (ev_nf_ok.mpr ⟨o, h2, ?_⟩)
    rcases o with s' | e | c
    · exact ev_r_J hJ IH hQ f s' h3
    · have e1 : e = q := h3
      subst e1
      exact hQ
    · obtain ⟨x, σ', g1, g2⟩ := h3
      refine IH _ _ _ _ _ _ g1 ?_
      cases x with
      | inl v => exact ev_r_J hJ IH hQ f _ g2
      | inr x =>
        show ab_TT z Q J s.1 s.2.1 σ' _ _ x
        unfold ab_TT
        dsimp only at g2
        cases hh : z.1.2.2.2.2.2 with
        | nil =>
          rw [hh] at g2
          have e1 := g2.2
          subst e1
          exact ⟨g2.1.1, g2.1.2, hQ⟩
        | cons w ws =>
          rw [hh] at g2
          obtain ⟨s', k1, k2⟩ := g2
          exact ev_hd_J.mpr ⟨s', k1, ev_r_J hJ IH hQ f s' k2⟩
theorem ev_c_con {l : Launch} (hl : l.stackTraces = false) : ∀ (f j : Nat) (avs : List mV) (σ : mS) (x : mX) (σ' : mS) (Q : mX → mS → Prop), ev_c Gd f j avs σ = some (x, σ') → Q x σ' → m_ConI l j avs σ Q
  | 0, _, _, _, _, _, _, h, _ => by cases h
  | f + 1, j, avs, σ, x, σ', Q, h, hQ => by
    obtain ⟨z, h1, h2, h3⟩ := ev_c_succ.mp h
    exact ev_conI hl h1 h2 (fun J hJ => ev_r_J (q := (x, σ')) hJ (fun j avs σ x σ' Q h hQ => ev_c_con hl f j avs σ x σ' Q h hQ) hQ f _ h3)
theorem ev_run_con {l : Launch} (hl : l.stackTraces = false) {avs : List mV} {σ σ' : mS} {x : mX} {Q : mX → mS → Prop} (h : ev_run Gd j avs σ x σ') (hQ : Q x σ') : m_ConI l j avs σ Q := by
  obtain ⟨f, h⟩ := h
  exact ev_c_con hl f j avs σ x σ' Q h hQ
/-! the judgement of runs, and its rule: what holds of every closed judgement holds of the run -/
def ev_CC (Gd : ev_G) (j : Nat) (avs : List mV) (σ : mS) (Q : mX → mS → Prop) : Prop := ∃ x σ', ev_run Gd j avs σ x σ' ∧ Q x σ'
def ev_cl (Gd : ev_G) (CC : Nat → List mV → mS → (mX → mS → Prop) → Prop) (j : Nat) (z : mAl) (xs0 : ab_X) (Q : mX → mS → Prop) (J : Nat → List (Option mV) → List mV → mS → Nat → Nat → Prop) : Prop := ∀ pc L st σ k n, Gd j z (pc, L, st, σ, k, n) → m_step m_mt CC z.1.2.2.2.1 z.1.2.2.2.2.1 z.1.2.2.1 z.2.1 z.1.2.2.2.2.1.cells z.1.2.2.2.2.1.slots Q xs0 (ab_TT z Q J) J pc L st σ k n → J pc L st σ k n
def ev_rule (Gd : ev_G) (CC : Nat → List mV → mS → (mX → mS → Prop) → Prop) : Prop := ∀ (j : Nat) (z : mAl) (avs : List mV) (σ : mS) (Q : mX → mS → Prop), m_alF[j]? = some z → (m_args avs).length ≤ z.1.2.2.1 → (∀ J : Nat → List (Option mV) → List mV → mS → Nat → Nat → Prop, ev_cl Gd CC j z none Q J → J 0 (m_L0 z.1.2.2.1 avs) [] σ 0 0) → CC j avs σ Q
theorem ev_CC_rule : ev_rule Gd (ev_CC Gd) := by
  intro j z avs σ Q hz hn main
  have up : ∀ {f f' : Nat} {s : ev_T} {q : mX × mS}, f ≤ f' → ev_r none Gd (ev_c Gd f) j z f s = some q → ev_r none Gd (ev_c Gd f') j z f' s = some q :=
    fun hf h => ev_r_mono (fun j avs σ q h => ev_c_mono (fun _ _ _ h => h) _ _ j avs σ q hf h) (fun _ _ _ h => h) _ _ _ hf h
  obtain ⟨f, q, h1, h2⟩ := main (fun pc L st σ k n => ∃ f q, ev_r none Gd (ev_c Gd f) j z f (pc, L, st, σ, k, n) = some q ∧ Q q.1 q.2) (by
    intro pc L st σ k n hG hst
    obtain ⟨o, o1, o2⟩ := ev_nf_ok.mp hst
    have step : ∀ {f : Nat} {q : mX × mS}, ev_ro (fun s' => ev_r none Gd (ev_c Gd f) j z f s' = some q) (ev_c Gd f) z (pc, L, st, σ, k, n) q o → Q q.1 q.2 → ∃ f q, ev_r none Gd (ev_c Gd f) j z f (pc, L, st, σ, k, n) = some q ∧ Q q.1 q.2 := by
      intro f q ho hQ
      refine ⟨f + 1, q, ev_r_succ.mpr ⟨hG, o, o1, ev_ro_mono (fun s' h => ?_) (fun j avs σ q h => ev_c_mono (fun _ _ _ h => h) f (f + 1) j avs σ q (Nat.le_succ f) h) ho⟩, hQ⟩
      exact ev_r_mono (fun j avs σ q h => ev_c_mono (fun _ _ _ h => h) f (f + 1) j avs σ q (Nat.le_succ f) h) (fun _ _ _ h => h) f f s' (Nat.le_refl f) h
    rcases o with s' | e | c
    · obtain ⟨f, q, g1, g2⟩ := o2
      exact step (f := f) g1 g2
    · exact step (f := 0) (q := e) rfl o2
    · obtain ⟨x, σ', ⟨f0, g1⟩, g2⟩ := o2
      cases x with
      | inl v =>
        obtain ⟨f, q, k1, k2⟩ := g2
        refine step (f := max f0 f) (q := q) ⟨.inl v, σ', ev_c_mono (fun _ _ _ h => h) _ _ _ _ _ _ (Nat.le_max_left _ _) g1, ?_⟩ k2
        exact up (Nat.le_max_right _ _) k1
      | inr x =>
        have g2 : ab_TT z Q _ pc L σ' _ _ x := g2
        unfold ab_TT at g2
        cases hh : z.1.2.2.2.2.2 with
        | nil =>
          rw [hh] at g2
          exact step (f := f0) (q := (.inr x, σ')) ⟨.inr x, σ', g1, (by dsimp only; rw [hh]; exact ⟨⟨g2.1, g2.2.1⟩, rfl⟩)⟩ g2.2.2
        | cons w ws =>
          rw [hh] at g2
          obtain ⟨s', h1, f, q, k1, k2⟩ := (ev_hd_J (s := (pc, L, st, σ, k, n)) (c := c)).mp g2
          exact step (f := max f0 f) (q := q) ⟨.inr x, σ', ev_c_mono (fun _ _ _ h => h) _ _ _ _ _ _ (Nat.le_max_left _ _) g1, (by dsimp only; rw [hh]; exact ⟨s', h1, up (Nat.le_max_right _ _) k1⟩)⟩ k2)
  exact ⟨q.1, q.2, ⟨f + 1, ev_c_succ.mpr ⟨z, hz, hn, h1⟩⟩, h2⟩
end EV3
