/-! a call's run in the one hall is a run in the other -/
theorem rn_args {ρ : Nat × Nat → mR} : ∀ {avs : List mV}, m_args (rS ρ avs) = rL ρ (m_args avs)
  | [] => rfl
  | x :: t => by
    have ih := rn_args (ρ := ρ) (avs := t)
    have e : ∀ (y : mV) (l : List mV), m_args (y :: l) = (match y with
      | .inr (.inl _) => [some y, none]
      | _ => [some y]) ++ m_args l := fun y l => List.flatMap_cons ..
    show m_args (rn ρ x :: rS ρ t) = _
    rw [e, e, ih]
    rcases x with a | a | _ | q <;> rfl
theorem rn_L0 {ρ : Nat × Nat → mR} {nL : Nat} {avs : List mV} : m_L0 nL (rS ρ avs) = rL ρ (m_L0 nL avs) := by
  unfold m_L0
  rw [rn_args, rn_len]
  unfold rL
  rw [List.map_append, List.map_replicate]
  rfl
theorem m_L0_mem {nL : Nat} {avs : List mV} {v : mV} (h : some v ∈ m_L0 nL avs) : v ∈ avs := by
  unfold m_L0 at h
  rcases List.mem_append.mp h with h | h
  · unfold m_args at h
    obtain ⟨x, x1, x2⟩ := List.mem_flatMap.mp h
    rcases x with a | a | a
    · have e := List.mem_singleton.mp x2
      cases e
      exact x1
    · rcases List.mem_cons.mp x2 with e | e
      · cases e
        exact x1
      · have e := List.mem_singleton.mp e
        cases e
    · have e := List.mem_singleton.mp x2
      cases e
      exact x1
  · have := (List.mem_replicate.mp h).2
    cases this
abbrev sm_all : ev_G := fun _ _ _ => True
/-- what a call's run is beside that of the other -/
def sm_lk (f j : Nat) (avs : List mV) (σ : mS) (x : mX) (σ' : mS) (E : Nat → Nat → Prop) (σ2 : mS) : Prop := ∃ v σ2', x = .inl v ∧ ev_c sm_all f j (rS sm_ρ avs) σ2 = some (.inl (v.map (rn sm_ρ)), σ2') ∧ (∀ w, v = some w → gV (sm_gd none σ') w ∧ (sm_NT j = true → gV (fun _ => False) w)) ∧ sm_hr none E σ' σ2' ∧ sm_mono j σ σ' ∧ sm_f2 σ2 σ2'
theorem sm_lockr {f : Nat} (IH : ∀ (j : Nat) (avs : List mV) (σ : mS) (x : mX) (σ' : mS) (σ2 : mS) (E : Nat → Nat → Prop), ev_c sm_G f j avs σ = some (x, σ') → (sm_NT j = true ∨ ∀ i k, ¬ E i k) → (∀ v ∈ avs, gV (sm_gd none σ) v) → sm_hr none E σ σ2 → sm_lk f j avs σ x σ' E σ2)
    {j : Nat} {z : mAl} {E : Nat → Nat → Prop} (hE : sm_NT j = true ∨ ∀ i k, ¬ E i k) : ∀ (g : Nat) (s s2 : ev_T) (x : mX) (σ' : mS), ev_r none sm_G (ev_c sm_G f) j z g s = some (x, σ') → sm_sr j E s s2 →
    ∃ v σ2', x = .inl v ∧ ev_r none sm_all (ev_c sm_all f) j z g s2 = some (.inl (v.map (rn sm_ρ)), σ2') ∧ (∀ w, v = some w → gV (sm_gd none σ') w ∧ (sm_NT j = true → gV (fun _ => False) w)) ∧ sm_hr none E σ' σ2' ∧ sm_mono j s.2.2.2.1 σ' ∧ sm_f2 s2.2.2.2.1 σ2'
  | 0, _, _, _, _, h, _ => by cases h
  | g + 1, s, s2, x, σ', h, hrel => by
    obtain ⟨hG, o, ho, hro⟩ := ev_r_succ.mp h
    have hout := sm_step hE hrel hG ho
    rcases o with s' | e | c
    · obtain ⟨s2', h1, h2, h3, h3f⟩ := hout
      obtain ⟨v, σ2', g1, g2, g3, g4, g5, g6⟩ := sm_lockr IH hE g s' s2' x σ' hro h2
      exact ⟨v, σ2', g1, ev_r_succ.mpr ⟨trivial, _, h1, g2⟩, g3, g4, h3.tr g5, h3f.tr g6⟩
    · obtain ⟨v, h1, h2, h3, h4⟩ := hout
      have e1 : e = (x, σ') := hro
      rw [h1] at e1
      cases e1
      exact ⟨v, _, rfl, ev_r_succ.mpr ⟨trivial, _, h2, rfl⟩, h3, h4, sm_mono.rf, sm_f2.rf⟩
    · obtain ⟨h1, h2, h3, h4, h5⟩ := hout
      obtain ⟨y, τ, c1, c2⟩ := hro
      obtain ⟨pc, L, st, σ, k, n⟩ := s
      obtain ⟨pc2, L2, st2, σ2, kn⟩ := s2
      obtain ⟨r1, r2, r3, hL, hS, hr, r4⟩ := hrel
      dsimp only at r1 r2 r3 hL hS hr r4 h1 h2 h3 h4 h5 c1
      have r1 := r1.symm
      subst r1; subst r2; subst r3; subst r4
      have app : ∀ (v : Option mV), rS sm_ρ (v.toList ++ c.2.2.2) = (v.map (rn sm_ρ)).toList ++ rS sm_ρ c.2.2.2 := by
        intro v
        cases v <;> rfl
      have goon : ∀ {v : Option mV} {τ2 : mS}, ev_c sm_all f c.1 (rS sm_ρ c.2.2.1) σ2 = some (.inl (v.map (rn sm_ρ)), τ2) → y = .inl v → (∀ w, v = some w → gV (sm_gd (sm_md j pc) τ) w) → sm_hr (sm_md j pc) E τ τ2 → sm_mono j σ τ → sm_f2 σ2 τ2 →
          ∃ v σ2', x = .inl v ∧ ev_r none sm_all (ev_c sm_all f) j z (g + 1) (pc, rL sm_ρ L, rS sm_ρ st, σ2, k, n) = some (.inl (v.map (rn sm_ρ)), σ2') ∧ (∀ w, v = some w → gV (sm_gd none σ') w ∧ (sm_NT j = true → gV (fun _ => False) w)) ∧ sm_hr none E σ' σ2' ∧ sm_mono j σ σ' ∧ sm_f2 σ2 σ2' := by
        intro v τ2 k1 k2 k3 k4 k5 k6
        subst k2
        have up : ∀ q, sm_gd (sm_md j pc) σ q → sm_gd (sm_md j pc) τ q := fun q hq => sm_gd_mono k5.1 k5.2.1 hq
        obtain ⟨v', σ2', g1, g2, g3, g4, g5, g6⟩ := sm_lockr IH hE g (ev_nxt (pc, L, st, σ, k, n) c v τ) (ev_nxt (pc, rL sm_ρ L, rS sm_ρ st, σ2, k, n) (c.1, c.2.1, rS sm_ρ c.2.2.1, rS sm_ρ c.2.2.2) (v.map (rn sm_ρ)) τ2) x σ' c2 ⟨rfl, rfl, (app v).symm, (by
          show ∀ v, some v ∈ L → gV (sm_gd (sm_md j (pc + 3)) τ) v
          rw [h4]
          exact fun v hv => gV_mono up (hL v hv)), (by
          show ∀ w ∈ v.toList ++ c.2.2.2, gV (sm_gd (sm_md j (pc + 3)) τ) w
          rw [h4]
          intro w hw
          rcases List.mem_append.mp hw with hw | hw
          · cases v with
            | none => cases hw
            | some v =>
              have e := List.mem_singleton.mp hw
              subst e
              exact k3 _ rfl
          · exact gV_mono up (h3 w hw)), (by
          show sm_hr (sm_md j (pc + 3)) E τ τ2
          rw [h4]
          exact k4), rfl⟩
        exact ⟨v', σ2', g1, ev_r_succ.mpr ⟨trivial, _, h1, .inl (v.map (rn sm_ρ)), τ2, k1, g2⟩, g3, g4, k5.tr g5, k6.tr g6⟩
      rcases h5 with ⟨m1, m2⟩ | ⟨un, m1, m2, m3⟩
      · rw [m1] at hr h2
        obtain ⟨v, τ2, k1, k2, k3, k4, k5, k6⟩ := IH c.1 c.2.2.1 σ y τ σ2 E c1 (hE.elim (fun h => Or.inl (m2 h)) Or.inr) h2 hr
        refine goon k2 k1 (fun w hw => by rw [m1]; exact (k3 w hw).1) (by rw [m1]; exact k4) ⟨k5.1, k5.2.1, fun hn => k5.2.2 (m2 hn)⟩ k6
      · have hE0 : ∀ i k, ¬ E i k := hE.elim (fun h => by rw [m3] at h; cases h) (fun h => h)
        rw [m1] at hr h2
        have b1 : sm_bit true = 1 := rfl
        have hr' : sm_hr none (fun i k => (i : Int) + 1 = sm_cn σ 10 ∧ k ∈ un) σ σ2 := by
          refine ⟨fun c' i k' hce hd => hr.1 c' i k' hce (fun hd0 => hd ?_), hr.2⟩
          rcases hd0 with ⟨d1, d2⟩ | ⟨d1, d2⟩
          · have d2 : if c' = 10 ∧ (i : Int) + sm_bit true = sm_cn σ c' then k' ∈ un else sm_cn σ c' ≤ (i : Int) := d2
            by_cases hs : c' = 10 ∧ (i : Int) + sm_bit true = sm_cn σ c'
            · rw [if_pos hs] at d2
              refine Or.inr ⟨hs.1, ?_, d2⟩
              have := hs.2
              rw [hs.1, b1] at this
              exact this
            · rw [if_neg hs] at d2
              exact Or.inl ⟨d1, d2⟩
          · exact absurd d2 (hE0 _ _)
        obtain ⟨v, τ2, k1, k2, k3, k4, k5, k6⟩ := IH c.1 c.2.2.1 σ y τ σ2 (fun i k => (i : Int) + 1 = sm_cn σ 10 ∧ k ∈ un) c1 (Or.inl m2) (fun v hv => gV_mono (fun q hq => ⟨hq.1, fun hc => by
          have a := hq.2 hc
          have e : sm_x (some (10, true, un)) q.1 = 0 := by
            unfold sm_x
            dsimp only
            rw [Bool.not_true, Bool.and_false]
            rfl
          have e2 : sm_x (none : sm_M) q.1 = 0 := rfl
          omega⟩) (h2 v hv)) hr'
        refine goon k2 k1 (fun w hw => by rw [m1]; exact gV_mono (fun q hq => sm_gd_none hq) (k3 w hw).1) ?_ ⟨k5.1, k5.2.1, fun hn => k5.2.2 m2⟩ k6
        rw [m1]
        refine ⟨fun c' i k' hce hd => k4.1 c' i k' hce (fun hd0 => hd ?_), k4.2⟩
        rcases hd0 with ⟨d1, d2⟩ | ⟨d1, d2, d3⟩
        · refine Or.inl ⟨d1, ?_⟩
          have d2 : sm_cn τ c' ≤ (i : Int) := d2
          show if c' = 10 ∧ (i : Int) + sm_bit true = sm_cn τ c' then k' ∈ un else sm_cn τ c' ≤ (i : Int)
          rw [if_neg (fun z => by have := z.2; omega)]
          exact d2
        · refine Or.inl ⟨Or.inr (Or.inl d1), ?_⟩
          show if c' = 10 ∧ (i : Int) + sm_bit true = sm_cn τ c' then k' ∈ un else sm_cn τ c' ≤ (i : Int)
          rw [if_pos ⟨d1, by rw [d1, k5.2.2 m2, b1]; exact d2⟩]
          exact d3
theorem sm_lock : ∀ (f j : Nat) (avs : List mV) (σ : mS) (x : mX) (σ' : mS) (σ2 : mS) (E : Nat → Nat → Prop), ev_c sm_G f j avs σ = some (x, σ') → (sm_NT j = true ∨ ∀ i k, ¬ E i k) → (∀ v ∈ avs, gV (sm_gd none σ) v) → sm_hr none E σ σ2 → sm_lk f j avs σ x σ' E σ2
  | 0, _, _, _, _, _, _, _, h, _, _, _ => by cases h
  | f + 1, j, avs, σ, x, σ', σ2, E, h, hE, hav, hr => by
    obtain ⟨z, h1, h3, h4⟩ := ev_c_succ.mp h
    obtain ⟨v, σ2', g1, g2, g3, g4, g5, g6⟩ := sm_lockr (sm_lock f) hE f (0, m_L0 z.1.2.2.1 avs, [], σ, 0, 0) (0, m_L0 z.1.2.2.1 (rS sm_ρ avs), [], σ2, 0, 0) x σ' h4 ⟨rfl, rn_L0, rfl, (by
      show ∀ v, some v ∈ m_L0 z.1.2.2.1 avs → gV (sm_gd (sm_md j 0) σ) v
      rw [sm_md_0]
      exact fun v hv => hav v (m_L0_mem hv)), (fun v hv => by cases hv), (by
      show sm_hr (sm_md j 0) E σ σ2
      rw [sm_md_0]
      exact hr), rfl⟩
    exact ⟨v, σ2', g1, ev_c_succ.mpr ⟨z, h1, by rw [rn_args, rn_len]; exact h3, g2⟩, g3, g4, g5, g6⟩
