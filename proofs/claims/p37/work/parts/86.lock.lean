/-! step by step: a run in the one hall is a run in the other -/
theorem sm_condN {r : mRow} {st : List mV} (h : m_cond r st = none) : m_cond r (rS sm_ρ st) = none := by
  obtain ⟨ig, ln, ra, rb, rz, rp⟩ := r
  unfold m_cond at h ⊢
  cases ig
  case ifCond c o =>
    dsimp only at h ⊢
    rcases st with _ | ⟨a | a | _ | p, st⟩ <;> first | rfl | cases h
  case if_icmp c o =>
    dsimp only at h ⊢
    rcases st with _ | ⟨a | a | _ | p, _ | ⟨b | b | _ | p', st⟩⟩ <;> first | rfl | cases h
  case if_acmp c o =>
    dsimp only at h ⊢
    rcases st with _ | ⟨a | a | _ | p, _ | ⟨b | b | _ | p', st⟩⟩ <;> first | rfl | (cases c <;> cases h)
  case ifnull o =>
    dsimp only at h ⊢
    rcases st with _ | ⟨a | a | _ | p, st⟩ <;> first | rfl | cases h
  case ifnonnull o =>
    dsimp only at h ⊢
    rcases st with _ | ⟨a | a | _ | p, st⟩ <;> first | rfl | cases h
  all_goals rfl
section SM5
variable {j pc : Nat} {E : Nat → Nat → Prop} {r : mRow} {L : List (Option mV)} {st st' : List mV} {σ σ2 : mS} {k n : Nat} {m : sm_M}
theorem sm_gs_cond {q : Prop × List mV} (hc : m_cond r st = some q) (hg : sm_gs j pc r = true) : sm_md j r.2.2.1 = sm_md j pc ∧ sm_md j (pc + 3) = sm_md j pc := by
  unfold sm_gs at hg
  cases hs : sm_sp j with
  | false => exact ⟨by rw [sm_md_n hs, sm_md_n hs], by rw [sm_md_n hs, sm_md_n hs]⟩
  | true =>
    rw [hs, Bool.not_true, Bool.false_or] at hg
    obtain ⟨ig, ln, ra, rb, rz, rp⟩ := r
    unfold m_cond at hc
    cases ig
    case ifCond c o => exact ⟨of_decide_eq_true (Bool.and_eq_true_iff.mp hg).2, of_decide_eq_true (Bool.and_eq_true_iff.mp hg).1⟩
    case if_icmp c o => exact ⟨of_decide_eq_true (Bool.and_eq_true_iff.mp hg).2, of_decide_eq_true (Bool.and_eq_true_iff.mp hg).1⟩
    case if_acmp c o => exact ⟨of_decide_eq_true (Bool.and_eq_true_iff.mp hg).2, of_decide_eq_true (Bool.and_eq_true_iff.mp hg).1⟩
    case ifnull o => exact ⟨of_decide_eq_true (Bool.and_eq_true_iff.mp hg).2, of_decide_eq_true (Bool.and_eq_true_iff.mp hg).1⟩
    case ifnonnull o => exact ⟨of_decide_eq_true (Bool.and_eq_true_iff.mp hg).2, of_decide_eq_true (Bool.and_eq_true_iff.mp hg).1⟩
    all_goals cases hc
theorem sm_gs_pure {q : Nat × List (Option mV) × List mV} (hp : m_pure r pc L st = some q) (hg : sm_gs j pc r = true) : sm_md j q.1 = sm_md j pc := by
  unfold sm_gs at hg
  cases hs : sm_sp j with
  | false => rw [sm_md_n hs, sm_md_n hs]
  | true =>
    rw [hs, Bool.not_true, Bool.false_or] at hg
    rcases rn_pc hp with ⟨h1, h2⟩ | ⟨⟨o, h1⟩, h2⟩ | ⟨a, b, c, d, h1⟩
    · rw [h2]
      obtain ⟨ig, ln, ra, rb, rz, rp⟩ := r
      cases ig
      case goto o => exact absurd rfl (h1 o)
      case tableswitch a b c d => cases hg
      case ifCond c o => exact of_decide_eq_true (Bool.and_eq_true_iff.mp hg).1
      case if_icmp c o => exact of_decide_eq_true (Bool.and_eq_true_iff.mp hg).1
      case if_acmp c o => exact of_decide_eq_true (Bool.and_eq_true_iff.mp hg).1
      case ifnull o => exact of_decide_eq_true (Bool.and_eq_true_iff.mp hg).1
      case ifnonnull o => exact of_decide_eq_true (Bool.and_eq_true_iff.mp hg).1
      all_goals exact of_decide_eq_true hg
    · rw [h2]
      obtain ⟨ig, ln, ra, rb, rz, rp⟩ := r
      dsimp only at h1
      subst h1
      exact of_decide_eq_true hg
    · obtain ⟨ig, ln, ra, rb, rz, rp⟩ := r
      dsimp only at h1
      subst h1
      cases hg
theorem sm_bare_ok {o : ev_O} (hg : sm_gs j pc r = true) (h : ev_bare r pc L st σ k n = some o) : ∃ pc' L' st', o = .inl (pc', L', st', σ, k, n) ∧ ev_bare r pc (rL sm_ρ L) (rS sm_ρ st) σ2 k n = some (.inl (pc', rL sm_ρ L', rS sm_ρ st', σ2, k, n)) ∧ sm_md j pc' = sm_md j pc ∧ ∀ G : Nat × Nat → Prop, (∀ v, some v ∈ L → gV G v) → (∀ v ∈ st, gV G v) → (∀ v, some v ∈ L' → gV G v) ∧ ∀ v ∈ st', gV G v := by
  unfold ev_bare at h ⊢
  cases hc : m_cond r st with
  | some q =>
    rw [hc] at h
    dsimp only at h
    obtain ⟨P, p1, p2⟩ := sm_cond hc
    rw [p1]
    dsimp only
    have gm := sm_gs_cond hc hg
    by_cases hq : q.1
    · rw [if_pos hq] at h
      rw [if_pos (p2.mpr hq)]
      cases h
      exact ⟨_, _, _, rfl, rfl, gm.1, fun G h1 h2 => ⟨h1, gV_cond hc h2⟩⟩
    · rw [if_neg hq] at h
      rw [if_neg (fun z => hq (p2.mp z))]
      cases h
      exact ⟨_, _, _, rfl, rfl, gm.2, fun G h1 h2 => ⟨h1, gV_cond hc h2⟩⟩
  | none =>
    rw [hc] at h
    dsimp only at h
    rw [sm_condN hc]
    dsimp only
    rw [rn_pure]
    cases hp : m_pure r pc L st with
    | none => rw [hp] at h; cases h
    | some q =>
      rw [hp] at h
      cases h
      exact ⟨_, _, _, rfl, rfl, sm_gs_pure hp hg, fun G h1 h2 => gV_pure hp h1 h2⟩
theorem rS_drop {ρ : Nat × Nat → mR} {st : List mV} {i : Nat} : (rS ρ st).drop i = rS ρ (st.drop i) := by
  unfold rS
  rw [List.map_drop]
theorem rS_take {ρ : Nat × Nat → mR} {st : List mV} {i : Nat} : (rS ρ st).take i = rS ρ (st.take i) := by
  unfold rS
  rw [List.map_take]
theorem rS_rev {ρ : Nat × Nat → mR} {st : List mV} : (rS ρ st).reverse = rS ρ st.reverse := by
  unfold rS
  rw [List.map_reverse]
theorem rS_len {ρ : Nat × Nat → mR} {st : List mV} : (rS ρ st).length = st.length := List.length_map ..
theorem rS_sum {ρ : Nat × Nat → mR} {l : List mV} : ((rS ρ l).map m_cat).sum = (l.map m_cat).sum := by
  unfold rS
  rw [List.map_map]
  congr 1
  refine List.map_congr_left (fun x _ => ?_)
  rcases x with a | a | _ | q <;> rfl
theorem rS_mtake {ρ : Nat × Nat → mR} {st : List mV} : m_take (rS ρ st) r = rS ρ (m_take st r) := by
  unfold m_take
  rw [rS_take, rS_rev]
theorem sm_callV_ok {R : Room} {y : mMt} {o : ev_O} (h : ev_callV R y r st k n = some o) : ∃ c, o = .inr (.inr c) ∧ c.1 = r.2.2.1 ∧ ev_callV R y r (rS sm_ρ st) k n = some (.inr (.inr (c.1, c.2.1, rS sm_ρ c.2.2.1, rS sm_ρ c.2.2.2))) ∧ ∀ G : Nat × Nat → Prop, (∀ v ∈ st, gV G v) → (∀ v ∈ c.2.2.1, gV G v) ∧ ∀ v ∈ c.2.2.2, gV G v := by
  unfold ev_callV at h ⊢
  rw [rS_drop]
  cases hd : st.drop r.2.2.2.1 with
  | nil => rw [hd] at h; cases h
  | cons w st1 =>
    rw [hd] at h
    rcases w with a | a | _ | q
    · cases h
    · cases h
    · cases h
    · obtain ⟨⟨e1, e2, e3, e4⟩, e5⟩ := ev_if_some.mp h
      cases e5
      have hmem : ∀ v ∈ st.drop r.2.2.2.1, v ∈ st := fun v hv => List.mem_of_mem_drop hv
      rw [hd] at hmem
      refine ⟨_, rfl, rfl, ?_, fun G hG => ⟨fun v hv => ?_, fun v hv => hG v (hmem v (List.mem_cons_of_mem _ hv))⟩⟩
      · refine ev_if_some.mpr ⟨⟨e1, by rw [rS_take, rS_len]; exact e2, by show ((rS sm_ρ st1).map m_cat).sum ≤ 8; rw [rS_sum]; exact e3, e4⟩, ?_⟩
        show some (Sum.inr (Sum.inr (r.2.2.1, y, .inr (.inr (some (m_p r 5, q.2 + sm_off q.1))) :: m_take (rS sm_ρ st) r, rS sm_ρ st1))) = some (Sum.inr (Sum.inr (r.2.2.1, y, .inr (.inr (some (m_p r 5, q.2 + sm_off (m_p r 5)))) :: rS sm_ρ (m_take st r), rS sm_ρ st1)))
        rw [rS_mtake, e1]
      · rcases List.mem_cons.mp hv with rfl | hv
        · have := hG _ (hmem _ List.mem_cons_self)
          have this : G q := this
          show G (m_p r 5, q.2)
          rw [← e1]
          exact this
        · exact hG v (List.mem_of_mem_take (List.mem_reverse.mp hv))
theorem sm_callS_ok {R : Room} {y : mMt} {o : ev_O} (h : ev_callS R y r st k n = some o) : ∃ c, o = .inr (.inr c) ∧ c.1 = r.2.2.1 ∧ ev_callS R y r (rS sm_ρ st) k n = some (.inr (.inr (c.1, c.2.1, rS sm_ρ c.2.2.1, rS sm_ρ c.2.2.2))) ∧ ∀ G : Nat × Nat → Prop, (∀ v ∈ st, gV G v) → (∀ v ∈ c.2.2.1, gV G v) ∧ ∀ v ∈ c.2.2.2, gV G v := by
  unfold ev_callS at h ⊢
  obtain ⟨⟨e1, e2, e3⟩, e4⟩ := ev_if_some.mp h
  cases e4
  refine ⟨_, rfl, rfl, ?_, fun G hG => ⟨fun v hv => hG v (List.mem_of_mem_take (List.mem_reverse.mp hv)), fun v hv => hG v (List.mem_of_mem_drop hv)⟩⟩
  refine ev_if_some.mpr ⟨⟨by rw [rS_take, rS_len]; exact e1, by rw [rS_drop, rS_sum]; exact e2, e3⟩, ?_⟩
  rw [rS_mtake, rS_drop]
/-- what an outcome of a step is beside that of the other -/
def sm_oq (j : Nat) (E : Nat → Nat → Prop) (pc : Nat) (σ σ2 : mS) (o2 : Option ev_O) (o : ev_O) : Prop := match o with
  | .inl s' => ∃ s2', o2 = some (.inl s2') ∧ sm_sr j E s' s2' ∧ sm_mono j σ s'.2.2.2.1 ∧ sm_f2 σ2 s2'.2.2.2.1
  | .inr (.inl e) => ∃ v, e = (.inl v, σ) ∧ o2 = some (.inr (.inl (.inl (v.map (rn sm_ρ)), σ2))) ∧ (∀ w, v = some w → gV (sm_gd none σ) w ∧ (sm_NT j = true → gV (fun _ => False) w)) ∧ sm_hr none E σ σ2
  | .inr (.inr c) => o2 = some (.inr (.inr (c.1, c.2.1, rS sm_ρ c.2.2.1, rS sm_ρ c.2.2.2))) ∧ (∀ v ∈ c.2.2.1, gV (sm_gd (sm_md j pc) σ) v) ∧ (∀ v ∈ c.2.2.2, gV (sm_gd (sm_md j pc) σ) v) ∧ sm_md j (pc + 3) = sm_md j pc ∧ ((sm_md j pc = none ∧ (sm_NT j = true → sm_NT c.1 = true)) ∨ ∃ un, sm_md j pc = some (10, true, un) ∧ sm_NT c.1 = true ∧ sm_NT j = false)
def sm_out (j : Nat) (E : Nat → Nat → Prop) (z : mAl) (s s2 : ev_T) (o : ev_O) : Prop := sm_oq j E s.1 s.2.2.2.1 s2.2.2.2.1 (ev_st none z s2) o
theorem sm_sp_NT (h : sm_sp j = true) : sm_NT j = false := by
  unfold sm_sp at h
  simp only [Bool.or_eq_true] at h
  rcases h with h | h | h <;> (rw [Nat.eq_of_beq_eq_true h]; rfl)
theorem sm_gc_ok (hg : sm_gc j pc r = true) : sm_md j (pc + 3) = sm_md j pc ∧ ((sm_md j pc = none ∧ (sm_NT j = true → sm_NT r.2.2.1 = true)) ∨ ∃ un, sm_md j pc = some (10, true, un) ∧ sm_NT r.2.2.1 = true ∧ sm_NT j = false) := by
  unfold sm_gc at hg
  rw [Bool.and_eq_true] at hg
  refine ⟨of_decide_eq_true hg.1, ?_⟩
  have g := hg.2
  cases hm : sm_md j pc with
  | none =>
    rw [hm] at g
    refine Or.inl ⟨rfl, fun hn => ?_⟩
    rw [hn] at g
    exact g
  | some q =>
    rw [hm] at g
    dsimp only at g
    rw [Bool.and_eq_true, Bool.and_eq_true] at g
    obtain ⟨q1, q2, q3⟩ := q
    refine Or.inr ⟨q3, ?_, g.2.2, ?_⟩
    · have e1 : q1 = 10 := Nat.eq_of_beq_eq_true g.1
      have e2 : q2 = true := g.2.1
      rw [e1, e2]
    · cases hs : sm_sp j with
      | true => exact sm_sp_NT hs
      | false => rw [sm_md_n hs] at hm; cases hm
/-- at an end nothing is under way -/
theorem sm_gr_ok (hr : sm_hr (sm_md j pc) E σ σ2) (hg : sm_gr j pc = true) : sm_hr none E σ σ2 ∧ ∀ q, sm_gd (sm_md j pc) σ q → sm_gd none σ q := by
  unfold sm_gr at hg
  cases hm : sm_md j pc with
  | none => rw [hm] at hr; exact ⟨hr, fun q h => h⟩
  | some z =>
    rw [hm] at hg hr
    dsimp only at hg
    rw [Bool.and_eq_true] at hg
    obtain ⟨c0, b, un⟩ := z
    obtain ⟨g1, g2⟩ := hg
    have e1 : b = true := g1
    have e2 : un = [] := List.isEmpty_iff.mp g2
    clear g1 g2
    subst e1; subst e2
    refine ⟨⟨fun c i k hce hd => hr.1 c i k hce (fun hd0 => hd ?_), hr.2⟩, fun q h => ⟨h.1, fun hc => ?_⟩⟩
    · rcases hd0 with ⟨d1, d2⟩ | d
      · refine Or.inl ⟨d1, ?_⟩
        have d2 : if c = c0 ∧ (i : Int) + sm_bit true = sm_cn σ c then k ∈ [] else sm_cn σ c ≤ (i : Int) := d2
        show sm_cn σ c ≤ (i : Int)
        by_cases h : c = c0 ∧ (i : Int) + sm_bit true = sm_cn σ c
        · rw [if_pos h] at d2; cases d2
        · rw [if_neg h] at d2; exact d2
      · exact Or.inr d
    · have a := h.2 hc
      have e : sm_x (some (c0, true, [])) q.1 = 0 := by
        unfold sm_x
        dsimp only
        rw [Bool.not_true, Bool.and_false]
        rfl
      have e2 : sm_x (none : sm_M) q.1 = 0 := rfl
      omega
end SM5
set_option maxHeartbeats 4000000 in
theorem sm_step {j : Nat} {E : Nat → Nat → Prop} {z : mAl} {s s2 : ev_T} {o : ev_O} (hE : sm_NT j = true ∨ ∀ i k, ¬ E i k) (hrel : sm_sr j E s s2) (hG : sm_G j z s) (ho : ev_st none z s = some o) : sm_out j E z s s2 o := by
  obtain ⟨pc, L, st, σ, k, n⟩ := s
  obtain ⟨pc2, L2, st2, σ2, kn⟩ := s2
  obtain ⟨h1, h2, h3, hL, hS, hr, h4⟩ := hrel
  dsimp only at h1 h2 h3 hL hS hr h4
  have h1 := h1.symm
  subst h1; subst h2; subst h3; subst h4
  unfold sm_G at hG
  show sm_oq j E pc σ σ2 (ev_nf none m_mt z.1.2.2.2.1 z.1.2.2.2.2.1 z.1.2.2.1 z.2.1 z.1.2.2.2.2.1.cells z.1.2.2.2.2.1.slots pc (rL sm_ρ L) (rS sm_ρ st) σ2 k n) o
  unfold ev_st at ho
  unfold ev_nf at ho ⊢
  dsimp only at hG ho ⊢
  cases hrow : m_at z.2.1 pc with
  | none => rw [hrow] at hG; exact hG.elim
  | some r =>
  rw [hrow] at hG ho
  dsimp only at hG ho ⊢
  -- the same heap, what is under way stays
  have nw : ∀ {pc' : Nat} {o1 o2 : Option (List mV)}, sm_md j pc' = sm_md j pc → (∀ st', o1 = some st' → o2 = some (rS sm_ρ st') ∧ ∀ v ∈ st', gV (sm_gd (sm_md j pc) σ) v) → ev_nw pc' L σ k n o1 = some o → ∃ s', o = .inl s' ∧ ∃ s2', ev_nw pc' (rL sm_ρ L) σ2 k n o2 = some (.inl s2') ∧ sm_sr j E s' s2' ∧ sm_mono j σ s'.2.2.2.1 ∧ sm_f2 σ2 s2'.2.2.2.1 := by
    intro pc' o1 o2 hm hh h
    cases o1 with
    | none => cases h
    | some st' =>
      cases h
      obtain ⟨g1, g2⟩ := hh st' rfl
      subst g1
      refine ⟨_, rfl, _, rfl, ⟨rfl, rfl, rfl, ?_, ?_, ?_, rfl⟩, sm_mono.rf, sm_f2.rf⟩
      · show ∀ v, some v ∈ L → gV (sm_gd (sm_md j pc') σ) v
        rw [hm]; exact hL
      · show ∀ v ∈ st', gV (sm_gd (sm_md j pc') σ) v
        rw [hm]; exact g2
      · show sm_hr (sm_md j pc') E σ σ2
        rw [hm]; exact hr
  -- another heap
  have nx : ∀ {pc' : Nat} {o1 o2 : Option ev_H}, (∀ q, o1 = some q → ∃ σ2', o2 = some (rS sm_ρ q.1, σ2') ∧ (∀ v, some v ∈ L → gV (sm_gd (sm_md j pc') q.2) v) ∧ (∀ v ∈ q.1, gV (sm_gd (sm_md j pc') q.2) v) ∧ sm_hr (sm_md j pc') E q.2 σ2' ∧ sm_mono j σ q.2 ∧ sm_f2 σ2 σ2') → ev_nx pc' L k n o1 = some o → ∃ s', o = .inl s' ∧ ∃ s2', ev_nx pc' (rL sm_ρ L) k n o2 = some (.inl s2') ∧ sm_sr j E s' s2' ∧ sm_mono j σ s'.2.2.2.1 ∧ sm_f2 σ2 s2'.2.2.2.1 := by
    intro pc' o1 o2 hh h
    cases o1 with
    | none => cases h
    | some q =>
      cases h
      obtain ⟨σ2', g1, g2, g3, g4, g5, g6⟩ := hh q rfl
      subst g1
      exact ⟨_, rfl, _, rfl, ⟨rfl, rfl, rfl, g2, g3, g4, rfl⟩, g5, g6⟩
  have fin : ∀ {o2 : Option ev_O}, (∃ s', o = .inl s' ∧ ∃ s2', o2 = some (.inl s2') ∧ sm_sr j E s' s2' ∧ sm_mono j σ s'.2.2.2.1 ∧ sm_f2 σ2 s2'.2.2.2.1) → sm_oq j E pc σ σ2 o2 o := by
    rintro o2 ⟨s', rfl, h⟩
    exact h
  have call : ∀ {o2 : Option ev_O}, sm_gc j pc r = true → (∃ c, o = .inr (.inr c) ∧ c.1 = r.2.2.1 ∧ o2 = some (.inr (.inr (c.1, c.2.1, rS sm_ρ c.2.2.1, rS sm_ρ c.2.2.2))) ∧ ∀ G : Nat × Nat → Prop, (∀ v ∈ st, gV G v) → (∀ v ∈ c.2.2.1, gV G v) ∧ ∀ v ∈ c.2.2.2, gV G v) → sm_oq j E pc σ σ2 o2 o := by
    rintro o2 hg ⟨c, rfl, e1, e2, e3⟩
    obtain ⟨g1, g2⟩ := sm_gc_ok hg
    rw [← e1] at g2
    exact ⟨e2, (e3 _ hS).1, (e3 _ hS).2, g1, g2⟩
  have ret : ∀ {ov : Option (Option mV)} {o2 : Option ev_O}, sm_gr j pc = true → (∀ v, ov = some v → o2 = ev_ny σ2 (some (v.map (rn sm_ρ))) ∧ ∀ w, v = some w → w ∈ st ∧ (sm_NT j = true → gV (fun _ => False) w)) → ev_ny σ ov = some o → sm_oq j E pc σ σ2 o2 o := by
    intro ov o2 hg hh h
    cases ov with
    | none => cases h
    | some v =>
      cases h
      obtain ⟨g1, g2⟩ := hh v rfl
      obtain ⟨k1, k2⟩ := sm_gr_ok hr hg
      exact ⟨v, rfl, g1, fun w hw => ⟨gV_mono k2 (hS w (g2 w hw).1), (g2 w hw).2⟩, k1⟩
  obtain ⟨ig, ln, ra, rb, rz, rp⟩ := r
  cases ig
  case getfield i =>
    have hg : sm_gg j pc (.getfield i, ln, ra, rb, rz, rp) = true := hG
    have hm : sm_md j (pc + 3) = sm_md j pc := by
      unfold sm_gg at hg
      rw [Bool.and_eq_true] at hg
      exact of_decide_eq_true hg.1
    exact fin (nw hm (fun st' h => sm_get_ok hE hS hr hg h) ho)
  case putfield i => exact fin (nx (fun q h => sm_put_ok hL hS hr hG h) ho)
  case arraylength =>
    dsimp only at ho ⊢
    have hxs : ∀ l : List mV, m_isx (rS sm_ρ l) 0 = m_isx l 0 := by
      intro l
      rcases l with _ | ⟨a | a | _ | q, l⟩ <;> rfl
    rw [hxs]
    cases hi : m_isx st 0 with
    | true => rw [hi] at ho; cases ho
    | false => rw [hi] at ho; exact fin (nw (of_decide_eq_true hG) (fun st' h => sm_len_ok hS hr h) ho)
  case iaload =>
    dsimp only at ho ⊢
    have hxs : ∀ l : List mV, m_isx (rS sm_ρ l) 1 = m_isx l 1 := by
      intro l
      rcases l with _ | ⟨b, _ | ⟨a | a | _ | q, l⟩⟩ <;> rfl
    rw [hxs]
    cases hi : m_isx st 1 with
    | true => rw [hi] at ho; cases ho
    | false => rw [hi] at ho; exact fin (nw (of_decide_eq_true hG.1) (fun st' h => sm_ald_ok (Or.inl ⟨rfl, hG.2⟩) hS hr h) ho)
  case laload => exact fin (nw (of_decide_eq_true hG) (fun st' h => sm_ald_ok (Or.inr rfl) hS hr h) ho)
  case aaload =>
    dsimp only at ho ⊢
    cases ha : ev_aldq σ st with
    | none => rw [ha] at ho; cases ho
    | some st' =>
      rw [ha] at ho
      cases ho
      obtain ⟨g1, g2, g3, g4⟩ := sm_ga_ok hL hS hr hG ha
      rw [g1]
      exact ⟨_, rfl, ⟨rfl, rfl, rfl, g2, g3, g4, rfl⟩, sm_mono.rf, sm_f2.rf⟩
  case iastore => exact fin (nx (fun q h => sm_iast_ok hL hS hr hG h) ho)
  case lastore =>
    have hm : sm_md j (pc + 1) = sm_md j pc := of_decide_eq_true hG
    exact fin (nx (pc' := pc + 1) (fun q h => by rw [hm]; exact sm_last_ok hL hS hr h) ho)
  case invokevirtual i =>
    dsimp only at ho ⊢
    obtain ⟨g1, g2⟩ := ev_if_some.mp ho
    cases hy : m_mt[ra]? with
    | none => rw [hy] at g2; cases g2
    | some y =>
      rw [hy] at g2
      refine call hG ?_
      obtain ⟨c, c1, c2, c3, c4⟩ := sm_callV_ok g2
      exact ⟨c, c1, c2, ev_if_some.mpr ⟨by rw [rn_len]; exact g1, c3⟩, c4⟩
  case invokespecial i =>
    dsimp only at ho ⊢
    obtain ⟨g1, g2⟩ := ev_if_some.mp ho
    have hne : ¬ ra = 2000 := hG.2
    rw [if_neg hne] at g2
    cases hy : m_mt[ra]? with
    | none => rw [hy] at g2; cases g2
    | some y =>
      rw [hy] at g2
      refine call hG.1 ?_
      obtain ⟨c, c1, c2, c3, c4⟩ := sm_callV_ok g2
      exact ⟨c, c1, c2, ev_if_some.mpr ⟨by rw [rn_len]; exact g1, by rw [if_neg hne]; exact c3⟩, c4⟩
  case invokestatic i =>
    dsimp only at ho ⊢
    obtain ⟨g1, g2⟩ := ev_if_some.mp ho
    by_cases ha : 1000 ≤ ra
    · rw [if_pos ha] at g2
      have hm := (sm_gc_ok hG).1
      obtain ⟨s', e1, s2', e2, e3⟩ := nw hm (o2 := ev_math z.1.2.2.2.2.1 ra (rS sm_ρ st)) (fun st' h => ⟨(sm_math_ok h).1, (sm_math_ok h).2 _ hS⟩) g2
      exact fin ⟨s', e1, s2', ev_if_some.mpr ⟨by rw [rn_len]; exact g1, by rw [if_pos ha]; exact e2⟩, e3⟩
    · rw [if_neg ha] at g2
      cases hy : m_mt[ra]? with
      | none => rw [hy] at g2; cases g2
      | some y =>
        rw [hy] at g2
        refine call hG ?_
        obtain ⟨c, c1, c2, c3, c4⟩ := sm_callS_ok g2
        exact ⟨c, c1, c2, ev_if_some.mpr ⟨by rw [rn_len]; exact g1, by rw [if_neg ha]; exact c3⟩, c4⟩
  case ireturn =>
    dsimp only at ho ⊢
    obtain ⟨g1, g2⟩ := ev_if_some.mp ho
    refine ret hG (fun v hv => ?_) g2
    rcases st with _ | ⟨a | a | a, _ | ⟨b, st⟩⟩ <;> first | cases hv | skip
    obtain ⟨k1, k2⟩ := ev_if_some.mp hv
    cases k2
    exact ⟨ev_if_some.mpr ⟨g1, congrArg (ev_ny σ2) (ev_if_some.mpr ⟨k1, rfl⟩)⟩, (fun w hw => by cases hw; exact ⟨List.mem_cons_self, fun _ => trivial⟩)⟩
  case lreturn =>
    dsimp only at ho ⊢
    obtain ⟨g1, g2⟩ := ev_if_some.mp ho
    refine ret hG (fun v hv => ?_) g2
    rcases st with _ | ⟨a | a | a, _ | ⟨b, st⟩⟩ <;> first | cases hv | skip
    obtain ⟨k1, k2⟩ := ev_if_some.mp hv
    cases k2
    exact ⟨ev_if_some.mpr ⟨g1, congrArg (ev_ny σ2) (ev_if_some.mpr ⟨k1, rfl⟩)⟩, (fun w hw => by cases hw; exact ⟨List.mem_cons_self, fun _ => trivial⟩)⟩
  case areturn =>
    dsimp only at ho ⊢
    obtain ⟨g1, g2⟩ := ev_if_some.mp ho
    refine ret hG.1 (fun v hv => ?_) g2
    rcases st with _ | ⟨a | a | a, _ | ⟨b, st⟩⟩ <;> first | cases hv | skip
    obtain ⟨k1, k2⟩ := ev_if_some.mp hv
    cases k2
    refine ⟨ev_if_some.mpr ⟨g1, ?_⟩, (fun w hw => by cases hw; exact ⟨List.mem_cons_self, fun hn => by rw [hG.2] at hn; cases hn⟩)⟩
    cases a with
    | none => exact congrArg (ev_ny σ2) (ev_if_some.mpr ⟨k1, rfl⟩)
    | some q => exact congrArg (ev_ny σ2) (ev_if_some.mpr ⟨k1, rfl⟩)
  case return_ =>
    dsimp only at ho ⊢
    obtain ⟨g1, g2⟩ := ev_if_some.mp ho
    cases g2
    obtain ⟨k1, k2⟩ := sm_gr_ok hr hG
    refine ⟨none, rfl, ev_if_some.mpr ⟨⟨g1.1, g1.2.1, g1.2.2.1, by rw [g1.2.2.2]; rfl⟩, rfl⟩, (fun w hw => by cases hw), k1⟩
  case new i => exact hG.elim
  case newarray i => exact hG.elim
  case anewarray i => exact hG.elim
  case multianewarray i d => exact hG.elim
  case baload => exact hG.elim
  case bastore => exact hG.elim
  case aastore => exact hG.elim
  all_goals
    obtain ⟨pc', L', st', e1, e2, e3, e4⟩ := sm_bare_ok (σ2 := σ2) hG ho
    refine fin ⟨_, e1, _, e2, ⟨rfl, rfl, rfl, ?_, ?_, ?_, rfl⟩, sm_mono.rf, sm_f2.rf⟩
    · show ∀ v, some v ∈ L' → gV (sm_gd (sm_md j pc') σ) v
      rw [e3]; exact (e4 _ hL hS).1
    · show ∀ v ∈ st', gV (sm_gd (sm_md j pc') σ) v
      rw [e3]; exact (e4 _ hL hS).2
    · show sm_hr (sm_md j pc') E σ σ2
      rw [e3]; exact hr
