/-! a step in the one hall beside a step in the other -/
/-- both states, of the method j -/
def sm_sr (j : Nat) (E : Nat → Nat → Prop) (s s2 : ev_T) : Prop := s2.1 = s.1 ∧ s2.2.1 = rL sm_ρ s.2.1 ∧ s2.2.2.1 = rS sm_ρ s.2.2.1 ∧ (∀ v, some v ∈ s.2.1 → gV (sm_gd (sm_md j s.1) s.2.2.2.1) v) ∧ (∀ v ∈ s.2.2.1, gV (sm_gd (sm_md j s.1) s.2.2.2.1) v) ∧ sm_hr (sm_md j s.1) E s.2.2.2.1 s2.2.2.2.1 ∧ s2.2.2.2.2 = s.2.2.2.2
def sm_mono (j : Nat) (σ σ' : mS) : Prop := σ'.1 = σ.1 ∧ (∀ c, sm_cn σ c ≤ sm_cn σ' c) ∧ (sm_NT j = true → ∀ c, sm_cn σ' c = sm_cn σ c)
theorem sm_mono.rf {j : Nat} {σ : mS} : sm_mono j σ σ := ⟨rfl, fun _ => Int.le_refl _, fun _ _ => rfl⟩
theorem sm_mono.tr {j : Nat} {σ σ' σ'' : mS} (h : sm_mono j σ σ') (g : sm_mono j σ' σ'') : sm_mono j σ σ'' := ⟨g.1.trans h.1, fun c => Int.le_trans (h.2.1 c) (g.2.1 c), fun hn c => (g.2.2 hn c).trans (h.2.2 hn c)⟩
section SM4
variable {j pc : Nat} {E : Nat → Nat → Prop} {r : mRow} {L : List (Option mV)} {st st' : List mV} {σ σ2 : mS} {k n : Nat} {m : sm_M}
theorem sm_in_mx {c i : Nat} (h : sm_in σ c i) (hc : c ≠ 1) : i < sm_mx c := h.elim (fun h => h) (fun h => absurd h.1 hc)
theorem sm_get_ok (hE : sm_NT j = true ∨ ∀ i k, ¬ E i k) (hS : ∀ v ∈ st, gV (sm_gd (sm_md j pc) σ) v) (hr : sm_hr (sm_md j pc) E σ σ2) (hg : sm_gg j pc r = true) (h : ev_get r σ st = some st') : ev_get r σ2 (rS sm_ρ st) = some (rS sm_ρ st') ∧ ∀ v ∈ st', gV (sm_gd (sm_md j pc) σ) v := by
  rcases st with _ | ⟨a | a | _ | q, st⟩
  · cases h
  · cases h
  · cases h
  · cases h
  · obtain ⟨e1, e2⟩ := ev_if_some.mp h
    cases e2
    have hq : sm_gd (sm_md j pc) σ q := hS _ List.mem_cons_self
    unfold sm_gg at hg
    simp only [Bool.and_eq_true, Bool.or_eq_true, Bool.not_eq_true', Nat.blt_eq] at hg
    obtain ⟨-, ⟨g1, g2⟩, g3, g4, g5⟩ := hg
    have g3' : r.2.2.1 = 1 → r.2.2.2.1 < 8 := fun z => g3.elim (fun g => by rw [z] at g; cases g) (fun g => g)
    have hce : sm_ce σ r.2.2.1 q.2 r.2.2.2.1 := ⟨by rw [← e1]; exact hq.1, ⟨by omega, by omega, by omega⟩, fun _ => g2, g3', fun z => by omega⟩
    have hnd : ¬ sm_dd (sm_md j pc) E σ r.2.2.1 q.2 r.2.2.2.1 := by
      rintro (⟨hc, hd⟩ | ⟨hc, he⟩)
      · have hl := hq.2 (by rw [e1]; rcases hc with c | c | c; exact Or.inl c.1; exact Or.inr (Or.inl c); exact Or.inr (Or.inr c))
        rw [e1] at hl
        unfold sm_de at hd
        unfold sm_x at hl
        cases hm : sm_md j pc with
        | none =>
          rw [hm] at hd hl
          dsimp only at hd hl
          omega
        | some z =>
          rw [hm] at hd hl g5
          dsimp only at hd hl g5
          cases hb : Nat.beq r.2.2.1 z.1 with
          | false =>
            rw [hb] at hl
            rw [if_neg (fun y => by rw [y.1, Nat.beq_refl] at hb; cases hb)] at hd
            simp only [Bool.false_and, cond_false] at hl
            omega
          | true =>
            rw [hb] at g5 hl
            simp only [Bool.not_true, Bool.false_or, Bool.and_eq_true, Bool.not_eq_true'] at g5
            rw [g5.1] at hl hd
            simp only [Bool.not_true, Bool.and_false, cond_false] at hl
            have e3 := Nat.eq_of_beq_eq_true hb
            by_cases hi : (q.2 : Int) + sm_bit true = sm_cn σ r.2.2.1
            · rw [if_pos ⟨e3, hi⟩] at hd
              have : z.2.2.any (Nat.beq r.2.2.2.1) = true := List.any_eq_true.mpr ⟨_, hd, Nat.beq_refl _⟩
              rw [this] at g5
              cases g5.2
            · rw [if_neg (fun y => hi y.2)] at hd
              omega
      · rcases hE with hn | hE
        · rw [hn] at g4
          rcases g4 with g | g
          · cases g
          · rw [hc] at g; cases g
        · exact hE _ _ he
    obtain ⟨k1, k2⟩ := hr.1 _ _ _ hce hnd
    refine ⟨?_, fun v hv => ?_⟩
    · refine ev_if_some.mpr ⟨e1, ?_⟩
      show some (m_get σ2 r.2.2.1 (q.2 + sm_off q.1) r.2.2.2.1 :: rS sm_ρ st) = some (rn sm_ρ (m_get σ r.2.2.1 q.2 r.2.2.2.1) :: rS sm_ρ st)
      rw [e1, k1]
    · rcases List.mem_cons.mp hv with rfl | hv
      · exact gV_mono (fun q hq => sm_gh_gd hq) k2
      · exact hS v (List.mem_cons_of_mem _ hv)
theorem sm_len_ok (hS : ∀ v ∈ st, gV (sm_gd m σ) v) (hr : sm_hr m E σ σ2) (h : ev_len σ st = some st') : ev_len σ2 (rS sm_ρ st) = some (rS sm_ρ st') ∧ ∀ v ∈ st', gV (sm_gd m σ) v := by
  rcases st with _ | ⟨a | a | _ | q, st⟩
  · cases h
  · cases h
  · cases h
  · cases h
  · obtain ⟨e1, e2⟩ := ev_if_some.mp h
    cases e2
    have hq : sm_gd m σ q := hS _ List.mem_cons_self
    refine ⟨?_, fun v hv => ?_⟩
    · refine ev_if_some.mpr ⟨e1, ?_⟩
      show some ((.inl (Int32.ofNat (σ2.2.1 q.1 (q.2 + sm_off q.1))) : mV) :: rS sm_ρ st) = some (.inl (Int32.ofNat (σ.2.1 q.1 q.2)) :: rS sm_ρ st)
      rw [hr.2.1 q.1 q.2 e1.1 (sm_in_mx hq.1 (by omega))]
    · rcases List.mem_cons.mp hv with rfl | hv
      · trivial
      · exact hS v (List.mem_cons_of_mem _ hv)
theorem sm_vin {x : Int32} {l : Nat} (h : vp_in x l) : x.toNatClampNeg < l ∧ (x.toNatClampNeg : Int) = x.toInt := by
  unfold vp_in at h
  have h1 : ¬ x < 0 := fun z => h (Or.inl z)
  have h2 : ¬ l ≤ x.toNatClampNeg := fun z => h (Or.inr z)
  refine ⟨by omega, ?_⟩
  have h3 : 0 ≤ x.toInt := by
    have : ¬ x.toInt < (0 : Int32).toInt := fun z => h1 (Int32.lt_iff_toInt_lt.mpr z)
    have e : (0 : Int32).toInt = 0 := rfl
    omega
  show ((x.toInt.toNat : Nat) : Int) = x.toInt
  omega
theorem sm_ald_ok {c : Nat} (hc : (c = 13 ∧ m = none) ∨ c = 14) (hS : ∀ v ∈ st, gV (sm_gd m σ) v) (hr : sm_hr m E σ σ2) (h : ev_ald c σ st = some st') : ev_ald c σ2 (rS sm_ρ st) = some (rS sm_ρ st') ∧ ∀ v ∈ st', gV (sm_gd m σ) v := by
  rcases st with _ | ⟨x | x | x, _ | ⟨a | a | _ | q, st⟩⟩ <;> first | cases h | skip
  obtain ⟨⟨e1, e2⟩, e3⟩ := ev_if_some.mp h
  cases e3
  have hq : sm_gd m σ q := hS _ (List.mem_cons_of_mem _ List.mem_cons_self)
  have hv := sm_vin e2
  have hlen : σ2.2.1 c (q.2 + sm_off c) = σ.2.1 c q.2 := by
    have := hr.2.1 q.1 q.2 (by omega) (sm_in_mx hq.1 (by omega))
    rw [e1] at this
    exact this
  have hce : sm_ce σ c q.2 x.toNatClampNeg := ⟨by rw [← e1]; exact hq.1, ⟨by omega, by omega, by omega⟩, (fun z => by omega), (fun z => by omega), fun _ => hv.1⟩
  have hnd : ¬ sm_dd m E σ c q.2 x.toNatClampNeg := by
    rintro (⟨hd1, hd⟩ | ⟨hd1, -⟩)
    · rcases hc with ⟨c1, c2⟩ | c1
      · have hl := hq.2 (by rw [e1, c1]; exact Or.inr (Or.inr rfl))
        subst c2
        rw [e1] at hl
        have hd : sm_cn σ c ≤ (q.2 : Int) := hd
        have hxs : sm_x (none : sm_M) c = 0 := rfl
        omega
      · omega
    · omega
  obtain ⟨k1, k2⟩ := hr.1 _ _ _ hce hnd
  refine ⟨?_, fun v hv => ?_⟩
  · refine ev_if_some.mpr ⟨⟨e1, ?_⟩, ?_⟩
    · show vp_in x (σ2.2.1 c (q.2 + sm_off q.1))
      rw [e1, hlen]; exact e2
    · show some (m_get σ2 c (q.2 + sm_off q.1) x.toNatClampNeg :: rS sm_ρ st) = some (rn sm_ρ (m_get σ c q.2 x.toNatClampNeg) :: rS sm_ρ st)
      rw [e1, k1]
  · rcases List.mem_cons.mp hv with rfl | hv
    · exact gV_mono (fun q hq => sm_gh_gd hq) k2
    · exact hS v (List.mem_cons_of_mem _ (List.mem_cons_of_mem _ hv))
theorem sm_math_ok {R : Room} {a : Nat} (h : ev_math R a st = some st') : ev_math R a (rS sm_ρ st) = some (rS sm_ρ st') ∧ ∀ G : Nat × Nat → Prop, (∀ v ∈ st, gV G v) → ∀ v ∈ st', gV G v := by
  have hsum : ∀ l : List mV, ((rS sm_ρ l).map m_cat).sum = (l.map m_cat).sum := by
    intro l
    unfold rS
    rw [List.map_map]
    congr 1
    refine List.map_congr_left (fun x _ => ?_)
    rcases x with a | a | _ | q <;> rfl
  unfold ev_math at h
  split at h
  all_goals first
    | cases h
    | (rename_i s0
       obtain ⟨e1, e2⟩ := ev_if_some.mp h
       cases e2
       rw [← hsum] at e1
       exact ⟨ev_if_some.mpr ⟨e1, rfl⟩, fun G hG v hv => by
         rcases List.mem_cons.mp hv with rfl | hv
         · trivial
         · first
           | exact hG v (List.mem_cons_of_mem _ (List.mem_cons_of_mem _ hv))
           | exact hG v (List.mem_cons_of_mem _ hv)⟩)
/-- a reference out of an array -/
theorem sm_ga_ok (hL : ∀ v, some v ∈ L → gV (sm_gd (sm_md j pc) σ) v) (hS : ∀ v ∈ st, gV (sm_gd (sm_md j pc) σ) v) (hr : sm_hr (sm_md j pc) E σ σ2) (hg : sm_ga j pc st σ) (h : ev_aldq σ st = some st') :
    ev_aldq σ2 (rS sm_ρ st) = some (rS sm_ρ st') ∧ (∀ v, some v ∈ L → gV (sm_gd (sm_md j (pc + 1)) σ) v) ∧ (∀ v ∈ st', gV (sm_gd (sm_md j (pc + 1)) σ) v) ∧ sm_hr (sm_md j (pc + 1)) E σ σ2 := by
  rcases st with _ | ⟨x | x | x, _ | ⟨a | a | _ | q, st⟩⟩ <;> first | cases h | skip
  obtain ⟨⟨e1, e2⟩, e3⟩ := ev_if_some.mp h
  cases e3
  have hq : sm_gd (sm_md j pc) σ q := hS _ (List.mem_cons_of_mem _ List.mem_cons_self)
  have hin := sm_in_mx hq.1 (by omega)
  have hv := sm_vin e2
  have hlen : σ2.2.1 q.1 (q.2 + sm_off q.1) = σ.2.1 q.1 q.2 := hr.2.1 q.1 q.2 (by omega) hin
  have hS' : ∀ v ∈ st, gV (sm_gd (sm_md j pc) σ) v := fun v hv => hS v (List.mem_cons_of_mem _ (List.mem_cons_of_mem _ hv))
  have hg : if q.1 = 17 ∨ q.1 = 20 ∨ q.1 = 21 then sm_md j pc = none ∧ sm_NT j = false ∧ ((sm_md j (pc + 1) = none ∧ x.toInt < sm_cn σ (sm_e0 q.1)) ∨ ∃ un, sm_md j (pc + 1) = some (sm_e0 q.1, false, un) ∧ sm_al (sm_e0 q.1) un = true ∧ x.toInt = sm_cn σ (sm_e0 q.1)) else sm_md j (pc + 1) = sm_md j pc := hg
  by_cases hc : q.1 = 17 ∨ q.1 = 20 ∨ q.1 = 21
  · rw [if_pos hc] at hg
    obtain ⟨g1, -, g2⟩ := hg
    have q20 : q.2 = 0 := by
      have : q.2 < 1 := by rcases hc with c | c | c <;> (rw [c] at hin; exact hin)
      omega
    have idv : m_get σ q.1 q.2 x.toNatClampNeg = .inr (.inr (some (sm_e0 q.1, x.toNatClampNeg))) ∧ m_get σ2 q.1 (q.2 + sm_off q.1) x.toNatClampNeg = .inr (.inr (some (sm_e0 q.1, x.toNatClampNeg + sm_off (sm_e0 q.1)))) ∧ x.toNatClampNeg < sm_mx (sm_e0 q.1) ∧ sm_cl (sm_e0 q.1) := by
      obtain ⟨i1, i2, i3, i4⟩ := hr.2.2
      have hv1 := hv.1
      rw [q20] at hv1 ⊢
      rcases hc with c | c | c
      · rw [c] at hv1 ⊢
        rw [i1.1] at hv1
        exact ⟨(i2 _ hv1).1, (i2 _ hv1).2, hv1, Or.inl rfl⟩
      · rw [c] at hv1 ⊢
        rw [i1.2.1] at hv1
        exact ⟨(i3 _ hv1).1, (i3 _ hv1).2, hv1, Or.inr (Or.inl rfl)⟩
      · rw [c] at hv1 ⊢
        rw [i1.2.2.1] at hv1
        exact ⟨(i4 _ hv1).1, (i4 _ hv1).2, hv1, Or.inr (Or.inr rfl)⟩
    obtain ⟨v1, v2, v3, v4⟩ := idv
    rw [g1] at hL hS' hr
    refine ⟨?_, fun v hv => gV_mono (fun q hq => sm_gd_none hq) (hL v hv), fun v hv => ?_, ?_⟩
    · refine ev_if_some.mpr ⟨⟨e1, ?_⟩, ?_⟩
      · show vp_in x (σ2.2.1 q.1 (q.2 + sm_off q.1))
        rw [hlen]; exact e2
      · show some (m_get σ2 q.1 (q.2 + sm_off q.1) x.toNatClampNeg :: rS sm_ρ st) = some (rn sm_ρ (m_get σ q.1 q.2 x.toNatClampNeg) :: rS sm_ρ st)
        rw [v1, v2]
        rfl
    · rcases List.mem_cons.mp hv with rfl | hv
      · rw [v1]
        show sm_gd _ σ (sm_e0 q.1, x.toNatClampNeg)
        refine ⟨Or.inl v3, fun _ => ?_⟩
        show (x.toNatClampNeg : Int) < sm_cn σ (sm_e0 q.1) + sm_x _ (sm_e0 q.1)
        rcases g2 with ⟨g2, g3⟩ | ⟨un, g2, g3, g4⟩
        · have := sm_x0 (m := sm_md j (pc + 1)) (c := sm_e0 q.1)
          have := hv
          omega
        · rw [g2]
          have e9 : sm_x (some (sm_e0 q.1, false, un)) (sm_e0 q.1) = 1 := by
            unfold sm_x
            dsimp only
            rw [Nat.beq_refl]
            rfl
          have e8 := (sm_vin e2).2
          omega
      · exact gV_mono (fun q hq => sm_gd_none hq) (hS' v hv)
    · rcases g2 with ⟨g2, g3⟩ | ⟨un, g2, g3, g4⟩
      · rw [g2]; exact hr
      · rw [g2]
        refine ⟨fun c i k hce hd => hr.1 c i k hce (fun hd0 => hd ?_), hr.2⟩
        rcases hd0 with ⟨d1, d2⟩ | d
        · refine Or.inl ⟨d1, ?_⟩
          have d2 : sm_cn σ c ≤ (i : Int) := d2
          show if c = sm_e0 q.1 ∧ (i : Int) + sm_bit false = sm_cn σ c then k ∈ un else sm_cn σ c ≤ (i : Int)
          by_cases hi : c = sm_e0 q.1 ∧ (i : Int) + sm_bit false = sm_cn σ c
          · rw [if_pos hi]
            have hk : k < (match sm_e0 q.1 with
              | 7 => 13
              | 10 => 10
              | _ => 3) := by
              obtain ⟨c1, c2, c3, c4, c5⟩ := hce
              rw [← hi.1]
              rcases d1 with ⟨d, -⟩ | d | d
              · rw [d]; exact (d ▸ c3 (by omega) : k < m_nf 7)
              · rw [d]; exact (d ▸ c3 (by omega) : k < m_nf 10)
              · rw [d]
                have := c5 (by omega)
                rw [d, hr.2.2.1.2.2.2 i (by rw [d] at c1; exact sm_in_mx c1 (by omega))] at this
                exact this
            have hal := List.all_eq_true.mp g3 k (List.mem_range.mpr hk)
            simp only [Bool.or_eq_true, Bool.and_eq_true] at hal
            rcases hal with ⟨a1, a2⟩ | hal
            · have a1 := Nat.eq_of_beq_eq_true a1
              have a2 := Nat.eq_of_beq_eq_true a2
              rw [hi.1] at d1
              rcases d1 with ⟨-, d⟩ | d | d
              · exact absurd a2 d
              · omega
              · omega
            · obtain ⟨k', k1, k2⟩ := List.any_eq_true.mp hal
              rw [Nat.eq_of_beq_eq_true k2]
              exact k1
          · rw [if_neg hi]; exact d2
        · exact Or.inr d
  · rw [if_neg hc] at hg
    rw [hg]
    have hce : sm_ce σ q.1 q.2 x.toNatClampNeg := ⟨hq.1, ⟨fun z => hc (Or.inl z), fun z => hc (Or.inr (Or.inl z)), fun z => hc (Or.inr (Or.inr z))⟩, (fun z => by omega), (fun z => by omega), fun _ => hv.1⟩
    have hnd : ¬ sm_dd (sm_md j pc) E σ q.1 q.2 x.toNatClampNeg := by
      rintro (⟨hd1, -⟩ | ⟨hd1, -⟩) <;> omega
    obtain ⟨k1, k2⟩ := hr.1 _ _ _ hce hnd
    refine ⟨ev_if_some.mpr ⟨⟨e1, ?_⟩, ?_⟩, hL, fun v hv => ?_, hr⟩
    · show vp_in x (σ2.2.1 q.1 (q.2 + sm_off q.1))
      rw [hlen]; exact e2
    · show some (m_get σ2 q.1 (q.2 + sm_off q.1) x.toNatClampNeg :: rS sm_ρ st) = some (rn sm_ρ (m_get σ q.1 q.2 x.toNatClampNeg) :: rS sm_ρ st)
      rw [k1]
    · rcases List.mem_cons.mp hv with rfl | hv
      · exact gV_mono (fun q hq => sm_gh_gd hq) k2
      · exact hS' v hv
/-- which thing is under way is told by the array -/
theorem sm_tgt_ok (hr : sm_hr m E σ σ2) {z : Nat × Bool × List Nat} {q : Nat × Nat} (hz : sm_cl z.1) (h : sm_tgt σ z q) : q.1 = z.1 ∧ (q.2 : Int) + sm_bit z.2.1 = sm_cn σ z.1 := by
  obtain ⟨i, hb, h1, h2⟩ := h
  obtain ⟨-, i2, i3, i4⟩ := hr.2.2
  rcases hz with c | c | c
  · rw [c] at h2 hb h1 ⊢
    have g := (i2 i hb).1
    have h2 : m_get σ 17 0 i = .inr (.inr (some q)) := h2
    rw [g] at h2
    cases h2
    exact ⟨rfl, h1⟩
  · rw [c] at h2 hb h1 ⊢
    have g := (i3 i hb).1
    have h2 : m_get σ 20 0 i = .inr (.inr (some q)) := h2
    rw [g] at h2
    cases h2
    exact ⟨rfl, h1⟩
  · rw [c] at h2 hb h1 ⊢
    have g := (i4 i hb).1
    have h2 : m_get σ 21 0 i = .inr (.inr (some q)) := h2
    rw [g] at h2
    cases h2
    exact ⟨rfl, h1⟩
theorem sm_isc_no {c i k c' : Nat} (h : sm_isc c k = false) : ¬ ((sm_ca c').1 = c ∧ 0 = i ∧ (sm_ca c').2 = k) := by
  rintro ⟨h1, -, h3⟩
  subst h1; subst h3
  unfold sm_ca at h
  split at h <;> cases h
theorem sm_ca_inj {c c' : Nat} (hc : sm_cl c) (hc' : sm_cl c') (h : sm_ca c = sm_ca c') : c = c' := by
  rcases hc with rfl | rfl | rfl <;> rcases hc' with rfl | rfl | rfl <;> first | rfl | (cases h)
/-- the same counts: a write that leaves what is under way as it is, or writes a field of it -/
theorem sm_wrS {c i k : Nat} {x : mV} {m' : sm_M} (hr : sm_hr m E σ σ2) (hc : c ≠ 17 ∧ c ≠ 20 ∧ c ≠ 21) (hi : sm_isc c k = false) (hxs : m_tp (m_ty c k) x) (hg : gV (sm_gh σ c k) x)
    (hm : m' = m ∨ ∃ z, m = some z ∧ c = z.1 ∧ (i : Int) + sm_bit z.2.1 = sm_cn σ z.1 ∧ m' = some (z.1, z.2.1, z.2.2.filter (fun f => !(Nat.beq f k)))) :
    (∀ c', sm_cn (m_set σ c i k x) c' = sm_cn σ c') ∧ sm_hr m' E (m_set σ c i k x) (m_set σ2 c (i + sm_off c) k (rn sm_ρ x)) := by
  have hcn : ∀ c', sm_cn (m_set σ c i k x) c' = sm_cn σ c' := fun c' => sm_cn_set (sm_isc_no hi)
  refine ⟨hcn, sm_wr hr hc hxs (gV_mono (fun q hq => sm_gh_mono (m_set_1 ..) (fun c => Int.le_of_eq (hcn c).symm) hq) hg) (fun c => Int.le_of_eq (hcn c).symm) (fun c' i' k' hce hd => ?_)⟩
  by_cases e : c' = c ∧ i' = i ∧ k' = k
  · exact Or.inl e
  refine Or.inr (fun hd0 => hd ?_)
  unfold sm_dd at hd0 ⊢
  rw [hcn]
  rcases hm with rfl | ⟨z, rfl, e1, e2, rfl⟩
  · exact hd0
  · rcases hd0 with ⟨d1, d2⟩ | d
    · refine Or.inl ⟨d1, ?_⟩
      unfold sm_de at d2 ⊢
      dsimp only at d2 ⊢
      by_cases hs : c' = z.1 ∧ (i' : Int) + sm_bit z.2.1 = sm_cn σ c'
      · rw [if_pos hs] at d2 ⊢
        refine List.mem_filter.mpr ⟨d2, ?_⟩
        cases hb : Nat.beq k' k with
        | false => rfl
        | true =>
          have hs2 := hs.2
          rw [hs.1] at hs2
          exact absurd ⟨hs.1.trans e1.symm, by omega, Nat.eq_of_beq_eq_true hb⟩ e
      · rw [if_neg hs] at d2 ⊢
        exact d2
    · exact Or.inr d
theorem sm_gd_cn {q : Nat × Nat} {σ' : mS} (h1 : σ'.1 = σ.1) (h2 : ∀ c, sm_cn σ' c = sm_cn σ c) (h : sm_gd m σ q) : sm_gd m σ' q := sm_gd_mono h1 (fun c => Int.le_of_eq (h2 c).symm) h
theorem sm_put_ok {z : ev_H} (hL : ∀ v, some v ∈ L → gV (sm_gd (sm_md j pc) σ) v) (hS : ∀ v ∈ st, gV (sm_gd (sm_md j pc) σ) v) (hr : sm_hr (sm_md j pc) E σ σ2) (hg : sm_gp j pc r st σ) (h : ev_put r σ st = some z) :
    ∃ σ2', ev_put r σ2 (rS sm_ρ st) = some (rS sm_ρ z.1, σ2') ∧ (∀ v, some v ∈ L → gV (sm_gd (sm_md j (pc + 3)) z.2) v) ∧ (∀ v ∈ z.1, gV (sm_gd (sm_md j (pc + 3)) z.2) v) ∧ sm_hr (sm_md j (pc + 3)) E z.2 σ2' ∧ sm_mono j σ z.2 ∧ sm_f2 σ2 σ2' := by
  rcases st with _ | ⟨x, _ | ⟨a | a | _ | q, st⟩⟩ <;> first | cases h | skip
  obtain ⟨⟨e1, e2⟩, e3⟩ := ev_if_some.mp h
  cases e3
  have hq : sm_gd (sm_md j pc) σ q := hS _ (List.mem_cons_of_mem _ List.mem_cons_self)
  have hxs : gV (sm_gd (sm_md j pc) σ) x := hS _ List.mem_cons_self
  have hS' : ∀ v ∈ st, gV (sm_gd (sm_md j pc) σ) v := fun v hv => hS v (List.mem_cons_of_mem _ (List.mem_cons_of_mem _ hv))
  obtain ⟨⟨g1, g2⟩, g3, g4⟩ := hg
  have run : ev_put r σ2 (rS sm_ρ (x :: .inr (.inr (some q)) :: st)) = some (rS sm_ρ st, m_set σ2 r.2.2.1 (q.2 + sm_off r.2.2.1) r.2.2.2.1 (rn sm_ρ x)) := by
    refine ev_if_some.mpr ⟨⟨e1, m_tp_rn e2⟩, ?_⟩
    show some (rS sm_ρ st, m_set σ2 r.2.2.1 (q.2 + sm_off q.1) r.2.2.2.1 (rn sm_ρ x)) = _
    rw [e1]
  have h17 : r.2.2.1 ≠ 17 ∧ r.2.2.1 ≠ 20 ∧ r.2.2.1 ≠ 21 := by omega
  have hf2 : sm_f2 σ2 (m_set σ2 r.2.2.1 (q.2 + sm_off r.2.2.1) r.2.2.2.1 (rn sm_ρ x)) := sm_f2_set (by rw [← e1]; exact sm_in_mx hq.1 (by rw [e1]; exact g2))
  have hgx : ∀ {σ' : mS}, σ'.1 = σ.1 → (∀ c, sm_cn σ c ≤ sm_cn σ' c) → gV (sm_gh σ' r.2.2.1 r.2.2.2.1) x := by
    intro σ' hs1 hs2
    rcases x with a | a | _ | p
    · trivial
    · trivial
    · trivial
    · have g3 : p.1 ≠ 10 ∧ p.1 ≠ 13 ∧ (p.1 = 7 → sm_md j pc = none) := g3
      have hxs : sm_gd (sm_md j pc) σ p := hxs
      refine ⟨?_, g3.1, g3.2.1, fun e => ?_⟩
      · unfold sm_in
        rw [hs1]
        exact hxs.1
      · have a := hxs.2 (Or.inl e)
        rw [g3.2.2 e, e] at a
        have b : sm_x (none : sm_M) 7 = 0 := rfl
        have d := hs2 7
        omega
  cases hisc : sm_isc r.2.2.1 r.2.2.2.1 with
  | true =>
    rw [if_pos hisc] at g4
    obtain ⟨n1, c0, un, n2, n3, n4, n5, n6⟩ := g4
    have q20 : q.2 = 0 := by
      have hin := sm_in_mx hq.1 (by rw [e1]; exact g2)
      have : sm_mx q.1 = 1 := by
        rw [e1]
        have : r.2.2.1 = (sm_ca c0).1 := by rw [n5]
        rw [this]
        rcases n4 with rfl | rfl | rfl <;> rfl
      omega
    have n51 : (sm_ca c0).1 = r.2.2.1 := by rw [n5]
    have n52 : (sm_ca c0).2 = r.2.2.2.1 := by rw [n5]
    have cn0 : sm_cn (m_set σ r.2.2.1 q.2 r.2.2.2.1 x) c0 = sm_cn σ c0 + 1 := by
      unfold sm_cn at n6 ⊢
      rw [n51, n52, q20, m_get_eq σ e2, n6, n51, n52]
    have cnN : ∀ c', sm_ca c' ≠ sm_ca c0 → sm_cn (m_set σ r.2.2.1 q.2 r.2.2.2.1 x) c' = sm_cn σ c' := fun c' hne => sm_cn_set (fun z => hne (by rw [n5]; exact Prod.ext z.1 z.2.2))
    have cnE : ∀ {σ' : mS} {c' : Nat}, sm_ca c' = sm_ca c0 → sm_cn σ' c' = sm_cn σ' c0 := fun e => by unfold sm_cn; rw [e]
    have hcn : ∀ c', sm_cn σ c' ≤ sm_cn (m_set σ r.2.2.1 q.2 r.2.2.2.1 x) c' := by
      intro c'
      by_cases e : sm_ca c' = sm_ca c0
      · rw [cnE e, cnE e, cn0]; omega
      · rw [cnN c' e]; exact Int.le_refl _
    have up : ∀ {p : Nat × Nat}, sm_gd (sm_md j pc) σ p → sm_gd (sm_md j (pc + 3)) (m_set σ r.2.2.1 q.2 r.2.2.2.1 x) p := by
      intro p hp
      rw [n2] at hp
      rw [n3]
      refine ⟨?_, fun hcl => ?_⟩
      · unfold sm_in
        rw [m_set_1]
        exact hp.1
      · have a := hp.2 hcl
        have b : sm_x (some (c0, true, un)) p.1 = 0 := by
          unfold sm_x
          dsimp only
          rw [Bool.not_true, Bool.and_false]
          rfl
        rw [b]
        unfold sm_x at a
        dsimp only at a
        cases hb : Nat.beq p.1 c0 with
        | true =>
          rw [hb] at a
          rw [Nat.eq_of_beq_eq_true hb] at a ⊢
          rw [cn0]
          simp only [Bool.not_false, Bool.and_self, cond_true] at a
          omega
        | false =>
          rw [hb] at a
          simp only [Bool.false_and, cond_false] at a
          have := hcn p.1
          omega
    refine ⟨_, run, fun v hv => gV_mono (fun p hp => up hp) (hL v hv), fun v hv => gV_mono (fun p hp => up hp) (hS' v hv), ?_, ⟨m_set_1 .., hcn, fun hn => by rw [n1] at hn; cases hn⟩, hf2⟩
    refine sm_wr hr h17 e2 (hgx (m_set_1 ..) hcn) hcn (fun c' i' k' hce hd => Or.inr (fun hd0 => hd ?_))
    rw [n2] at hd0
    rw [n3]
    rcases hd0 with ⟨d1, d2⟩ | d
    · refine Or.inl ⟨d1, ?_⟩
      have hcl : sm_cl c' := by rcases d1 with ⟨d, -⟩ | d | d; exact Or.inl d; exact Or.inr (Or.inl d); exact Or.inr (Or.inr d)
      have d2 : if c' = c0 ∧ (i' : Int) + sm_bit false = sm_cn σ c' then k' ∈ un else sm_cn σ c' ≤ (i' : Int) := d2
      show if c' = c0 ∧ (i' : Int) + sm_bit true = sm_cn (m_set σ r.2.2.1 q.2 r.2.2.2.1 x) c' then k' ∈ un else sm_cn (m_set σ r.2.2.1 q.2 r.2.2.2.1 x) c' ≤ (i' : Int)
      have b0 : sm_bit false = 0 := rfl
      have b1 : sm_bit true = 1 := rfl
      by_cases ec : c' = c0
      · rw [ec] at d2 ⊢
        rw [cn0]
        by_cases hi : (i' : Int) = sm_cn σ c0
        · rw [if_pos ⟨rfl, by omega⟩] at d2
          rw [if_pos ⟨rfl, by omega⟩]
          exact d2
        · rw [if_neg (fun z => hi (by have := z.2; omega))] at d2
          rw [if_neg (fun z => hi (by have := z.2; omega))]
          omega
      · rw [if_neg (fun z => ec z.1)] at d2
        rw [if_neg (fun z => ec z.1), cnN c' (fun e => ec (sm_ca_inj hcl n4 e))]
        exact d2
    · exact Or.inr d
  | false =>
    rw [if_neg (by rw [hisc]; exact Bool.false_ne_true)] at g4
    have hm : sm_md j (pc + 3) = sm_md j pc ∨ ∃ z, sm_md j pc = some z ∧ r.2.2.1 = z.1 ∧ (q.2 : Int) + sm_bit z.2.1 = sm_cn σ z.1 ∧ sm_md j (pc + 3) = some (z.1, z.2.1, z.2.2.filter (fun f => !(Nat.beq f r.2.2.2.1))) := by
      cases hmd : sm_md j pc with
      | none =>
        rw [hmd] at g4
        exact Or.inl g4
      | some z =>
        rw [hmd] at g4
        dsimp only at g4
        by_cases ec : r.2.2.1 = z.1
        · rw [if_pos ec] at g4
          have hz : sm_cl z.1 := by
            rw [← ec]
            unfold sm_md at hmd
            cases h4 : Nat.beq j 4 with
            | true =>
              rw [h4] at hmd
              dsimp only [cond_true] at hmd
              cases hb : Nat.blt 29 pc with
              | true => rw [hb] at hmd; cases hmd; exact Or.inl ec
              | false => rw [hb] at hmd; cases hmd
            | false =>
            cases h31 : Nat.beq j 31 with
            | true =>
              rw [h4, h31] at hmd
              dsimp only [cond_true, cond_false] at hmd
              cases hb : Nat.blt 28 pc with
              | true => rw [hb] at hmd; cases hmd; exact Or.inr (Or.inr ec)
              | false => rw [hb] at hmd; cases hmd
            | false =>
            cases h32 : Nat.beq j 32 with
            | true =>
              rw [h4, h31, h32] at hmd
              dsimp only [cond_true, cond_false] at hmd
              cases hb : Nat.blt 54 pc with
              | true => rw [hb] at hmd; cases hmd; exact Or.inr (Or.inl ec)
              | false => rw [hb] at hmd; cases hmd
            | false => rw [h4, h31, h32] at hmd; cases hmd
          have ht := sm_tgt_ok hr hz g4.2.2
          exact Or.inr ⟨z, rfl, ec, ht.2, g4.2.1⟩
        · rw [if_neg ec] at g4
          exact Or.inl g4
    have hx1 : ∀ p, sm_x (sm_md j (pc + 3)) p = sm_x (sm_md j pc) p := by
      intro p
      rcases hm with e | ⟨z, z1s, -, -, z2s⟩
      · rw [e]
      · rw [z1s, z2s]; rfl
    obtain ⟨w1, w2⟩ := sm_wrS (x := x) (i := q.2) hr h17 hisc e2 (hgx rfl (fun c => Int.le_refl _)) hm
    have up : ∀ {p : Nat × Nat}, sm_gd (sm_md j pc) σ p → sm_gd (sm_md j (pc + 3)) (m_set σ r.2.2.1 q.2 r.2.2.2.1 x) p := by
      intro p hp
      have a := sm_gd_cn (m_set_1 σ r.2.2.1 q.2 r.2.2.2.1 x) w1 hp
      exact ⟨a.1, fun hcl => by rw [hx1]; exact a.2 hcl⟩
    exact ⟨_, run, fun v hv => gV_mono (fun p hp => up hp) (hL v hv), fun v hv => gV_mono (fun p hp => up hp) (hS' v hv), w2, ⟨m_set_1 .., fun c => Int.le_of_eq (w1 c).symm, fun _ => w1⟩, hf2⟩
theorem sm_iast_ok {z : ev_H} (hL : ∀ v, some v ∈ L → gV (sm_gd (sm_md j pc) σ) v) (hS : ∀ v ∈ st, gV (sm_gd (sm_md j pc) σ) v) (hr : sm_hr (sm_md j pc) E σ σ2) (hg : sm_gi j pc st σ) (h : ev_iast σ st = some z) :
    ∃ σ2', ev_iast σ2 (rS sm_ρ st) = some (rS sm_ρ z.1, σ2') ∧ (∀ v, some v ∈ L → gV (sm_gd (sm_md j (pc + 1)) z.2) v) ∧ (∀ v ∈ z.1, gV (sm_gd (sm_md j (pc + 1)) z.2) v) ∧ sm_hr (sm_md j (pc + 1)) E z.2 σ2' ∧ sm_mono j σ z.2 ∧ sm_f2 σ2 σ2' := by
  rcases st with _ | ⟨v | v | v, _ | ⟨x | x | x, _ | ⟨a | a | _ | q, st⟩⟩⟩ <;> first | cases h | skip
  obtain ⟨⟨e1, e2⟩, e3⟩ := ev_if_some.mp h
  cases e3
  have hq : sm_gd (sm_md j pc) σ q := hS _ (List.mem_cons_of_mem _ (List.mem_cons_of_mem _ List.mem_cons_self))
  have hS' : ∀ v ∈ st, gV (sm_gd (sm_md j pc) σ) v := fun v hv => hS v (List.mem_cons_of_mem _ (List.mem_cons_of_mem _ (List.mem_cons_of_mem _ hv)))
  obtain ⟨un, g1, g2, g3⟩ := hg
  have hlen : σ2.2.1 13 (q.2 + sm_off 13) = σ.2.1 13 q.2 := by
    have := hr.2.1 q.1 q.2 (by omega) (sm_in_mx hq.1 (by omega))
    rw [e1] at this
    exact this
  have ht := sm_tgt_ok hr (z := (13, false, un)) (Or.inr (Or.inr rfl)) g3
  obtain ⟨w1, w2⟩ := sm_wrS (x := .inl v) (c := 13) (i := q.2) (k := x.toNatClampNeg) (m' := sm_md j (pc + 1)) hr (by decide) (by unfold sm_isc; rfl) (Or.inl (m_ty_arr (j := 0) rfl)) trivial (Or.inr ⟨(13, false, un), g1, rfl, ht.2, g2⟩)
  have up : ∀ {p : Nat × Nat}, sm_gd (sm_md j pc) σ p → sm_gd (sm_md j (pc + 1)) (m_set σ 13 q.2 x.toNatClampNeg (.inl v)) p := by
    intro p hp
    have a := sm_gd_cn (m_set_1 σ 13 q.2 x.toNatClampNeg (.inl v)) w1 hp
    rw [g1] at a
    rw [g2]
    exact a
  refine ⟨m_set σ2 13 (q.2 + sm_off 13) x.toNatClampNeg (.inl v), ?_, fun v hv => gV_mono (fun p hp => up hp) (hL v hv), fun v hv => gV_mono (fun p hp => up hp) (hS' v hv), w2, ⟨m_set_1 .., fun c => Int.le_of_eq (w1 c).symm, fun _ => w1⟩, sm_f2_set (by have := sm_in_mx hq.1 (by omega); rw [e1] at this; exact this)⟩
  refine ev_if_some.mpr ⟨⟨e1, ?_⟩, ?_⟩
  · show vp_in x (σ2.2.1 13 (q.2 + sm_off q.1))
    rw [e1, hlen]; exact e2
  · show some (rS sm_ρ st, m_set σ2 13 (q.2 + sm_off q.1) x.toNatClampNeg (.inl v)) = _
    rw [e1]
theorem sm_last_ok {z : ev_H} (hL : ∀ v, some v ∈ L → gV (sm_gd m σ) v) (hS : ∀ v ∈ st, gV (sm_gd m σ) v) (hr : sm_hr m E σ σ2) (h : ev_last σ st = some z) :
    ∃ σ2', ev_last σ2 (rS sm_ρ st) = some (rS sm_ρ z.1, σ2') ∧ (∀ v, some v ∈ L → gV (sm_gd m z.2) v) ∧ (∀ v ∈ z.1, gV (sm_gd m z.2) v) ∧ sm_hr m E z.2 σ2' ∧ sm_mono j σ z.2 ∧ sm_f2 σ2 σ2' := by
  rcases st with _ | ⟨v | v | v, _ | ⟨x | x | x, _ | ⟨a | a | _ | q, st⟩⟩⟩ <;> first | cases h | skip
  obtain ⟨⟨e1, e2⟩, e3⟩ := ev_if_some.mp h
  cases e3
  have hq : sm_gd m σ q := hS _ (List.mem_cons_of_mem _ (List.mem_cons_of_mem _ List.mem_cons_self))
  have hS' : ∀ v ∈ st, gV (sm_gd m σ) v := fun v hv => hS v (List.mem_cons_of_mem _ (List.mem_cons_of_mem _ (List.mem_cons_of_mem _ hv)))
  have hlen : σ2.2.1 14 (q.2 + sm_off 14) = σ.2.1 14 q.2 := by
    have := hr.2.1 q.1 q.2 (by omega) (sm_in_mx hq.1 (by omega))
    rw [e1] at this
    exact this
  obtain ⟨w1, w2⟩ := sm_wrS (x := .inr (.inl v)) (c := 14) (i := q.2) (k := x.toNatClampNeg) (m' := m) hr (by decide) (by unfold sm_isc; rfl) (m_ty_arr (j := 1) rfl) trivial (Or.inl rfl)
  refine ⟨m_set σ2 14 (q.2 + sm_off 14) x.toNatClampNeg (.inr (.inl v)), ?_, fun v hv => gV_mono (fun p hp => sm_gd_cn (m_set_1 ..) w1 hp) (hL v hv), fun v hv => gV_mono (fun p hp => sm_gd_cn (m_set_1 ..) w1 hp) (hS' v hv), w2, ⟨m_set_1 .., fun c => Int.le_of_eq (w1 c).symm, fun _ => w1⟩, sm_f2_set (by have := sm_in_mx hq.1 (by omega); rw [e1] at this; exact this)⟩
  refine ev_if_some.mpr ⟨⟨e1, ?_⟩, ?_⟩
  · show vp_in x (σ2.2.1 14 (q.2 + sm_off q.1))
    rw [e1, hlen]; exact e2
  · show some (rS sm_ρ st, m_set σ2 14 (q.2 + sm_off q.1) x.toNatClampNeg (.inr (.inl v))) = _
    rw [e1]
end SM4
