/-! two runs that look on at most: of things of the first hall, and of some of these and of their twins in the second -/
def tw_1 (p : Nat × Nat) : mR := some (p.1, p.2 / 2)
def tw_2 (p : Nat × Nat) : mR := some (p.1, p.2 / 2 + p.2 % 2 * sm_off p.1)
/-- a value as a pair: of itself (b = 0), of itself and its twin (b = 1) -/
def tw_l (b : Nat) (q : Nat × Nat) : mR := some (q.1, 2 * q.2 + b)
section TW1
variable {ρ : Nat × Nat → mR} {L : List (Option mV)} {st : List mV} {x : mV} {b : Nat}
theorem tw_l1 (hb : b < 2) : rn tw_1 (rn (tw_l b) x) = x := by
  rcases x with a | a | _ | q
  · rfl
  · rfl
  · rfl
  · show (Sum.inr (Sum.inr (some (q.1, (2 * q.2 + b) / 2))) : mV) = _
    have : (2 * q.2 + b) / 2 = q.2 := by omega
    rw [this]
theorem tw_l2z : rn tw_2 (rn (tw_l 0) x) = x := by
  rcases x with a | a | _ | q
  · rfl
  · rfl
  · rfl
  · show (Sum.inr (Sum.inr (some (q.1, (2 * q.2 + 0) / 2 + (2 * q.2 + 0) % 2 * sm_off q.1))) : mV) = _
    have e1 : (2 * q.2 + 0) / 2 = q.2 := by omega
    have e2 : (2 * q.2 + 0) % 2 = 0 := by omega
    rw [e1, e2, Nat.zero_mul, Nat.add_zero]
theorem tw_l2o : rn tw_2 (rn (tw_l 1) x) = rn sm_ρ x := by
  rcases x with a | a | _ | q
  · rfl
  · rfl
  · rfl
  · show (Sum.inr (Sum.inr (some (q.1, (2 * q.2 + 1) / 2 + (2 * q.2 + 1) % 2 * sm_off q.1))) : mV) = _
    have e1 : (2 * q.2 + 1) / 2 = q.2 := by omega
    have e2 : (2 * q.2 + 1) % 2 = 1 := by omega
    rw [e1, e2, Nat.one_mul]
    rfl
theorem tw_lg {G : Nat × Nat → Prop} (hb : b < 2) (h : gV G x) : gV (fun p => G (p.1, p.2 / 2)) (rn (tw_l b) x) := by
  rcases x with a | a | _ | q
  · trivial
  · trivial
  · trivial
  · show G (q.1, (2 * q.2 + b) / 2)
    have : (2 * q.2 + b) / 2 = q.2 := by omega
    rw [this]
    exact h
def tw_acmp (r : mRow) : Bool := match r.1 with
  | .if_acmp _ _ => true
  | _ => false
/-- a branch that compares no references goes alike -/
theorem tw_cond {r : mRow} {q : Prop × List mV} (hρ : ∀ p, ρ p ≠ none) (ha : tw_acmp r = false) (h : m_cond r (rS ρ st) = some q) : ∃ P st', m_cond r st = some (P, st') ∧ q.2 = rS ρ st' ∧ (q.1 ↔ P) := by
  obtain ⟨ig, ln, ra, rb, rz, rp⟩ := r
  unfold m_cond at h ⊢
  cases ig
  case ifCond c o =>
    dsimp only at h ⊢
    rcases st with _ | ⟨a | a | _ | p, st⟩
    · cases h
    · cases h; exact ⟨_, _, rfl, rfl, Iff.rfl⟩
    · cases h
    · cases h
    · cases h
  case if_icmp c o =>
    dsimp only at h ⊢
    rcases st with _ | ⟨a | a | _ | p, _ | ⟨b | b | _ | p', st⟩⟩ <;> first | cases h | skip
    · exact ⟨_, _, rfl, rfl, Iff.rfl⟩
  case if_acmp c o => cases ha
  case ifnull o =>
    dsimp only at h ⊢
    rcases st with _ | ⟨a | a | _ | p, st⟩
    · cases h
    · cases h
    · cases h
    · cases h; exact ⟨_, _, rfl, rfl, Iff.rfl⟩
    · cases h; exact ⟨_, _, rfl, rfl, ⟨fun z => absurd z (hρ p), (fun z => by cases z)⟩⟩
  case ifnonnull o =>
    dsimp only at h ⊢
    rcases st with _ | ⟨a | a | _ | p, st⟩
    · cases h
    · cases h
    · cases h
    · cases h; exact ⟨_, _, rfl, rfl, Iff.rfl⟩
    · cases h; exact ⟨_, _, rfl, rfl, ⟨(fun _ z => by cases z), (fun _ => hρ p)⟩⟩
  all_goals cases h
theorem tw_condS {r : mRow} {P : Prop} {st' : List mV} (hρ : ∀ p, ρ p ≠ none) (ha : tw_acmp r = false) (h : m_cond r st = some (P, st')) : ∃ P', m_cond r (rS ρ st) = some (P', rS ρ st') ∧ (P' ↔ P) := by
  obtain ⟨ig, ln, ra, rb, rz, rp⟩ := r
  unfold m_cond at h ⊢
  cases ig
  case ifCond c o =>
    dsimp only at h ⊢
    rcases st with _ | ⟨a | a | _ | p, st⟩ <;> first | cases h | skip
    · exact ⟨_, rfl, Iff.rfl⟩
  case if_icmp c o =>
    dsimp only at h ⊢
    rcases st with _ | ⟨a | a | _ | p, _ | ⟨b | b | _ | p', st⟩⟩ <;> first | cases h | skip
    · exact ⟨_, rfl, Iff.rfl⟩
  case if_acmp c o => cases ha
  case ifnull o =>
    dsimp only at h ⊢
    rcases st with _ | ⟨a | a | _ | p, st⟩ <;> first | cases h | skip
    · exact ⟨_, rfl, Iff.rfl⟩
    · exact ⟨_, rfl, ⟨fun z => absurd z (hρ p), (fun z => by cases z)⟩⟩
  case ifnonnull o =>
    dsimp only at h ⊢
    rcases st with _ | ⟨a | a | _ | p, st⟩ <;> first | cases h | skip
    · exact ⟨_, rfl, Iff.rfl⟩
    · exact ⟨_, rfl, ⟨(fun _ z => by cases z), (fun _ => hρ p)⟩⟩
  all_goals cases h
theorem tw_condN {r : mRow} (hρ : ∀ p, ρ p ≠ none) (ha : tw_acmp r = false) (h : m_cond r (rS ρ st) = none) : m_cond r st = none := by
  cases hc : m_cond r st with
  | none => rfl
  | some q =>
    obtain ⟨P, st'⟩ := q
    obtain ⟨P', e, -⟩ := tw_condS hρ ha hc
    rw [e] at h
    cases h
theorem tw_condN' {r : mRow} (hρ : ∀ p, ρ p ≠ none) (ha : tw_acmp r = false) (h : m_cond r st = none) : m_cond r (rS ρ st) = none := by
  cases hc : m_cond r (rS ρ st) with
  | none => rfl
  | some q =>
    obtain ⟨P, st', e, -⟩ := tw_cond hρ ha hc
    rw [e] at h
    cases h
end TW1
theorem tw_n1 (p : Nat × Nat) : tw_1 p ≠ none := fun z => by cases z
theorem tw_n2 (p : Nat × Nat) : tw_2 p ≠ none := fun z => by cases z
/-- pairs that may be about -/
def tw_g (σ : mS) (p : Nat × Nat) : Prop := sm_gd none σ (p.1, p.2 / 2)
section TW2
variable {j pc : Nat} {r : mRow} {stp : List mV} {st' : List mV} {σ : mS}
/-- a cell of a thing, and the cell of the other of the pair -/
theorem tw_cell {c i k b : Nat} (hr : sm_hr none hs_E σ σ) (hce : sm_ce σ c i k) (hnd : ¬ sm_dd none hs_E σ c i k) (hb : b < 2) : ∃ v, rn tw_1 v = m_get σ c i k ∧ rn tw_2 v = m_get σ c (i + b * sm_off c) k ∧ gV (tw_g σ) v := by
  obtain ⟨k1, k2⟩ := hr.1 c i k hce hnd
  refine ⟨rn (tw_l b) (m_get σ c i k), tw_l1 hb, ?_, tw_lg hb (gV_mono (fun q hq => sm_gh_gd hq) k2)⟩
  have hb' : b = 0 ∨ b = 1 := by omega
  rcases hb' with rfl | rfl
  · rw [tw_l2z, Nat.zero_mul, Nat.add_zero]
  · rw [tw_l2o, Nat.one_mul, k1]
theorem tw_get (hE : sm_sp j = false) (hS : ∀ v ∈ stp, gV (tw_g σ) v) (hr : sm_hr none hs_E σ σ) (hg : sm_gg j pc r = true) (h : ev_get r σ (rS tw_1 stp) = some st') : ∃ stp', st' = rS tw_1 stp' ∧ ev_get r σ (rS tw_2 stp) = some (rS tw_2 stp') ∧ ∀ v ∈ stp', gV (tw_g σ) v := by
  rcases stp with _ | ⟨a | a | _ | p, stp⟩
  · cases h
  · cases h
  · cases h
  · cases h
  · obtain ⟨e1, e2⟩ := ev_if_some.mp h
    cases e2
    have e1 : p.1 = r.2.2.1 := e1
    have hq : sm_gd none σ (p.1, p.2 / 2) := hS _ List.mem_cons_self
    unfold sm_gg at hg
    simp only [Bool.and_eq_true, Bool.or_eq_true, Bool.not_eq_true', Nat.blt_eq] at hg
    obtain ⟨-, ⟨g1, g2⟩, g3, -, -⟩ := hg
    have g3' : r.2.2.1 = 1 → r.2.2.2.1 < 8 := fun z => g3.elim (fun g => by rw [z] at g; cases g) (fun g => g)
    have hce : sm_ce σ r.2.2.1 (p.2 / 2) r.2.2.2.1 := ⟨by rw [← e1]; exact hq.1, ⟨by omega, by omega, by omega⟩, fun _ => g2, g3', fun z => by omega⟩
    have hnd : ¬ sm_dd none hs_E σ r.2.2.1 (p.2 / 2) r.2.2.2.1 := by
      rintro (⟨hc, hd⟩ | ⟨-, he⟩)
      · have hl := hq.2 (by
          show sm_cl p.1
          rw [e1]
          rcases hc with c | c | c
          · exact Or.inl c.1
          · exact Or.inr (Or.inl c)
          · exact Or.inr (Or.inr c))
        have hl : ((p.2 / 2 : Nat) : Int) < sm_cn σ p.1 + 0 := hl
        rw [e1] at hl
        have hd : sm_cn σ r.2.2.1 ≤ ((p.2 / 2 : Nat) : Int) := hd
        omega
      · exact he
    obtain ⟨v, v1, v2, v3⟩ := tw_cell hr hce hnd (b := p.2 % 2) (by omega)
    refine ⟨v :: stp, ?_, ?_, fun w hw => ?_⟩
    · show m_get σ r.2.2.1 (p.2 / 2) r.2.2.2.1 :: rS tw_1 stp = rn tw_1 v :: rS tw_1 stp
      rw [v1]
    · refine ev_if_some.mpr ⟨e1, ?_⟩
      show some (m_get σ r.2.2.1 (p.2 / 2 + p.2 % 2 * sm_off p.1) r.2.2.2.1 :: rS tw_2 stp) = some (rn tw_2 v :: rS tw_2 stp)
      rw [v2, e1]
    · rcases List.mem_cons.mp hw with rfl | hw
      · exact v3
      · exact hS w (List.mem_cons_of_mem _ hw)
theorem tw_lenE {c i b : Nat} (hr : sm_hr none hs_E σ σ) (hc : 13 ≤ c) (hi : i < sm_mx c) (hb : b < 2) : σ.2.1 c (i + b * sm_off c) = σ.2.1 c i := by
  have hb' : b = 0 ∨ b = 1 := by omega
  rcases hb' with rfl | rfl
  · rw [Nat.zero_mul, Nat.add_zero]
  · rw [Nat.one_mul]; exact hr.2.1 c i hc hi
theorem tw_len (hS : ∀ v ∈ stp, gV (tw_g σ) v) (hr : sm_hr none hs_E σ σ) (h : ev_len σ (rS tw_1 stp) = some st') : ∃ stp', st' = rS tw_1 stp' ∧ ev_len σ (rS tw_2 stp) = some (rS tw_2 stp') ∧ ∀ v ∈ stp', gV (tw_g σ) v := by
  rcases stp with _ | ⟨a | a | _ | p, stp⟩
  · cases h
  · cases h
  · cases h
  · cases h
  · obtain ⟨e1, e2⟩ := ev_if_some.mp h
    cases e2
    have e1 : 13 ≤ p.1 ∧ p.1 ≤ 21 := e1
    have hq : sm_gd none σ (p.1, p.2 / 2) := hS _ List.mem_cons_self
    have hin : p.2 / 2 < sm_mx p.1 := sm_in_mx hq.1 (by show p.1 ≠ 1; omega)
    refine ⟨.inl (Int32.ofNat (σ.2.1 p.1 (p.2 / 2))) :: stp, rfl, ?_, fun w hw => ?_⟩
    · refine ev_if_some.mpr ⟨e1, ?_⟩
      show some ((.inl (Int32.ofNat (σ.2.1 p.1 (p.2 / 2 + p.2 % 2 * sm_off p.1))) : mV) :: rS tw_2 stp) = some (.inl (Int32.ofNat (σ.2.1 p.1 (p.2 / 2))) :: rS tw_2 stp)
      rw [tw_lenE hr e1.1 hin (by omega)]
    · rcases List.mem_cons.mp hw with rfl | hw
      · trivial
      · exact hS w (List.mem_cons_of_mem _ hw)
theorem tw_ald {c : Nat} (hc : c = 13 ∨ c = 14) (hS : ∀ v ∈ stp, gV (tw_g σ) v) (hr : sm_hr none hs_E σ σ) (h : ev_ald c σ (rS tw_1 stp) = some st') : ∃ stp', st' = rS tw_1 stp' ∧ ev_ald c σ (rS tw_2 stp) = some (rS tw_2 stp') ∧ ∀ v ∈ stp', gV (tw_g σ) v := by
  rcases stp with _ | ⟨x | x | _ | x, _ | ⟨a | a | _ | p, stp⟩⟩ <;> first | cases h | skip
  obtain ⟨⟨e1, e2⟩, e3⟩ := ev_if_some.mp h
  cases e3
  have e1 : p.1 = c := e1
  have e2 : vp_in x (σ.2.1 c (p.2 / 2)) := e2
  have hq : sm_gd none σ (p.1, p.2 / 2) := hS _ (List.mem_cons_of_mem _ List.mem_cons_self)
  have hv := sm_vin e2
  have hin : p.2 / 2 < sm_mx p.1 := sm_in_mx hq.1 (by show p.1 ≠ 1; omega)
  have hce : sm_ce σ c (p.2 / 2) x.toNatClampNeg := ⟨by rw [← e1]; exact hq.1, ⟨by omega, by omega, by omega⟩, (fun z => by omega), (fun z => by omega), fun _ => hv.1⟩
  have hnd : ¬ sm_dd none hs_E σ c (p.2 / 2) x.toNatClampNeg := by
    rintro (⟨hd1, hd⟩ | ⟨-, he⟩)
    · have h13 : c = 13 := by omega
      have hl := hq.2 (by show sm_cl p.1; rw [e1, h13]; exact Or.inr (Or.inr rfl))
      have hl : ((p.2 / 2 : Nat) : Int) < sm_cn σ p.1 + 0 := hl
      rw [e1] at hl
      have hd : sm_cn σ c ≤ ((p.2 / 2 : Nat) : Int) := hd
      omega
    · exact he
  obtain ⟨v, v1, v2, v3⟩ := tw_cell hr hce hnd (b := p.2 % 2) (by omega)
  refine ⟨v :: stp, ?_, ?_, fun w hw => ?_⟩
  · show m_get σ c (p.2 / 2) x.toNatClampNeg :: rS tw_1 stp = rn tw_1 v :: rS tw_1 stp
    rw [v1]
  · refine ev_if_some.mpr ⟨⟨e1, ?_⟩, ?_⟩
    · show vp_in x (σ.2.1 c (p.2 / 2 + p.2 % 2 * sm_off p.1))
      rw [← e1] at e2 ⊢
      rw [tw_lenE hr (by omega) hin (by omega)]
      exact e2
    · show some (m_get σ c (p.2 / 2 + p.2 % 2 * sm_off p.1) x.toNatClampNeg :: rS tw_2 stp) = some (rn tw_2 v :: rS tw_2 stp)
      rw [v2, e1]
  · rcases List.mem_cons.mp hw with rfl | hw
    · exact v3
    · exact hS w (List.mem_cons_of_mem _ (List.mem_cons_of_mem _ hw))
theorem tw_aldq (hm : ∀ pc, sm_md j pc = none) (hS : ∀ v ∈ stp, gV (tw_g σ) v) (hr : sm_hr none hs_E σ σ) (hg : sm_ga j pc (rS tw_1 stp) σ) (h : ev_aldq σ (rS tw_1 stp) = some st') : ∃ stp', st' = rS tw_1 stp' ∧ ev_aldq σ (rS tw_2 stp) = some (rS tw_2 stp') ∧ ∀ v ∈ stp', gV (tw_g σ) v := by
  rcases stp with _ | ⟨x | x | _ | x, _ | ⟨a | a | _ | p, stp⟩⟩ <;> first | cases h | skip
  obtain ⟨⟨e1, e2⟩, e3⟩ := ev_if_some.mp h
  cases e3
  have e1 : 16 ≤ p.1 ∧ p.1 ≤ 21 := e1
  have e2 : vp_in x (σ.2.1 p.1 (p.2 / 2)) := e2
  have hq : sm_gd none σ (p.1, p.2 / 2) := hS _ (List.mem_cons_of_mem _ List.mem_cons_self)
  have hv := sm_vin e2
  have hin : p.2 / 2 < sm_mx p.1 := sm_in_mx hq.1 (by show p.1 ≠ 1; omega)
  have hb : p.2 % 2 < 2 := by omega
  have key : ∃ v, rn tw_1 v = m_get σ p.1 (p.2 / 2) x.toNatClampNeg ∧ rn tw_2 v = m_get σ p.1 (p.2 / 2 + p.2 % 2 * sm_off p.1) x.toNatClampNeg ∧ gV (tw_g σ) v := by
    have hg : if p.1 = 17 ∨ p.1 = 20 ∨ p.1 = 21 then sm_md j pc = none ∧ sm_NT j = false ∧ ((sm_md j (pc + 1) = none ∧ x.toInt < sm_cn σ (sm_e0 p.1)) ∨ ∃ un, sm_md j (pc + 1) = some (sm_e0 p.1, false, un) ∧ sm_al (sm_e0 p.1) un = true ∧ x.toInt = sm_cn σ (sm_e0 p.1)) else sm_md j (pc + 1) = sm_md j pc := hg
    by_cases hc : p.1 = 17 ∨ p.1 = 20 ∨ p.1 = 21
    · rw [if_pos hc] at hg
      have hlt : x.toInt < sm_cn σ (sm_e0 p.1) := by
        rcases hg.2.2 with g | ⟨un, g, -⟩
        · exact g.2
        · rw [hm] at g; cases g
      have p0 : p.2 / 2 = 0 := by
        have : p.2 / 2 < 1 := by rcases hc with c | c | c <;> (rw [c] at hin; exact hin)
        omega
      have idv : m_get σ p.1 (p.2 / 2) x.toNatClampNeg = .inr (.inr (some (sm_e0 p.1, x.toNatClampNeg))) ∧ m_get σ p.1 (p.2 / 2 + 1 * sm_off p.1) x.toNatClampNeg = rn sm_ρ (.inr (.inr (some (sm_e0 p.1, x.toNatClampNeg)))) ∧ x.toNatClampNeg < sm_mx (sm_e0 p.1) := by
        obtain ⟨i1, i2, i3, i4⟩ := hr.2.2
        have hv1 := hv.1
        rw [p0] at hv1 ⊢
        rcases hc with c | c | c
        · rw [c] at hv1 ⊢
          rw [i1.1] at hv1
          exact ⟨(i2 _ hv1).1, (i2 _ hv1).2, hv1⟩
        · rw [c] at hv1 ⊢
          rw [i1.2.1] at hv1
          exact ⟨(i3 _ hv1).1, (i3 _ hv1).2, hv1⟩
        · rw [c] at hv1 ⊢
          rw [i1.2.2.1] at hv1
          exact ⟨(i4 _ hv1).1, (i4 _ hv1).2, hv1⟩
      obtain ⟨w1, w2, w3⟩ := idv
      have hgd : sm_gd none σ (sm_e0 p.1, x.toNatClampNeg) := ⟨Or.inl w3, fun _ => by
        show (x.toNatClampNeg : Int) < sm_cn σ (sm_e0 p.1) + 0
        have := hv.2
        omega⟩
      refine ⟨rn (tw_l (p.2 % 2)) (.inr (.inr (some (sm_e0 p.1, x.toNatClampNeg)))), (tw_l1 hb).trans w1.symm, ?_, tw_lg (G := sm_gd none σ) hb hgd⟩
      have hb' : p.2 % 2 = 0 ∨ p.2 % 2 = 1 := by omega
      rcases hb' with e | e
      · rw [e, tw_l2z, Nat.zero_mul, Nat.add_zero, w1]
      · rw [e, tw_l2o, w2]
    · have hce : sm_ce σ p.1 (p.2 / 2) x.toNatClampNeg := ⟨hq.1, ⟨fun z => hc (Or.inl z), fun z => hc (Or.inr (Or.inl z)), fun z => hc (Or.inr (Or.inr z))⟩, (fun z => by omega), (fun z => by omega), fun _ => hv.1⟩
      have hnd : ¬ sm_dd none hs_E σ p.1 (p.2 / 2) x.toNatClampNeg := by
        rintro (⟨hd1, -⟩ | ⟨hd1, -⟩) <;> omega
      exact tw_cell hr hce hnd hb
  obtain ⟨v, v1, v2, v3⟩ := key
  refine ⟨v :: stp, ?_, ?_, fun w hw => ?_⟩
  · show m_get σ p.1 (p.2 / 2) x.toNatClampNeg :: rS tw_1 stp = rn tw_1 v :: rS tw_1 stp
    rw [v1]
  · refine ev_if_some.mpr ⟨⟨e1, ?_⟩, ?_⟩
    · show vp_in x (σ.2.1 p.1 (p.2 / 2 + p.2 % 2 * sm_off p.1))
      rw [tw_lenE hr (by omega) hin hb]
      exact e2
    · show some (m_get σ p.1 (p.2 / 2 + p.2 % 2 * sm_off p.1) x.toNatClampNeg :: rS tw_2 stp) = some (rn tw_2 v :: rS tw_2 stp)
      rw [v2]
  · rcases List.mem_cons.mp hw with rfl | hw
    · exact v3
    · exact hS w (List.mem_cons_of_mem _ (List.mem_cons_of_mem _ hw))
end TW2
