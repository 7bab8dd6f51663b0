/-! no reference dangles -/
def gBn (n : Nat → Nat) (q : Nat × Nat) : Prop := q.2 < n q.1
def nDg (σ : mS) : Prop := ∀ c i k q, gC σ c i k → m_r σ c i k = some q → gBn σ.1 q
def nM (σ σ' : mS) : Prop := (∀ c, σ.1 c ≤ σ'.1 c) ∧ nDg σ'
theorem nM.rf {σ : mS} (h : nDg σ) : nM σ σ := ⟨fun _ => Nat.le_refl _, h⟩
theorem nM.tr {σ σ1 σ2 : mS} (h : nM σ σ1) (g : nM σ1 σ2) : nM σ σ2 := ⟨fun c => Nat.le_trans (h.1 c) (g.1 c), g.2⟩
theorem nwk {n n' : Nat → Nat} (h : ∀ c, n c ≤ n' c) {v : mV} (g : gV (gBn n) v) : gV (gBn n') v := gV_mono (fun q z => Nat.lt_of_lt_of_le z (h q.1)) g
theorem nV_get {σ : mS} {c i k : Nat} (h : nDg σ) (hk : 13 ≤ c → k < σ.2.1 c i) : gV (gBn σ.1) (m_get σ c i k) := by
  unfold m_get
  split
  · exact trivial
  · next hh =>
    show gV (gBn σ.1) (.inr (.inr (m_r σ c i k)))
    cases e : m_r σ c i k with
    | none => exact trivial
    | some q => exact h c i k q ⟨hh, hk⟩ e
  · exact trivial
theorem nM_set {σ : mS} {c i k : Nat} {x : mV} (h : nDg σ) (hx : gV (gBn σ.1) x) (_hc : gBn σ.1 (c, i)) : nM σ (m_set σ c i k x) := by
  refine ⟨fun c' => by rw [m_set_1]; exact Nat.le_refl _, fun c' i' k' q hk e => ?_⟩
  rw [m_set_1]
  have hk : gC σ c' i' k' := ⟨hk.1, fun z => by have := hk.2 z; rw [m_set_2] at this; exact this⟩
  rcases x with a | a | a
  · exact h c' i' k' q hk e
  · exact h c' i' k' q hk e
  · rw [mr_sr] at e
    split at e
    · subst e
      exact hx
    · exact h c' i' k' q hk e
theorem nM_nu {σ : mS} {c n : Nat} (h : nDg σ) : nM σ (m_nu σ c n) := by
  have cnt : ∀ c', σ.1 c' ≤ (m_nu σ c n).1 c' := fun c' => by
    by_cases e : c' = c
    · rw [e, m_nu_cnt]; exact Nat.le_succ _
    · rw [m_nu_cntO σ e]; exact Nat.le_refl _
  refine ⟨cnt, fun c' i' k' q hk e => ?_⟩
  have e : m_zi σ.2.2.2.2 c (σ.1 c) none c' i' k' = some q := e
  have g : gBn σ.1 q := by
    unfold m_zi at e
    split at e
    · split at e
      · cases e
      · next h1 h2 => exact h c' i' k' q ⟨hk.1, fun hc => by have t := hk.2 hc; rw [m_nu_len σ (fun z => h2 z.2)] at t; exact t⟩ e
    · next h1 => exact h c' i' k' q ⟨hk.1, fun hc => by have t := hk.2 hc; rw [m_nu_len σ (fun z => h1 z.1)] at t; exact t⟩ e
  exact Nat.lt_of_lt_of_le g (cnt q.1)
theorem nM_mn {σ : mS} (h : nDg σ) : nM σ (m_mn σ) := by
  have c13 : (m_mn σ).1 13 = σ.1 13 + 4 := rfl
  have cnt : ∀ c', σ.1 c' ≤ (m_mn σ).1 c' := fun c' => by
    show σ.1 c' ≤ (if c' = 13 then σ.1 13 + 4 else if c' = 21 then σ.1 21 + 1 else σ.1 c')
    by_cases x : c' = 13
    · rw [if_pos x, x]; omega
    · rw [if_neg x]
      by_cases y : c' = 21
      · rw [if_pos y, y]; omega
      · rw [if_neg y]; exact Nat.le_refl _
  refine ⟨cnt, fun c' i' k' q hk e => ?_⟩
  have e : (if c' = 21 ∧ i' = σ.1 21 then some (13, σ.1 13 + k') else σ.2.2.2.2 c' i' k') = some q := e
  have L : 13 ≤ c' → k' < (if c' = 13 ∧ σ.1 13 ≤ i' then 3 else if c' = 21 ∧ i' = σ.1 21 then 4 else σ.2.1 c' i') := hk.2
  have ne : ¬ (c' = 13 ∧ σ.1 13 ≤ i') := fun z => by
    have u := hk.1
    have v : m_ty 13 k' = 0 := m_ty_arr (j := 0) rfl
    rw [z.1, v] at u
    cases u
  rw [if_neg ne] at L
  split at e
  · next hn =>
    rw [if_pos hn] at L
    have := L (by omega)
    cases e
    show σ.1 13 + k' < (m_mn σ).1 13
    omega
  · next hn =>
    rw [if_neg hn] at L
    exact Nat.lt_of_lt_of_le (h c' i' k' q ⟨hk.1, L⟩ e) (cnt q.1)
theorem nB_nu {σ : mS} {c n : Nat} : gBn (m_nu σ c n).1 (c, σ.1 c) := by
  show σ.1 c < (m_nu σ c n).1 c
  rw [m_nu_cnt]
  exact Nat.lt_succ_self _
theorem nB_mn {σ : mS} : gBn (m_mn σ).1 (21, σ.1 21) := Nat.lt_succ_self (σ.1 21)
theorem nsw {σ : mS} {c i k : Nat} {x : mV} {l : List mV} (H : ∀ v ∈ l, gV (gBn σ.1) v) : ∀ v ∈ l, gV (gBn (m_set σ c i k x).1) v := by rw [m_set_1]; exact H
theorem nuw {σ : mS} {c n : Nat} {l : List mV} (h : nDg σ) (H : ∀ v ∈ l, gV (gBn σ.1) v) : ∀ v ∈ l, gV (gBn (m_nu σ c n).1) v := fun v hv => nwk (nM_nu h).1 (H v hv)
theorem nmw {σ : mS} {l : List mV} (h : nDg σ) (H : ∀ v ∈ l, gV (gBn σ.1) v) : ∀ v ∈ l, gV (gBn (m_mn σ).1) v := fun v hv => nwk (nM_mn h).1 (H v hv)
def nIg (σ0 : mS) (s : ev_T) : Prop := (∀ v, some v ∈ s.2.1 → gV (gBn s.2.2.2.1.1) v) ∧ (∀ v ∈ s.2.2.1, gV (gBn s.2.2.2.1.1) v) ∧ nM σ0 s.2.2.2.1
def nPg (σ0 : mS) (x : mX) (σ' : mS) : Prop := nM σ0 σ' ∧ ∀ v, x = .inl (some v) → gV (gBn σ'.1) v
def nOg (σ0 σ : mS) (o : ev_O) : Prop := match o with
  | .inl s' => nIg σ0 s'
  | .inr (.inl e) => nPg σ0 e.1 e.2
  | .inr (.inr c) => (∀ v ∈ c.2.2.1, gV (gBn σ.1) v) ∧ ∀ v ∈ c.2.2.2, gV (gBn σ.1) v
section GL
variable {xs : ab_X} {mt : List mMt} {rt : Option FieldType} {R : Room} {nL : Nat} {rows : List (Nat × mRow)} {mc ms : Nat} {pc : Nat} {L : List (Option mV)} {st : List mV} {σ0 σ : mS} {k n : Nat} {o : ev_O}
theorem nl_callV {y : mMt} {r : mRow} (hS : ∀ v ∈ st, gV (gBn σ.1) v) (h : ev_callV R y r st k n = some o) : nOg σ0 σ o := by
  unfold ev_callV at h
  have hd : ∀ v ∈ st.drop r.2.2.2.1, gV (gBn σ.1) v := fun v hv => hS v (List.mem_of_mem_drop hv)
  cases e : st.drop r.2.2.2.1 with
  | nil => rw [e] at h; cases h
  | cons w st1 =>
    rw [e] at h hd
    rcases w with a | a | _ | q
    · cases h
    · cases h
    · cases h
    · obtain ⟨g, e5⟩ := ev_if_some.mp h
      cases e5
      refine ⟨fun v hv => ?_, fun v hv => hd v (List.mem_cons_of_mem _ hv)⟩
      rcases List.mem_cons.mp hv with rfl | hv
      · have : gBn σ.1 q := hd _ List.mem_cons_self
        show gBn σ.1 (m_p r 5, q.2)
        rw [← g.1]
        exact this
      · unfold m_take at hv
        exact hS v (List.mem_of_mem_take (List.mem_reverse.mp hv))
theorem nl_callS {y : mMt} {r : mRow} (hS : ∀ v ∈ st, gV (gBn σ.1) v) (h : ev_callS R y r st k n = some o) : nOg σ0 σ o := by
  unfold ev_callS at h
  obtain ⟨_, e5⟩ := ev_if_some.mp h
  cases e5
  refine ⟨fun v hv => ?_, fun v hv => hS v (List.mem_of_mem_drop hv)⟩
  unfold m_take at hv
  exact hS v (List.mem_of_mem_take (List.mem_reverse.mp hv))
theorem nl_step (hG : ∀ pc r, m_at rows pc = some r → ∀ i, r.1 = .getfield i → r.2.2.1 < 13) (hL : ∀ v, some v ∈ L → gV (gBn σ.1) v) (hS : ∀ v ∈ st, gV (gBn σ.1) v) (hF : nM σ0 σ) (h : ev_nf none mt rt R nL rows mc ms pc L st σ k n = some o) : nOg σ0 σ o := by
  have nw : ∀ {pc' : Nat} {o1 : Option (List mV)}, (∀ q, o1 = some q → ∀ v ∈ q, gV (gBn σ.1) v) → ev_nw pc' L σ k n o1 = some o → nOg σ0 σ o := by
    intro pc' o1 H h
    cases o1 with
    | none => cases h
    | some q => cases h; exact ⟨hL, H q rfl, hF⟩
  have nx : ∀ {pc' k' n' : Nat} {o1 : Option ev_H}, (∀ z, o1 = some z → (∀ v ∈ z.1, gV (gBn z.2.1) v) ∧ nM σ z.2) → ev_nx pc' L k' n' o1 = some o → nOg σ0 σ o := by
    intro pc' k' n' o1 H h
    cases o1 with
    | none => cases h
    | some q => cases h; exact ⟨fun v hv => nwk (H q rfl).2.1 (hL v hv), (H q rfl).1, hF.tr (H q rfl).2⟩
  have nz : ∀ {pc' k' : Nat} {o1 : Option (List mV × mS × Nat)}, (∀ z, o1 = some z → (∀ v ∈ z.1, gV (gBn z.2.1.1) v) ∧ nM σ z.2.1) → ev_nz pc' L k' o1 = some o → nOg σ0 σ o := by
    intro pc' k' o1 H h
    cases o1 with
    | none => cases h
    | some q => cases h; exact ⟨fun v hv => nwk (H q rfl).2.1 (hL v hv), (H q rfl).1, hF.tr (H q rfl).2⟩
  have ny : ∀ {ov : Option (Option mV)}, (∀ v, ov = some (some v) → gV (gBn σ.1) v) → ev_ny σ ov = some o → nOg σ0 σ o := by
    intro ov H h
    cases ov with
    | none => cases h
    | some q => cases h; exact ⟨hF, fun v e => H v (by cases e; rfl)⟩
  have tl : ∀ {a : mV} {l : List mV}, (∀ v ∈ a :: l, gV (gBn σ.1) v) → ∀ v ∈ l, gV (gBn σ.1) v := fun H v hv => H v (List.mem_cons_of_mem _ hv)
  have cn : ∀ {a : mV} {l : List mV}, gV (gBn σ.1) a → (∀ v ∈ l, gV (gBn σ.1) v) → ∀ v ∈ a :: l, gV (gBn σ.1) v := fun H1 H2 v hv => by
    rcases List.mem_cons.mp hv with rfl | hv
    · exact H1
    · exact H2 v hv
  have cnG : ∀ {G : Nat × Nat → Prop} {a : mV} {l : List mV}, gV G a → (∀ v ∈ l, gV G v) → ∀ v ∈ a :: l, gV G v := fun H1 H2 v hv => by
    rcases List.mem_cons.mp hv with rfl | hv
    · exact H1
    · exact H2 v hv
  have ald : ∀ {c : Nat} {q : List mV}, ev_ald c σ st = some q → ∀ v ∈ q, gV (gBn σ.1) v := by
    intro c q hq
    unfold ev_ald at hq
    split at hq
    · obtain ⟨g, h2⟩ := ev_if_some.mp hq
      cases h2
      exact cn (nV_get hF.2 (fun _ => by have := vp_ok.mp g.2; omega)) (tl (tl hS))
    · cases hq
  have bare : ∀ {r : mRow}, ev_bare r pc L st σ k n = some o → nOg σ0 σ o := by
    intro r h
    unfold ev_bare at h
    cases hc : m_cond r st with
    | some q => rw [hc] at h; cases h; exact ⟨hL, gV_cond hc hS, hF⟩
    | none =>
      rw [hc] at h
      dsimp only at h
      cases hp : m_pure r pc L st with
      | some q =>
        rw [hp] at h
        cases h
        obtain ⟨a, b⟩ := gV_pure hp hL hS
        exact ⟨a, b, hF⟩
      | none => rw [hp] at h; cases h
  unfold ev_nf at h
  cases hr : m_at rows pc with
  | none => rw [hr] at h; cases h
  | some r =>
    rw [hr] at h
    dsimp only at h
    obtain ⟨ig, ln, ra, rb, rz, rp⟩ := r
    cases ig
    case getfield i =>
      refine nw (fun q hq => ?_) h
      unfold ev_get at hq
      split at hq
      · obtain ⟨-, h2⟩ := ev_if_some.mp hq
        cases h2
        exact cn (nV_get hF.2 (fun hc => by have := hG _ _ hr i rfl; exact absurd hc (Nat.not_le.mpr this))) (tl hS)
      · cases hq
    case putfield i =>
      refine nx (fun z hz => ?_) h
      unfold ev_put at hz
      split at hz
      · obtain ⟨g, h2⟩ := ev_if_some.mp hz
        cases h2
        refine ⟨nsw (tl (tl hS)), nM_set hF.2 (hS _ List.mem_cons_self) ?_⟩
        have := hS _ (List.mem_cons_of_mem _ List.mem_cons_self)
        rw [← g.1]
        exact this
      · cases hz
    case arraylength =>
      dsimp only at h
      cases hx : m_isx st 0 with
      | true =>
        rw [hx] at h
        replace h : ev_nw (pc + 1) L σ k n (ev_xlen none st) = some o := h
        refine nw (fun q hq => ?_) h
        unfold ev_xlen at hq
        split at hq
        · rename_i z a w e1
          cases e1
        · cases hq
      | false =>
        rw [hx] at h
        replace h : ev_nw (pc + 1) L σ k n (ev_len σ st) = some o := h
        refine nw (fun q hq => ?_) h
        unfold ev_len at hq
        split at hq
        · obtain ⟨-, h2⟩ := ev_if_some.mp hq
          cases h2
          exact cn trivial (tl hS)
        · cases hq
    case iaload =>
      dsimp only at h
      cases hx : m_isx st 1 with
      | true =>
        rw [hx] at h
        replace h : ev_nw (pc + 1) L σ k n (ev_xld none st) = some o := h
        refine nw (fun q hq => ?_) h
        unfold ev_xld at hq
        split at hq
        · rename_i z a w e1
          cases e1
        · cases hq
      | false =>
        rw [hx] at h
        replace h : ev_nw (pc + 1) L σ k n (ev_ald 13 σ st) = some o := h
        exact nw (fun q hq => ald hq) h
    case laload => exact nw (fun q hq => ald hq) h
    case baload => exact nw (fun q hq => ald hq) h
    case aaload =>
      refine nw (fun q hq => ?_) h
      unfold ev_aldq at hq
      split at hq
      · obtain ⟨g, h2⟩ := ev_if_some.mp hq
        cases h2
        exact cn (nV_get hF.2 (fun _ => by have := vp_ok.mp g.2; omega)) (tl (tl hS))
      · cases hq
    case iastore =>
      refine nx (fun z hz => ?_) h
      unfold ev_iast at hz
      split at hz
      · obtain ⟨g, h2⟩ := ev_if_some.mp hz
        cases h2
        refine ⟨nsw (tl (tl (tl hS))), nM_set (x := .inl _) hF.2 trivial ?_⟩
        have := hS _ (List.mem_cons_of_mem _ (List.mem_cons_of_mem _ List.mem_cons_self))
        rw [← g.1]
        exact this
      · cases hz
    case lastore =>
      refine nx (fun z hz => ?_) h
      unfold ev_last at hz
      split at hz
      · obtain ⟨g, h2⟩ := ev_if_some.mp hz
        cases h2
        refine ⟨nsw (tl (tl (tl hS))), nM_set (x := .inr (.inl _)) hF.2 trivial ?_⟩
        have := hS _ (List.mem_cons_of_mem _ (List.mem_cons_of_mem _ List.mem_cons_self))
        rw [← g.1]
        exact this
      · cases hz
    case bastore =>
      refine nx (fun z hz => ?_) h
      unfold ev_zast at hz
      split at hz
      · obtain ⟨g, h2⟩ := ev_if_some.mp hz
        cases h2
        refine ⟨nsw (tl (tl (tl hS))), nM_set (x := .inl _) hF.2 trivial ?_⟩
        have := hS _ (List.mem_cons_of_mem _ (List.mem_cons_of_mem _ List.mem_cons_self))
        rw [← g.1]
        exact this
      · cases hz
    case aastore =>
      refine nx (fun z hz => ?_) h
      unfold ev_astq at hz
      split at hz
      · obtain ⟨g, h2⟩ := ev_if_some.mp hz
        cases h2
        exact ⟨nsw (tl (tl (tl hS))), nM_set hF.2 (hS _ List.mem_cons_self) (hS _ (List.mem_cons_of_mem _ (List.mem_cons_of_mem _ List.mem_cons_self)))⟩
      · cases hz
    case newarray t =>
      refine nz (fun z hz => ?_) h
      unfold ev_newa at hz
      split at hz
      · obtain ⟨-, h2⟩ := ev_if_some.mp hz
        cases h2
        exact ⟨cnG nB_nu (nuw hF.2 (tl hS)), nM_nu hF.2⟩
      · cases hz
    case anewarray t =>
      refine nz (fun z hz => ?_) h
      unfold ev_newa at hz
      split at hz
      · obtain ⟨-, h2⟩ := ev_if_some.mp hz
        cases h2
        exact ⟨cnG nB_nu (nuw hF.2 (tl hS)), nM_nu hF.2⟩
      · cases hz
    case multianewarray i d =>
      refine nx (fun z hz => ?_) h
      unfold ev_mna at hz
      split at hz
      · obtain ⟨-, h2⟩ := ev_if_some.mp hz
        cases h2
        exact ⟨cnG nB_mn (nmw hF.2 (tl (tl hS))), nM_mn hF.2⟩
      · cases hz
    case new i =>
      dsimp only at h
      by_cases hlt : ra < 13
      · rw [if_pos hlt] at h
        obtain ⟨-, h2⟩ := ev_if_some.mp h
        cases h2
        exact ⟨fun v hv => nwk (nM_nu hF.2).1 (hL v hv), cnG nB_nu (nuw hF.2 hS), hF.tr (nM_nu hF.2)⟩
      · rw [if_neg hlt] at h
        obtain ⟨-, h2⟩ := ev_if_some.mp h
        cases h2
        exact ⟨hF, fun v e => by cases e⟩
    case invokevirtual i =>
      dsimp only at h
      obtain ⟨-, h2⟩ := ev_if_some.mp h
      cases hy : mt[ra]? with
      | none => rw [hy] at h2; cases h2
      | some y => rw [hy] at h2; exact nl_callV hS h2
    case invokespecial i =>
      dsimp only at h
      obtain ⟨-, h2⟩ := ev_if_some.mp h
      by_cases he : ra = 2000
      · rw [if_pos he] at h2
        refine nw (fun q hq => ?_) h2
        unfold ev_obj at hq
        split at hq
        · obtain ⟨-, h3⟩ := ev_if_some.mp hq
          cases h3
          exact tl hS
        · cases hq
      · rw [if_neg he] at h2
        cases hy : mt[ra]? with
        | none => rw [hy] at h2; cases h2
        | some y => rw [hy] at h2; exact nl_callV hS h2
    case invokestatic i =>
      dsimp only at h
      obtain ⟨-, h2⟩ := ev_if_some.mp h
      by_cases he : 1000 ≤ ra
      · rw [if_pos he] at h2
        refine nw (fun q hq => ?_) h2
        unfold ev_math at hq
        split at hq
        · obtain ⟨-, h3⟩ := ev_if_some.mp hq; cases h3; exact cn trivial (tl (tl hS))
        · obtain ⟨-, h3⟩ := ev_if_some.mp hq; cases h3; exact cn trivial (tl (tl hS))
        · obtain ⟨-, h3⟩ := ev_if_some.mp hq; cases h3; exact cn trivial (tl hS)
        · obtain ⟨-, h3⟩ := ev_if_some.mp hq; cases h3; exact cn trivial (tl (tl hS))
        · obtain ⟨-, h3⟩ := ev_if_some.mp hq; cases h3; exact cn trivial (tl (tl hS))
        · cases hq
      · rw [if_neg he] at h2
        cases hy : mt[ra]? with
        | none => rw [hy] at h2; cases h2
        | some y => rw [hy] at h2; exact nl_callS hS h2
    case ireturn =>
      dsimp only at h
      obtain ⟨-, h2⟩ := ev_if_some.mp h
      refine ny (fun v e => ?_) h2
      unfold ev_iret at e
      split at e
      · obtain ⟨-, h3⟩ := ev_if_some.mp e; cases h3; exact trivial
      · cases e
    case lreturn =>
      dsimp only at h
      obtain ⟨-, h2⟩ := ev_if_some.mp h
      refine ny (fun v e => ?_) h2
      unfold ev_lret at e
      split at e
      · obtain ⟨-, h3⟩ := ev_if_some.mp e; cases h3; exact trivial
      · cases e
    case areturn =>
      dsimp only at h
      obtain ⟨-, h2⟩ := ev_if_some.mp h
      refine ny (fun v e => ?_) h2
      unfold ev_aret at e
      split at e
      · obtain ⟨-, h3⟩ := ev_if_some.mp e; cases h3; exact hS _ List.mem_cons_self
      · cases e
    case return_ =>
      dsimp only at h
      obtain ⟨-, h2⟩ := ev_if_some.mp h
      cases h2
      exact ⟨hF, fun v e => by cases e⟩
    all_goals exact bare h
end GL
theorem nV_L0 {G : Nat × Nat → Prop} {nL : Nat} {avs : List mV} (ha : ∀ v ∈ avs, gV G v) : ∀ v, some v ∈ m_L0 nL avs → gV G v := by
  intro v hv
  unfold m_L0 at hv
  rcases List.mem_append.mp hv with hv | hv
  · unfold m_args at hv
    obtain ⟨x, x1, x2⟩ := List.mem_flatMap.mp hv
    have : v = x := by
      rcases x with a | a | a
      · have := List.mem_singleton.mp x2; exact Option.some.inj this
      · rcases List.mem_cons.mp x2 with e | e
        · exact Option.some.inj e
        · have := List.mem_singleton.mp e; cases this
      · have := List.mem_singleton.mp x2; exact Option.some.inj this
    rw [this]
    exact ha x x1
  · have := (List.mem_replicate.mp hv).2
    cases this
theorem nV_clr {G : Nat × Nat → Prop} {L : List (Option mV)} {i m : Nat} (hL : ∀ v, some v ∈ L → gV G v) : ∀ v, some v ∈ (m_clr L i).set m none → gV G v := by
  intro v hv
  have h1 : some v ∈ m_clr L i ∨ (some v : Option mV) = none := (List.mem_or_eq_of_mem_set hv)
  rcases h1 with h1 | h1
  · unfold m_clr at h1
    cases i with
    | zero => exact hL v h1
    | succ i =>
      dsimp only at h1
      split at h1
      · rcases List.mem_or_eq_of_mem_set h1 with h1 | h1
        · exact hL v h1
        · cases h1
      · exact hL v h1
  · cases h1
theorem nM_ok : ∀ (f j : Nat) (avs : List mV) (σ : mS) (x : mX) (σ' : mS), (∀ v ∈ avs, gV (gBn σ.1) v) → nDg σ → ev_c sm_all f j avs σ = some (x, σ') → nPg σ x σ'
  | 0, _, _, _, _, _, _, _, h => by cases h
  | f + 1, j, avs, σ, x, σ', ha, hg, h => by
    obtain ⟨z, h1, h2, h3⟩ := ev_c_succ.mp h
    have step : ∀ (s : ev_T) (o : ev_O), nIg σ s → ev_st none z s = some o → nOg σ s.2.2.2.1 o := fun s o hI ho => nl_step (gGB_z h1) hI.1 hI.2.1 hI.2.2 ho
    refine ev_inv (I := fun s => nIg σ s) (Po := fun x τ => nPg σ x τ) (fun s s' hI ho => step s _ hI ho) (fun s e hI ho => step s _ hI ho) (fun s c y τ hI ho hc => ?_) f _ x σ' ⟨nV_L0 ha, (fun v hv => by cases hv), nM.rf hg⟩ h3
    have g := step s _ hI ho
    have e := nM_ok f c.1 c.2.2.1 s.2.2.2.1 y τ g.1 hI.2.2.2 hc
    have fr : nM σ τ := hI.2.2.tr e.1
    cases y with
    | inl v =>
      refine ⟨fun u hu => nwk e.1.1 (hI.1 u hu), fun u hu => ?_, fr⟩
      rcases List.mem_append.mp hu with hu | hu
      · cases v with
        | none => cases hu
        | some v =>
          have := List.mem_singleton.mp hu
          rw [this]
          exact e.2 v rfl
      · exact nwk e.1.1 (g.2 u hu)
    | inr b =>
      dsimp only
      cases hh : z.1.2.2.2.2.2 with
      | nil => exact ⟨fr, fun v e => by cases e⟩
      | cons w ws =>
        dsimp only
        intro s' hs'
        unfold ev_hd at hs'
        split at hs'
        · cases hs'
        · split at hs'
          · cases hs'
          · split at hs'
            · split at hs'
              · cases hs'
                exact ⟨nV_clr (fun u hu => nwk e.1.1 (hI.1 u hu)), (fun v hv => by cases hv), fr⟩
              · cases hs'
            · split at hs'
              · cases hs'
                exact ⟨nV_clr (fun u hu => nwk e.1.1 (hI.1 u hu)), (fun v hv => by cases hv), fr⟩
              · cases hs'
            · cases hs'
theorem nM_run {j : Nat} {avs : List mV} {σ σ' : mS} {x : mX} (h : ev_run sm_all j avs σ x σ') (ha : ∀ v ∈ avs, gV (gBn σ.1) v) (hg : nDg σ) : nM σ σ' := by
  obtain ⟨f, h⟩ := h
  exact (nM_ok f j avs σ x σ' ha hg h).1
