/-! the law's own arrays are out of the class's reach -/
def gX (q : Nat × Nat) : Prop := ¬ ((q.1 = 13 ∧ 14 ≤ q.2 ∧ q.2 < 18) ∨ (q.1 = 14 ∧ q.2 = 6))
/-- a cell that can be read as a reference -/
def gC (σ : mS) (c i k : Nat) : Prop := m_ty c k = 2 ∧ (13 ≤ c → k < σ.2.1 c i)
def gH (σ : mS) : Prop := (∀ c i k q, gC σ c i k → m_r σ c i k = some q → gX q) ∧ 18 ≤ σ.1 13 ∧ 7 ≤ σ.1 14
def gF (σ σ' : mS) : Prop := gH σ' ∧ (∀ c i k, ¬ gX (c, i) → m_i σ' c i k = m_i σ c i k ∧ m_l σ' c i k = m_l σ c i k) ∧ ∀ c i, ¬ gX (c, i) → σ'.2.1 c i = σ.2.1 c i
theorem gF.rf {σ : mS} (h : gH σ) : gF σ σ := ⟨h, fun _ _ _ _ => ⟨rfl, rfl⟩, fun _ _ _ => rfl⟩
theorem gF.tr {σ σ1 σ2 : mS} (h : gF σ σ1) (g : gF σ1 σ2) : gF σ σ2 := ⟨g.1, fun c i k hx => ⟨((g.2.1 c i k hx).1).trans (h.2.1 c i k hx).1, ((g.2.1 c i k hx).2).trans (h.2.1 c i k hx).2⟩, fun c i hx => (g.2.2 c i hx).trans (h.2.2 c i hx)⟩
theorem gX_new {σ : mS} (h : gH σ) {c i : Nat} (hi : σ.1 c ≤ i) : gX (c, i) := by
  rintro (⟨e, _, z⟩ | ⟨e, z⟩)
  · have e : c = 13 := e
    subst e
    have := h.2.1
    have z : i < 18 := z
    omega
  · have e : c = 14 := e
    subst e
    have := h.2.2
    have z : i = 6 := z
    omega
theorem gV_get {σ : mS} {c i k : Nat} (h : gH σ) (hk : 13 ≤ c → k < σ.2.1 c i) : gV gX (m_get σ c i k) := by
  unfold m_get
  split
  · exact trivial
  · next hh =>
    show gV gX (.inr (.inr (m_r σ c i k)))
    cases e : m_r σ c i k with
    | none => exact trivial
    | some q => exact h.1 c i k q ⟨hh, hk⟩ e
  · exact trivial
theorem gF_set {σ : mS} {c i k : Nat} {x : mV} (h : gH σ) (hx : gV gX x) (hc : gX (c, i)) : gF σ (m_set σ c i k x) := by
  refine ⟨⟨fun c' i' k' q hk e => ?_, by rw [m_set_1]; exact h.2.1, by rw [m_set_1]; exact h.2.2⟩, fun c' i' k' hn => ?_, fun c' i' _ => by rw [m_set_2]⟩
  · rcases x with a | a | a
    · exact h.1 c' i' k' q hk e
    · exact h.1 c' i' k' q hk e
    · rw [mr_sr] at e
      split at e
      · subst e
        exact hx
      · exact h.1 c' i' k' q hk e
  · have ne : ¬ (c' = c ∧ i' = i ∧ k' = k) := fun z => hn (by rw [z.1, z.2.1]; exact hc)
    rcases x with a | a | a
    · exact ⟨by rw [mi_si, if_neg ne], rfl⟩
    · exact ⟨rfl, by rw [ml_sl, if_neg ne]⟩
    · exact ⟨rfl, rfl⟩
theorem gF_nu {σ : mS} {c n : Nat} (h : gH σ) : gF σ (m_nu σ c n) := by
  have ne : ∀ c' i' : Nat, ¬ gX (c', i') → ¬ (c' = c ∧ i' = σ.1 c) := fun c' i' hn z => hn (by rw [z.1, z.2]; exact gX_new h (Nat.le_refl _))
  have cnt : ∀ c', σ.1 c' ≤ (m_nu σ c n).1 c' := fun c' => by
    by_cases e : c' = c
    · rw [e, m_nu_cnt]; exact Nat.le_succ _
    · rw [m_nu_cntO σ e]; exact Nat.le_refl _
  refine ⟨⟨fun c' i' k' q hk e => ?_, Nat.le_trans h.2.1 (cnt 13), Nat.le_trans h.2.2 (cnt 14)⟩, fun c' i' k' hn => ?_, fun c' i' hn => m_nu_len σ (ne _ _ hn)⟩
  · have e : m_zi σ.2.2.2.2 c (σ.1 c) none c' i' k' = some q := e
    unfold m_zi at e
    split at e
    · split at e
      · cases e
      · next h1 h2 => exact h.1 c' i' k' q ⟨hk.1, fun hc => by have t := hk.2 hc; rw [m_nu_len σ (fun z => h2 z.2)] at t; exact t⟩ e
    · next h1 => exact h.1 c' i' k' q ⟨hk.1, fun hc => by have t := hk.2 hc; rw [m_nu_len σ (fun z => h1 z.1)] at t; exact t⟩ e
  · refine ⟨?_, ?_⟩
    · show m_zi σ.2.2.1 c (σ.1 c) 0 c' i' k' = _
      unfold m_zi
      split
      · rw [if_neg (fun z => ne _ _ hn ⟨‹c' = c›, z⟩)]
        rfl
      · rfl
    · show m_zi σ.2.2.2.1 c (σ.1 c) 0 c' i' k' = _
      unfold m_zi
      split
      · rw [if_neg (fun z => ne _ _ hn ⟨‹c' = c›, z⟩)]
        rfl
      · rfl
theorem gF_mn {σ : mS} (h : gH σ) : gF σ (m_mn σ) := by
  have ne : ∀ c' i' : Nat, ¬ gX (c', i') → ¬ (c' = 13 ∧ σ.1 13 ≤ i') := fun c' i' hn z => hn (by rw [z.1]; exact gX_new h z.2)
  have c13 : (m_mn σ).1 13 = σ.1 13 + 4 := rfl
  have c14 : (m_mn σ).1 14 = σ.1 14 := rfl
  refine ⟨⟨fun c' i' k' q hk e => ?_, by have := h.2.1; omega, by rw [c14]; exact h.2.2⟩, fun c' i' k' hn => ⟨?_, rfl⟩, fun c' i' hn => ?_⟩
  · have e : (if c' = 21 ∧ i' = σ.1 21 then some (13, σ.1 13 + k') else σ.2.2.2.2 c' i' k') = some q := e
    split at e
    · cases e
      exact gX_new h (Nat.le_add_right _ _)
    · next hn =>
      refine h.1 c' i' k' q ⟨hk.1, fun hc => ?_⟩ e
      have t := hk.2 hc
      have t : k' < (if c' = 13 ∧ σ.1 13 ≤ i' then 3 else if c' = 21 ∧ i' = σ.1 21 then 4 else σ.2.1 c' i') := t
      rw [if_neg (fun z => by
        have u := hk.1
        have v : m_ty 13 k' = 0 := m_ty_arr (j := 0) rfl
        rw [z.1, v] at u
        cases u), if_neg hn] at t
      exact t
  · show (if c' = 13 ∧ σ.1 13 ≤ i' then 0 else σ.2.2.1 c' i' k') = _
    rw [if_neg (ne _ _ hn)]
    rfl
  · show (if c' = 13 ∧ σ.1 13 ≤ i' then 3 else if c' = 21 ∧ i' = σ.1 21 then 4 else σ.2.1 c' i') = _
    rw [if_neg (ne _ _ hn), if_neg (fun z => hn (by rw [z.1]; rintro (⟨e, _⟩ | ⟨e, _⟩) <;> cases e))]
def gI (σ0 : mS) (s : ev_T) : Prop := (∀ v, some v ∈ s.2.1 → gV gX v) ∧ (∀ v ∈ s.2.2.1, gV gX v) ∧ gF σ0 s.2.2.2.1
def gP (σ0 : mS) (x : mX) (σ' : mS) : Prop := gF σ0 σ' ∧ ∀ v, x = .inl (some v) → gV gX v
def gO (σ0 : mS) (o : ev_O) : Prop := match o with
  | .inl s' => gI σ0 s'
  | .inr (.inl e) => gP σ0 e.1 e.2
  | .inr (.inr c) => (∀ v ∈ c.2.2.1, gV gX v) ∧ ∀ v ∈ c.2.2.2, gV gX v
section GL
variable {xs : ab_X} {mt : List mMt} {rt : Option FieldType} {R : Room} {nL : Nat} {rows : List (Nat × mRow)} {mc ms : Nat} {pc : Nat} {L : List (Option mV)} {st : List mV} {σ0 σ : mS} {k n : Nat} {o : ev_O}
theorem gl_callV {y : mMt} {r : mRow} (hS : ∀ v ∈ st, gV gX v) (h : ev_callV R y r st k n = some o) : gO σ0 o := by
  unfold ev_callV at h
  have hd : ∀ v ∈ st.drop r.2.2.2.1, gV gX v := fun v hv => hS v (List.mem_of_mem_drop hv)
  cases e : st.drop r.2.2.2.1 with
  | nil => rw [e] at h; cases h
  | cons w st1 =>
    rw [e] at h hd
    rcases w with a | a | _ | q
    · cases h
    · cases h
    · cases h
    · obtain ⟨g, e5⟩ := ev_if_some.mp h
      cases e5
      refine ⟨fun v hv => ?_, fun v hv => hd v (List.mem_cons_of_mem _ hv)⟩
      rcases List.mem_cons.mp hv with rfl | hv
      · have : gX q := hd _ List.mem_cons_self
        show gX (m_p r 5, q.2)
        rw [← g.1]
        exact this
      · unfold m_take at hv
        exact hS v (List.mem_of_mem_take (List.mem_reverse.mp hv))
theorem gl_callS {y : mMt} {r : mRow} (hS : ∀ v ∈ st, gV gX v) (h : ev_callS R y r st k n = some o) : gO σ0 o := by
  unfold ev_callS at h
  obtain ⟨_, e5⟩ := ev_if_some.mp h
  cases e5
  refine ⟨fun v hv => ?_, fun v hv => hS v (List.mem_of_mem_drop hv)⟩
  unfold m_take at hv
  exact hS v (List.mem_of_mem_take (List.mem_reverse.mp hv))
theorem gl_step (hG : ∀ pc r, m_at rows pc = some r → ∀ i, r.1 = .getfield i → r.2.2.1 < 13) (hL : ∀ v, some v ∈ L → gV gX v) (hS : ∀ v ∈ st, gV gX v) (hF : gF σ0 σ) (h : ev_nf none mt rt R nL rows mc ms pc L st σ k n = some o) : gO σ0 o := by
  have nw : ∀ {pc' : Nat} {o1 : Option (List mV)}, (∀ q, o1 = some q → ∀ v ∈ q, gV gX v) → ev_nw pc' L σ k n o1 = some o → gO σ0 o := by
    intro pc' o1 H h
    cases o1 with
    | none => cases h
    | some q => cases h; exact ⟨hL, H q rfl, hF⟩
  have nx : ∀ {pc' k' n' : Nat} {o1 : Option ev_H}, (∀ z, o1 = some z → (∀ v ∈ z.1, gV gX v) ∧ gF σ z.2) → ev_nx pc' L k' n' o1 = some o → gO σ0 o := by
    intro pc' k' n' o1 H h
    cases o1 with
    | none => cases h
    | some q => cases h; exact ⟨hL, (H q rfl).1, hF.tr (H q rfl).2⟩
  have nz : ∀ {pc' k' : Nat} {o1 : Option (List mV × mS × Nat)}, (∀ z, o1 = some z → (∀ v ∈ z.1, gV gX v) ∧ gF σ z.2.1) → ev_nz pc' L k' o1 = some o → gO σ0 o := by
    intro pc' k' o1 H h
    cases o1 with
    | none => cases h
    | some q => cases h; exact ⟨hL, (H q rfl).1, hF.tr (H q rfl).2⟩
  have ny : ∀ {ov : Option (Option mV)}, (∀ v, ov = some (some v) → gV gX v) → ev_ny σ ov = some o → gO σ0 o := by
    intro ov H h
    cases ov with
    | none => cases h
    | some q => cases h; exact ⟨hF, fun v e => H v (by cases e; rfl)⟩
  have tl : ∀ {a : mV} {l : List mV}, (∀ v ∈ a :: l, gV gX v) → ∀ v ∈ l, gV gX v := fun H v hv => H v (List.mem_cons_of_mem _ hv)
  have cn : ∀ {a : mV} {l : List mV}, gV gX a → (∀ v ∈ l, gV gX v) → ∀ v ∈ a :: l, gV gX v := fun H1 H2 v hv => by
    rcases List.mem_cons.mp hv with rfl | hv
    · exact H1
    · exact H2 v hv
  have ald : ∀ {c : Nat} {q : List mV}, ev_ald c σ st = some q → ∀ v ∈ q, gV gX v := by
    intro c q hq
    unfold ev_ald at hq
    split at hq
    · obtain ⟨g, h2⟩ := ev_if_some.mp hq
      cases h2
      exact cn (gV_get hF.1 (fun _ => by have := vp_ok.mp g.2; omega)) (tl (tl hS))
    · cases hq
  have bare : ∀ {r : mRow}, ev_bare r pc L st σ k n = some o → gO σ0 o := by
    intro r h
    unfold ev_bare at h
    cases hc : m_cond r st with
    | some q => rw [hc] at h; cases h; exact ⟨hL, gV_cond hc hS, hF⟩
    | none =>
      rw [hc] at h
      dsimp only at h
      cases hp : m_pure r pc L st with
      | some q =>
        rw [hp] at h
        cases h
        obtain ⟨a, b⟩ := gV_pure hp hL hS
        exact ⟨a, b, hF⟩
      | none => rw [hp] at h; cases h
  unfold ev_nf at h
  cases hr : m_at rows pc with
  | none => rw [hr] at h; cases h
  | some r =>
    rw [hr] at h
    dsimp only at h
    obtain ⟨ig, ln, ra, rb, rz, rp⟩ := r
    cases ig
    case getfield i =>
      refine nw (fun q hq => ?_) h
      unfold ev_get at hq
      split at hq
      · obtain ⟨-, h2⟩ := ev_if_some.mp hq
        cases h2
        exact cn (gV_get hF.1 (fun hc => by have := hG _ _ hr i rfl; exact absurd hc (Nat.not_le.mpr this))) (tl hS)
      · cases hq
    case putfield i =>
      refine nx (fun z hz => ?_) h
      unfold ev_put at hz
      split at hz
      · obtain ⟨g, h2⟩ := ev_if_some.mp hz
        cases h2
        refine ⟨tl (tl hS), gF_set hF.1 (hS _ List.mem_cons_self) ?_⟩
        have := hS _ (List.mem_cons_of_mem _ List.mem_cons_self)
        rw [← g.1]
        exact this
      · cases hz
    case arraylength =>
      dsimp only at h
      cases hx : m_isx st 0 with
      | true =>
        rw [hx] at h
        replace h : ev_nw (pc + 1) L σ k n (ev_xlen none st) = some o := h
        refine nw (fun q hq => ?_) h
        unfold ev_xlen at hq
        split at hq
        · rename_i z a w e1
          cases e1
        · cases hq
      | false =>
        rw [hx] at h
        replace h : ev_nw (pc + 1) L σ k n (ev_len σ st) = some o := h
        refine nw (fun q hq => ?_) h
        unfold ev_len at hq
        split at hq
        · obtain ⟨-, h2⟩ := ev_if_some.mp hq
          cases h2
          exact cn trivial (tl hS)
        · cases hq
    case iaload =>
      dsimp only at h
      cases hx : m_isx st 1 with
      | true =>
        rw [hx] at h
        replace h : ev_nw (pc + 1) L σ k n (ev_xld none st) = some o := h
        refine nw (fun q hq => ?_) h
        unfold ev_xld at hq
        split at hq
        · rename_i z a w e1
          cases e1
        · cases hq
      | false =>
        rw [hx] at h
        replace h : ev_nw (pc + 1) L σ k n (ev_ald 13 σ st) = some o := h
        exact nw (fun q hq => ald hq) h
    case laload => exact nw (fun q hq => ald hq) h
    case baload => exact nw (fun q hq => ald hq) h
    case aaload =>
      refine nw (fun q hq => ?_) h
      unfold ev_aldq at hq
      split at hq
      · obtain ⟨g, h2⟩ := ev_if_some.mp hq
        cases h2
        exact cn (gV_get hF.1 (fun _ => by have := vp_ok.mp g.2; omega)) (tl (tl hS))
      · cases hq
    case iastore =>
      refine nx (fun z hz => ?_) h
      unfold ev_iast at hz
      split at hz
      · obtain ⟨g, h2⟩ := ev_if_some.mp hz
        cases h2
        refine ⟨tl (tl (tl hS)), gF_set hF.1 trivial ?_⟩
        have := hS _ (List.mem_cons_of_mem _ (List.mem_cons_of_mem _ List.mem_cons_self))
        rw [← g.1]
        exact this
      · cases hz
    case lastore =>
      refine nx (fun z hz => ?_) h
      unfold ev_last at hz
      split at hz
      · obtain ⟨g, h2⟩ := ev_if_some.mp hz
        cases h2
        refine ⟨tl (tl (tl hS)), gF_set hF.1 trivial ?_⟩
        have := hS _ (List.mem_cons_of_mem _ (List.mem_cons_of_mem _ List.mem_cons_self))
        rw [← g.1]
        exact this
      · cases hz
    case bastore =>
      refine nx (fun z hz => ?_) h
      unfold ev_zast at hz
      split at hz
      · obtain ⟨g, h2⟩ := ev_if_some.mp hz
        cases h2
        refine ⟨tl (tl (tl hS)), gF_set hF.1 trivial ?_⟩
        have := hS _ (List.mem_cons_of_mem _ (List.mem_cons_of_mem _ List.mem_cons_self))
        rw [← g.1]
        exact this
      · cases hz
    case aastore =>
      refine nx (fun z hz => ?_) h
      unfold ev_astq at hz
      split at hz
      · obtain ⟨g, h2⟩ := ev_if_some.mp hz
        cases h2
        exact ⟨tl (tl (tl hS)), gF_set hF.1 (hS _ List.mem_cons_self) (hS _ (List.mem_cons_of_mem _ (List.mem_cons_of_mem _ List.mem_cons_self)))⟩
      · cases hz
    case newarray t =>
      refine nz (fun z hz => ?_) h
      unfold ev_newa at hz
      split at hz
      · obtain ⟨-, h2⟩ := ev_if_some.mp hz
        cases h2
        exact ⟨cn (gX_new hF.1 (Nat.le_refl _)) (tl hS), gF_nu hF.1⟩
      · cases hz
    case anewarray t =>
      refine nz (fun z hz => ?_) h
      unfold ev_newa at hz
      split at hz
      · obtain ⟨-, h2⟩ := ev_if_some.mp hz
        cases h2
        exact ⟨cn (gX_new hF.1 (Nat.le_refl _)) (tl hS), gF_nu hF.1⟩
      · cases hz
    case multianewarray i d =>
      refine nx (fun z hz => ?_) h
      unfold ev_mna at hz
      split at hz
      · obtain ⟨-, h2⟩ := ev_if_some.mp hz
        cases h2
        exact ⟨cn (gX_new hF.1 (Nat.le_refl _)) (tl (tl hS)), gF_mn hF.1⟩
      · cases hz
    case new i =>
      dsimp only at h
      by_cases hlt : ra < 13
      · rw [if_pos hlt] at h
        obtain ⟨-, h2⟩ := ev_if_some.mp h
        cases h2
        exact ⟨hL, cn (gX_new hF.1 (Nat.le_refl _)) hS, hF.tr (gF_nu hF.1)⟩
      · rw [if_neg hlt] at h
        obtain ⟨-, h2⟩ := ev_if_some.mp h
        cases h2
        exact ⟨hF, fun v e => by cases e⟩
    case invokevirtual i =>
      dsimp only at h
      obtain ⟨-, h2⟩ := ev_if_some.mp h
      cases hy : mt[ra]? with
      | none => rw [hy] at h2; cases h2
      | some y => rw [hy] at h2; exact gl_callV hS h2
    case invokespecial i =>
      dsimp only at h
      obtain ⟨-, h2⟩ := ev_if_some.mp h
      by_cases he : ra = 2000
      · rw [if_pos he] at h2
        refine nw (fun q hq => ?_) h2
        unfold ev_obj at hq
        split at hq
        · obtain ⟨-, h3⟩ := ev_if_some.mp hq
          cases h3
          exact tl hS
        · cases hq
      · rw [if_neg he] at h2
        cases hy : mt[ra]? with
        | none => rw [hy] at h2; cases h2
        | some y => rw [hy] at h2; exact gl_callV hS h2
    case invokestatic i =>
      dsimp only at h
      obtain ⟨-, h2⟩ := ev_if_some.mp h
      by_cases he : 1000 ≤ ra
      · rw [if_pos he] at h2
        refine nw (fun q hq => ?_) h2
        unfold ev_math at hq
        split at hq
        · obtain ⟨-, h3⟩ := ev_if_some.mp hq; cases h3; exact cn trivial (tl (tl hS))
        · obtain ⟨-, h3⟩ := ev_if_some.mp hq; cases h3; exact cn trivial (tl (tl hS))
        · obtain ⟨-, h3⟩ := ev_if_some.mp hq; cases h3; exact cn trivial (tl hS)
        · obtain ⟨-, h3⟩ := ev_if_some.mp hq; cases h3; exact cn trivial (tl (tl hS))
        · obtain ⟨-, h3⟩ := ev_if_some.mp hq; cases h3; exact cn trivial (tl (tl hS))
        · cases hq
      · rw [if_neg he] at h2
        cases hy : mt[ra]? with
        | none => rw [hy] at h2; cases h2
        | some y => rw [hy] at h2; exact gl_callS hS h2
    case ireturn =>
      dsimp only at h
      obtain ⟨-, h2⟩ := ev_if_some.mp h
      refine ny (fun v e => ?_) h2
      unfold ev_iret at e
      split at e
      · obtain ⟨-, h3⟩ := ev_if_some.mp e; cases h3; exact trivial
      · cases e
    case lreturn =>
      dsimp only at h
      obtain ⟨-, h2⟩ := ev_if_some.mp h
      refine ny (fun v e => ?_) h2
      unfold ev_lret at e
      split at e
      · obtain ⟨-, h3⟩ := ev_if_some.mp e; cases h3; exact trivial
      · cases e
    case areturn =>
      dsimp only at h
      obtain ⟨-, h2⟩ := ev_if_some.mp h
      refine ny (fun v e => ?_) h2
      unfold ev_aret at e
      split at e
      · obtain ⟨-, h3⟩ := ev_if_some.mp e; cases h3; exact hS _ List.mem_cons_self
      · cases e
    case return_ =>
      dsimp only at h
      obtain ⟨-, h2⟩ := ev_if_some.mp h
      cases h2
      exact ⟨hF, fun v e => by cases e⟩
    all_goals exact bare h
end GL
theorem gV_L0 {nL : Nat} {avs : List mV} (ha : ∀ v ∈ avs, gV gX v) : ∀ v, some v ∈ m_L0 nL avs → gV gX v := by
  intro v hv
  unfold m_L0 at hv
  rcases List.mem_append.mp hv with hv | hv
  · unfold m_args at hv
    obtain ⟨x, x1, x2⟩ := List.mem_flatMap.mp hv
    have : v = x := by
      rcases x with a | a | a
      · have := List.mem_singleton.mp x2; exact Option.some.inj this
      · rcases List.mem_cons.mp x2 with e | e
        · exact Option.some.inj e
        · have := List.mem_singleton.mp e; cases this
      · have := List.mem_singleton.mp x2; exact Option.some.inj this
    rw [this]
    exact ha x x1
  · have := (List.mem_replicate.mp hv).2
    cases this
theorem gV_clr {L : List (Option mV)} {i m : Nat} (hL : ∀ v, some v ∈ L → gV gX v) : ∀ v, some v ∈ (m_clr L i).set m none → gV gX v := by
  intro v hv
  have h1 : some v ∈ m_clr L i ∨ (some v : Option mV) = none := (List.mem_or_eq_of_mem_set hv)
  rcases h1 with h1 | h1
  · unfold m_clr at h1
    cases i with
    | zero => exact hL v h1
    | succ i =>
      dsimp only at h1
      split at h1
      · rcases List.mem_or_eq_of_mem_set h1 with h1 | h1
        · exact hL v h1
        · cases h1
      · exact hL v h1
  · cases h1
def gGB (z : mAl) : Bool := z.2.1.all (fun q => match q.2.1 with
  | .getfield _ => Nat.blt q.2.2.2.1 13
  | _ => true)
theorem gGB_ok : m_alF.all gGB = true := by decide +kernel
theorem gGB_z {j : Nat} {z : mAl} (h : m_alF[j]? = some z) : ∀ pc r, m_at z.2.1 pc = some r → ∀ i, r.1 = .getfield i → r.2.2.1 < 13 := by
  intro pc r hr i e
  have g := List.all_eq_true.mp gGB_ok z (List.mem_of_getElem? h)
  have g2 := List.all_eq_true.mp g _ (m_at_mem hr)
  dsimp only at g2
  rw [e] at g2
  exact Nat.blt_eq.mp g2
theorem gF_ok : ∀ (f j : Nat) (avs : List mV) (σ : mS) (x : mX) (σ' : mS), (∀ v ∈ avs, gV gX v) → gH σ → ev_c sm_all f j avs σ = some (x, σ') → gP σ x σ'
  | 0, _, _, _, _, _, _, _, h => by cases h
  | f + 1, j, avs, σ, x, σ', ha, hg, h => by
    obtain ⟨z, h1, h2, h3⟩ := ev_c_succ.mp h
    have step : ∀ (s : ev_T) (o : ev_O), gI σ s → ev_st none z s = some o → gO σ o := fun s o hI ho => gl_step (gGB_z h1) hI.1 hI.2.1 hI.2.2 ho
    refine ev_inv (I := fun s => gI σ s) (Po := fun x τ => gP σ x τ) (fun s s' hI ho => step s _ hI ho) (fun s e hI ho => step s _ hI ho) (fun s c y τ hI ho hc => ?_) f _ x σ' ⟨gV_L0 ha, (fun v hv => by cases hv), gF.rf hg⟩ h3
    have g := step s _ hI ho
    have e := gF_ok f c.1 c.2.2.1 s.2.2.2.1 y τ g.1 hI.2.2.1 hc
    have fr : gF σ τ := hI.2.2.tr e.1
    cases y with
    | inl v =>
      refine ⟨hI.1, fun u hu => ?_, fr⟩
      rcases List.mem_append.mp hu with hu | hu
      · cases v with
        | none => cases hu
        | some v =>
          have := List.mem_singleton.mp hu
          rw [this]
          exact e.2 v rfl
      · exact g.2 u hu
    | inr b =>
      dsimp only
      cases hh : z.1.2.2.2.2.2 with
      | nil => exact ⟨fr, fun v e => by cases e⟩
      | cons w ws =>
        dsimp only
        intro s' hs'
        unfold ev_hd at hs'
        split at hs'
        · cases hs'
        · split at hs'
          · cases hs'
          · split at hs'
            · split at hs'
              · cases hs'
                exact ⟨gV_clr hI.1, (fun v hv => by cases hv), fr⟩
              · cases hs'
            · split at hs'
              · cases hs'
                exact ⟨gV_clr hI.1, (fun v hv => by cases hv), fr⟩
              · cases hs'
            · cases hs'
theorem gF_run {j : Nat} {avs : List mV} {σ σ' : mS} {x : mX} (h : ev_run sm_all j avs σ x σ') (ha : ∀ v ∈ avs, gV gX v) (hg : gH σ) : gF σ σ' := by
  obtain ⟨f, h⟩ := h
  exact (gF_ok f j avs σ x σ' ha hg h).1
