/-! main's beginning: a new hall, five arrays -/
section ST0
variable {C : ec_C} {f j : Nat} {z : mAl} {pc : Nat} {L : List (Option mV)} {st : List mV} {σ : mS} {q : mX × mS} {e : Nat × Nat × Nat × Int × List Nat}
theorem ec_new {i : Nat} (h : EC C f j z pc L st σ q) (hr : m_at z.2.1 pc = some (.new i, e)) (hc : e.2.1 < 13) : ∃ f', f' < f ∧ EC C f' j z (pc + 3) L (.inr (.inr (some (e.2.1, σ.1 e.2.1))) :: st) (m_nu σ e.2.1 0) q := by
  obtain ⟨k, n, h⟩ := h
  obtain ⟨f', rfl, o, o1, o2⟩ := ec h
  unfold ev_st ev_nf at o1
  dsimp only at o1
  rw [hr] at o1
  dsimp only at o1
  rw [if_pos hc] at o1
  obtain ⟨-, o1⟩ := ev_if_some.mp o1
  cases o1
  exact ⟨f', Nat.lt_succ_self _, _, _, o2⟩
theorem ec_nwl {r : mRow} {x : Int32} (h : EC C f j z pc L (.inl x :: st) σ q) (hr : m_at z.2.1 pc = some r) (hi : er_isN r = true) : ∃ f', f' < f ∧ EC C f' j z (pc + 2) L (.inr (.inr (some (r.2.2.1, σ.1 r.2.2.1))) :: st) (m_nu σ r.2.2.1 x.toNatClampNeg) q := by
  obtain ⟨k, n, h⟩ := h
  obtain ⟨f', rfl, o, o1, o2⟩ := ec h
  unfold ev_st ev_nf at o1
  dsimp only at o1
  rw [hr] at o1
  obtain ⟨ig, ln, ra, rb, rz, rp⟩ := r
  cases ig <;> first | cases hi | skip
  dsimp only at o1
  rename_i t
  cases y : ev_newa z.1.2.2.2.2.1 (.newarray t, ln, ra, rb, rz, rp) σ (.inl x :: st) k n with
  | none => rw [y] at o1; cases o1
  | some w =>
    rw [y] at o1
    obtain ⟨-, y2⟩ := ev_if_some.mp y
    cases y2
    cases o1
    exact ⟨f', Nat.lt_succ_self _, _, _, o2⟩
theorem ec_sp {i : Nat} {p : Nat × Nat} {as : List mV} (h : EC C f j z pc L (as ++ .inr (.inr (some p)) :: st) σ q) (hr : m_at z.2.1 pc = some (.invokespecial i, e)) (h2 : e.2.1 ≠ 2000) (ha : as.length = e.2.2.1) (hh : z.1.2.2.2.2.2 = []) : ec_bk C f j z pc L st σ q e.2.1 (.inr (.inr (some p)) :: as.reverse) := by
  obtain ⟨k, n, h⟩ := h
  obtain ⟨f', rfl, o, o1, o2⟩ := ec h
  unfold ev_st ev_nf at o1
  dsimp only at o1
  rw [hr] at o1
  dsimp only at o1
  obtain ⟨-, o1⟩ := ev_if_some.mp o1
  rw [if_neg h2] at o1
  cases hy : m_mt[e.2.1]? with
  | none => rw [hy] at o1; cases o1
  | some y =>
    rw [hy] at o1
    dsimp only at o1
    unfold ev_callV at o1
    have e1 : (as ++ (.inr (.inr (some p)) : mV) :: st).drop e.2.2.1 = .inr (.inr (some p)) :: st := by rw [← ha, List.drop_left]
    have e2 : (as ++ (.inr (.inr (some p)) : mV) :: st).take e.2.2.1 = as := by rw [← ha, List.take_left]
    rw [e1] at o1
    dsimp only at o1
    obtain ⟨⟨p1, -⟩, o1⟩ := ev_if_some.mp o1
    unfold m_take at o1
    rw [e2, ← p1] at o1
    cases o1
    exact ec_bkt hh (Nat.lt_succ_self _) o2
/-- references below fixed numbers -/
def nG (n : Nat → Nat) (σ : mS) : Prop := ∀ c i k q, gC σ c i k → m_r σ c i k = some q → gBn n q
theorem nG_nu {n : Nat → Nat} {σ : mS} {c l : Nat} (h : nG n σ) : nG n (m_nu σ c l) := by
  intro c' i' k' q hk e
  have e : m_zi σ.2.2.2.2 c (σ.1 c) none c' i' k' = some q := e
  unfold m_zi at e
  split at e
  · split at e
    · cases e
    · next h1 h2 => exact h c' i' k' q ⟨hk.1, fun hc => by have t := hk.2 hc; rw [m_nu_len σ (fun z => h2 z.2)] at t; exact t⟩ e
  · next h1 => exact h c' i' k' q ⟨hk.1, fun hc => by have t := hk.2 hc; rw [m_nu_len σ (fun z => h1 z.1)] at t; exact t⟩ e
theorem mi_nu0 {σ : mS} {c l k : Nat} : m_i (m_nu σ c l) c (σ.1 c) k = 0 := by
  show m_zi σ.2.2.1 c (σ.1 c) 0 c (σ.1 c) k = 0
  unfold m_zi
  rw [if_pos rfl, if_pos rfl]
theorem ml_nu0 {σ : mS} {c l k : Nat} : m_l (m_nu σ c l) c (σ.1 c) k = 0 := by
  show m_zi σ.2.2.2.1 c (σ.1 c) 0 c (σ.1 c) k = 0
  unfold m_zi
  rw [if_pos rfl, if_pos rfl]
/-- what is held when the law's arrays are made -/
def PB (σ : mS) : Prop := S 1 0 0 (0, fun i j => m_i σ 13 i j) σ ∧ tc σ = 0 ∧ LI 0 (0, fun i j => m_i σ 13 i j) (tc σ) 0 σ
theorem pb {σ0 τ s1 s2 s3 s4 s5 : mS} (n : NHp (m_nu σ0 11 0) τ) (g : nG τ.1 τ) (e1 : s1 = m_nu τ 13 60) (e2 : s2 = m_nu s1 13 60) (e3 : s3 = m_nu s2 13 12) (e4 : s4 = m_nu s3 13 8) (e5 : s5 = m_nu s4 14 1) : PB s5 ∧ hxs (fun _ => 0) s5 ∧ ∀ ρ, sF s5 ρ → gF s5 ρ → PB ρ := by
  have c13 : τ.1 13 = 14 := n.2.2.1.1
  have c14 : τ.1 14 = 6 := n.2.2.1.2.1
  have d1 : s1.1 13 = 15 := by rw [e1, m_nu_cnt, c13]
  have d2 : s2.1 13 = 16 := by rw [e2, m_nu_cnt, d1]
  have d3 : s3.1 13 = 17 := by rw [e3, m_nu_cnt, d2]
  have d4 : s4.1 13 = 18 := by rw [e4, m_nu_cnt, d3]
  have d5 : s5.1 13 = 18 := by rw [e5, m_nu_cntO _ (by decide), d4]
  have b4 : s4.1 14 = 6 := by rw [e4, m_nu_cntO _ (by decide), e3, m_nu_cntO _ (by decide), e2, m_nu_cntO _ (by decide), e1, m_nu_cntO _ (by decide), c14]
  have b5 : s5.1 14 = 7 := by rw [e5, m_nu_cnt, b4]
  have ha : ∀ c j k, (c = 13 → j < 14) → (c = 14 → j < 6) → m_get s5 c j k = m_get τ c j k := fun c j k h13 h14 => by
    rw [e5, m_nu_old _ (fun z => by have := z.2; have := h14 z.1; omega), e4, m_nu_old _ (fun z => by have := z.2; have := h13 z.1; omega), e3, m_nu_old _ (fun z => by have := z.2; have := h13 z.1; omega), e2, m_nu_old _ (fun z => by have := z.2; have := h13 z.1; omega), e1, m_nu_old _ (fun z => by have := z.2; have := h13 z.1; omega)]
  have hl : ∀ c j, (c = 13 → j < 14) → (c = 14 → j < 6) → s5.2.1 c j = τ.2.1 c j := fun c j h13 h14 => by
    rw [e5, m_nu_len _ (fun z => by have := z.2; have := h14 z.1; omega), e4, m_nu_len _ (fun z => by have := z.2; have := h13 z.1; omega), e3, m_nu_len _ (fun z => by have := z.2; have := h13 z.1; omega), e2, m_nu_len _ (fun z => by have := z.2; have := h13 z.1; omega), e1, m_nu_len _ (fun z => by have := z.2; have := h13 z.1; omega)]
  obtain ⟨hS, hf⟩ := NH_S n (fun c j k _ h => ha c j k (fun z => by rw [z] at h; exact h) (fun z => by rw [z] at h; exact h)) (fun c j _ h => hl c j (fun z => by rw [z] at h; exact h) (fun z => by rw [z] at h; exact h))
  have g5 : nG τ.1 s5 := by
    rw [e5]; refine nG_nu ?_
    rw [e4]; refine nG_nu ?_
    rw [e3]; refine nG_nu ?_
    rw [e2]; refine nG_nu ?_
    rw [e1]; exact nG_nu g
  have gh : gH s5 := by
    refine ⟨fun c i k q hk e => ?_, by omega, by omega⟩
    have b : q.2 < τ.1 q.1 := g5 c i k q hk e
    rintro (⟨z, y, _⟩ | ⟨z, y⟩)
    · rw [z, c13] at b
      omega
    · rw [z, c14] at b
      omega
  have a17 : ∀ b, b < 8 → m_i s5 13 17 b = 0 := fun b _ => by
    have q := mi_nu0 (σ := s3) (c := 13) (l := 8) (k := b)
    rw [d3, ← e4] at q
    rw [e5]
    show m_zi s4.2.2.1 14 (s4.1 14) 0 13 17 b = 0
    unfold m_zi
    rw [if_neg (by decide)]
    exact q
  have t0 : m_l s5 14 6 0 = 0 := by
    have q := ml_nu0 (σ := s4) (c := 14) (l := 1) (k := 0)
    rw [b4, ← e5] at q
    exact q
  have hX5 : hxs (fun _ => 0) s5 := hxs_lm n.1 (fun c j k _ h => ha c j k (fun z => by rw [z] at h; exact h) (fun z => by rw [z] at h; exact h)) (fun c j _ h => hl c j (fun z => by rw [z] at h; exact h) (fun z => by rw [z] at h; exact h))
  refine ⟨⟨hS, hf.1, LI_0 gh a17 t0 hf⟩, hX5, fun ρ hs hg => ?_⟩
  have x17 : ¬ gX (13, 17) := fun z => z (Or.inl ⟨rfl, by decide, by decide⟩)
  have x6 : ¬ gX (14, 6) := fun z => z (Or.inr ⟨rfl, rfl⟩)
  obtain ⟨hS2, hf2⟩ := NH_S (ρ := ρ) n (fun c j k h2 h => (hs.1 c j k (lmh_lm h) h2).trans (ha c j k (fun z => by rw [z] at h; exact h) (fun z => by rw [z] at h; exact h))) (fun c j h13 h => (hs.2 c j h13 (lmh_lm h)).trans (hl c j (fun z => by rw [z] at h; exact h) (fun z => by rw [z] at h; exact h)))
  exact ⟨hS2, hf2.1, LI_0 hg.1 (fun b hb => ((hg.2.1 13 17 b x17).1).trans (a17 b hb)) (((hg.2.1 14 6 0 x6).2).trans t0) hf2⟩
end ST0
