/-! the first hall at its beginning, along the law's beginning -/
theorem hx_mx {σ τ : mS} (h : hx (fun _ => 0) σ) (hl : ∀ c i, 13 ≤ c → i < sm_mx c → τ.2.1 c i = σ.2.1 c i) (hf : ∀ c i k, i < sm_mx c → m_get τ c i k = m_get σ c i k) : hx (fun _ => 0) τ := by
  have f : ∀ {c i k v}, m_get σ c i k = v → i < sm_mx c → m_get τ c i k = v := fun e hi => (hf _ _ _ hi).trans e
  have g : ∀ {c i n}, σ.2.1 c i = n → 13 ≤ c → i < sm_mx c → τ.2.1 c i = n := fun e hc hi => (hl _ _ hc hi).trans e
  obtain ⟨⟨a1, a2⟩, a3, a4, ⟨a5, a6⟩, a7, ⟨b0, b1, b2, b3, b4⟩, b5, b6, b7, b8, b9, ⟨l1, l2, l3, l4, l5, l6⟩⟩ := h
  refine ⟨⟨f a1 (by decide), fun k hk => f (a2 k hk) (by decide)⟩, g a3 (by decide) (by decide), fun k hk => ⟨f (a4 k hk).1 (by decide), f (a4 k hk).2 (by show 0 + k < 120; omega)⟩, ⟨f a5 (by decide), f a6 (by decide)⟩, fun k hk => f (a7 k hk) (by decide), ⟨f b0 (by decide), f b1 (by decide), f b2 (by decide), f b3 (by decide), f b4 (by decide)⟩, fun m hm => ⟨f (b5 m hm).1 (by show 0 + m < 6; omega), f (b5 m hm).2.1 (by show 0 + m < 6; omega), fun k h0 h1 => f ((b5 m hm).2.2.1 k h0 h1) (by show 0 + m < 6; omega), fun k hk => f ((b5 m hm).2.2.2 k hk) (by show 0 + m < 6; omega)⟩, fun k hk => f (b6 k hk) (by decide), fun k hk => ⟨f (b7 k hk).1 (by decide), f (b7 k hk).2.1 (by show 0 + k < 3; omega), f (b7 k hk).2.2.1 (by show 0 + k < 3; omega), fun j h0 h6 => f ((b7 k hk).2.2.2 j h0 h6) (by show 0 + k < 3; omega)⟩, fun k hk => f (b8 k hk) (by decide), fun k hk => f (b9 k hk) (by decide), ⟨g l1 (by decide) (by decide), g l2 (by decide) (by decide), g l3 (by decide) (by decide), g l4 (by decide) (by decide), fun k hk => g (l5 k hk) (by decide) (by show 0 + k < 4; omega), fun m hm => g (l6 m hm) (by decide) (by show 0 + m < 6; omega)⟩⟩
/-- ahead of the hall's making, or behind it -/
def Gs (σ : mS) : Prop := σ.1 17 = 0 ∨ (hx (fun _ => 0) σ ∧ 1 ≤ σ.1 17 ∧ 4 ≤ σ.1 13 ∧ 6 ≤ σ.1 14)
def gs1 (σ τ : mS) : Prop := τ.1 17 = σ.1 17 ∧ σ.1 13 ≤ τ.1 13 ∧ σ.1 14 ≤ τ.1 14 ∧ (1 ≤ σ.1 17 → 4 ≤ σ.1 13 → 6 ≤ σ.1 14 → (∀ c i, 13 ≤ c → i < sm_mx c → τ.2.1 c i = σ.2.1 c i) ∧ ∀ c i k, i < sm_mx c → m_get τ c i k = m_get σ c i k)
theorem gs1.rf {σ : mS} : gs1 σ σ := ⟨rfl, Nat.le_refl _, Nat.le_refl _, fun _ _ _ => ⟨fun _ _ _ _ => rfl, fun _ _ _ _ => rfl⟩⟩
theorem Gs.st {σ τ : mS} (h : Gs σ) (g : gs1 σ τ) : Gs τ := by
  obtain ⟨g1, g2, g3, g4⟩ := g
  rcases h with h | ⟨h1, h2, h3, h4⟩
  · exact Or.inl (g1.trans h)
  · obtain ⟨g5, g6⟩ := g4 h2 h3 h4
    exact Or.inr ⟨hx_mx h1 g5 g6, by omega, by omega, by omega⟩
theorem gs1_set {σ : mS} {c i k : Nat} {x : mV} (h : ¬ i < sm_mx c) : gs1 σ (m_set σ c i k x) := ⟨by rw [m_set_1], by rw [m_set_1]; exact Nat.le_refl _, by rw [m_set_1]; exact Nat.le_refl _, fun _ _ _ => ⟨fun c' i' _ _ => by rw [m_set_2], fun c' i' k' hi => m_get_ne _ _ (fun z => h (by rw [← z.1, ← z.2.1]; exact hi))⟩⟩
theorem gs1_nu {σ : mS} {c n : Nat} (h17 : c ≠ 17) (h : 1 ≤ σ.1 17 → 4 ≤ σ.1 13 → 6 ≤ σ.1 14 → ¬ σ.1 c < sm_mx c) : gs1 σ (m_nu σ c n) := by
  have mono : ∀ c', σ.1 c' ≤ (m_nu σ c n).1 c' := fun c' => by
    by_cases e : c' = c
    · subst e
      rw [m_nu_cnt]
      omega
    · rw [m_nu_cntO σ e]
      exact Nat.le_refl _
  refine ⟨m_nu_cntO σ (fun z => h17 z.symm), mono 13, mono 14, fun a b d => ⟨fun c' i' _ hi => m_nu_len σ (fun z => h a b d ?_), fun c' i' k' hi => m_nu_old σ (fun z => h a b d ?_)⟩⟩
  · rw [← z.2, ← z.1]; exact hi
  · rw [← z.2, ← z.1]; exact hi
/-- an instruction that leaves the hall -/
def st_g (r : mRow) (st : List mV) (σ : mS) : Prop := tr_w r = false ∨ match r.1 with
  | .putfield _ => sm_mx r.2.2.1 = 0
  | .new _ => r.2.2.1 ≠ 17 ∧ (sm_mx r.2.2.1 = 0 ∨ σ.1 17 = 0)
  | .newarray _ => r.2.2.1 = 13 ∨ r.2.2.1 = 14 ∨ r.2.2.1 = 15
  | .anewarray _ => r.2.2.1 = 19
  | .iastore => match st with
    | _ :: _ :: .inr (.inr (some q)) :: _ => 4 ≤ q.2
    | _ => True
  | .lastore => match st with
    | _ :: _ :: .inr (.inr (some q)) :: _ => 6 ≤ q.2
    | _ => True
  | .bastore => True
  | .aastore => match st with
    | _ :: _ :: .inr (.inr (some q)) :: _ => q.1 = 19
    | _ => True
  | _ => False
def st_G : ev_G := fun _ z s => match m_at z.2.1 s.1 with
  | none => True
  | some r => st_g r s.2.2.1 s.2.2.2.1
def st_gb (r : mRow) (S : ab_S) : Bool := !(tr_w r) || match r.1 with
  | .putfield _ => Nat.beq (sm_mx r.2.2.1) 0
  | .new _ => !(Nat.beq r.2.2.1 17) && (Nat.beq (sm_mx r.2.2.1) 0 || S.2.2.2.2.1.1.any (fun q => Nat.beq q.1 17 && ab_eE q.2 (0, 0)))
  | .newarray _ => Nat.beq r.2.2.1 13 || (Nat.beq r.2.2.1 14 || Nat.beq r.2.2.1 15)
  | .anewarray _ => Nat.beq r.2.2.1 19
  | .iastore => match S.2.2.2.1 with
    | _ :: _ :: .inr (.inr (.inl q)) :: _ => ab_le 4 (ab_iv S.1.1 q.2.1).1
    | _ => false
  | .lastore => match S.2.2.2.1 with
    | _ :: _ :: .inr (.inr (.inl q)) :: _ => ab_le 6 (ab_iv S.1.1 q.2.1).1
    | _ => false
  | .bastore => true
  | .aastore => match S.2.2.2.1 with
    | _ :: _ :: .inr (.inr (.inl q)) :: _ => Nat.beq q.1 19
    | _ => false
  | _ => false
def st_gd : bb_D := fun _ z S => match m_at z.2.1 S.2.1 with
  | none => true
  | some r => st_gb r S
theorem st_st3 {n : Nat} {ν : ab_N} {v w : ab_V} {q : Nat × ab_E × ab_E} {st : List ab_V} {sc : List mV} (h : ab_Vs n ν (v :: w :: .inr (.inr (.inl q)) :: st) sc) : (∃ a b s', sc = a :: b :: .inr (.inr none) :: s') ∨ ∃ a b p s', sc = a :: b :: .inr (.inr (some p)) :: s' ∧ p.1 = q.1 ∧ ab_I n ν q.2.1 (p.2 : Int) := by
  obtain ⟨a, s1, rfl, -, h⟩ := ab_Vs_c h
  obtain ⟨b, s2, rfl, -, h⟩ := ab_Vs_c h
  obtain ⟨c, s3, rfl, hc, h⟩ := ab_Vs_c h
  obtain ⟨r, rfl, g⟩ := ab_Va hc
  cases r with
  | none => exact Or.inl ⟨_, _, _, rfl⟩
  | some p => exact Or.inr ⟨_, _, p, _, rfl, g.2.2.2.1, g.1, g.2.2.2.2⟩
theorem st_gd_ok : bb_gok st_G st_gd := by
  intro j z S hb xs ν Lc sc σ h hL hst hp
  unfold st_gd at hb
  show match m_at z.2.1 S.2.1 with
    | none => True
    | some r => st_g r sc σ
  cases hr : m_at z.2.1 S.2.1 with
  | none => trivial
  | some r =>
    rw [hr] at hb
    dsimp only at hb ⊢
    unfold st_gb at hb
    unfold st_g
    rcases (Bool.or_eq_true _ _).mp hb with hb | hb
    · exact Or.inl (by simpa using hb)
    · refine Or.inr ?_
      obtain ⟨ig, rr⟩ := r
      cases ig
      case putfield i => exact Nat.eq_of_beq_eq_true hb
      case bastore => trivial
      case new i =>
        dsimp only at hb ⊢
        rw [Bool.and_eq_true] at hb
        refine ⟨(fun z => by
          have hb1 := hb.1
          rw [z] at hb1
          cases hb1), ?_⟩
        rcases (Bool.or_eq_true _ _).mp hb.2 with hb | hb
        · exact Or.inl (Nat.eq_of_beq_eq_true hb)
        · obtain ⟨q, q1, q2⟩ := List.any_eq_true.mp hb
          rw [Bool.and_eq_true] at q2
          have e1 := Nat.eq_of_beq_eq_true q2.1
          have e2 := ab_eE_ok q2.2
          have g := hp.1 q q1
          rw [e1, e2] at g
          have g2 : (σ.1 17 : Int) = ν 0 + 0 := g.2
          rw [h.1.1] at g2
          exact Or.inr (by omega)
      case newarray i =>
        dsimp only at hb ⊢
        rcases (Bool.or_eq_true _ _).mp hb with hb | hb
        · exact Or.inl (Nat.eq_of_beq_eq_true hb)
        · rcases (Bool.or_eq_true _ _).mp hb with hb | hb
          · exact Or.inr (Or.inl (Nat.eq_of_beq_eq_true hb))
          · exact Or.inr (Or.inr (Nat.eq_of_beq_eq_true hb))
      case anewarray i => exact Nat.eq_of_beq_eq_true hb
      case iastore =>
        dsimp only at hb ⊢
        split at hb
        · rename_i q st' heq
          rw [heq] at hst
          rw [ab_le_ok] at hb
          rcases st_st3 hst with ⟨a, b, s', rfl⟩ | ⟨a, b, p, s', rfl, g0, g⟩
          · trivial
          · have := ab_iv_ok h.1 g
            show 4 ≤ p.2
            omega
        · cases hb
      case lastore =>
        dsimp only at hb ⊢
        split at hb
        · rename_i q st' heq
          rw [heq] at hst
          rw [ab_le_ok] at hb
          rcases st_st3 hst with ⟨a, b, s', rfl⟩ | ⟨a, b, p, s', rfl, g0, g⟩
          · trivial
          · have := ab_iv_ok h.1 g
            show 6 ≤ p.2
            omega
        · cases hb
      case aastore =>
        dsimp only at hb ⊢
        split at hb
        · rename_i q st' heq
          rw [heq] at hst
          rcases st_st3 hst with ⟨a, b, s', rfl⟩ | ⟨a, b, p, s', rfl, g0, g⟩
          · trivial
          · show p.1 = 19
            rw [g0]
            exact Nat.eq_of_beq_eq_true hb
        · cases hb
      all_goals cases hb
def st_o (σ : mS) (o : ev_O) : Prop := match o with
  | .inl s' => gs1 σ s'.2.2.2.1
  | .inr (.inl e) => gs1 σ e.2
  | .inr (.inr _) => True
section STS
variable {xs : ab_X} {mt : List mMt} {rt : Option FieldType} {R : Room} {nL : Nat} {rows : List (Nat × mRow)} {mc ms : Nat} {pc : Nat} {L : List (Option mV)} {st : List mV} {σ : mS} {k n : Nat} {r : mRow} {o : ev_O}
theorem st_step (hr : m_at rows pc = some r) (hg : st_g r st σ) (h : ev_nf xs mt rt R nL rows mc ms pc L st σ k n = some o) : st_o σ o := by
  rcases hg with hw | hg
  · have g := tr_same hr hw h
    rcases o with s' | e | c
    · show gs1 σ s'.2.2.2.1
      rw [show s'.2.2.2.1 = σ from g]
      exact gs1.rf
    · show gs1 σ e.2
      rw [show e.2 = σ from g]
      exact gs1.rf
    · trivial
  · have nx : ∀ {pc' k' n' : Nat} {o1 : Option ev_H}, (∀ q, o1 = some q → gs1 σ q.2) → ev_nx pc' L k' n' o1 = some o → st_o σ o := by
      intro pc' k' n' o1 hq h
      cases o1 with
      | none => cases h
      | some q => cases h; exact hq q rfl
    have nz : ∀ {pc' k' : Nat} {o1 : Option (List mV × mS × Nat)}, (∀ q, o1 = some q → gs1 σ q.2.1) → ev_nz pc' L k' o1 = some o → st_o σ o := by
      intro pc' k' o1 hq h
      cases o1 with
      | none => cases h
      | some q => cases h; exact hq q rfl
    unfold ev_nf at h
    rw [hr] at h
    dsimp only at h
    obtain ⟨ig, ln, ra, rb, rz, rp⟩ := r
    cases ig
    case putfield i =>
      refine nx (fun q hq => ?_) h
      unfold ev_put at hq
      split at hq
      · obtain ⟨-, e⟩ := ev_if_some.mp hq
        cases e
        have hg : sm_mx ra = 0 := hg
        exact gs1_set (by rw [hg]; exact Nat.not_lt_zero _)
      · cases hq
    case iastore =>
      refine nx (fun q hq => ?_) h
      unfold ev_iast at hq
      split at hq
      · obtain ⟨-, e⟩ := ev_if_some.mp hq
        cases e
        dsimp only
        exact gs1_set (Nat.not_lt.mpr hg)
      · cases hq
    case lastore =>
      refine nx (fun q hq => ?_) h
      unfold ev_last at hq
      split at hq
      · obtain ⟨-, e⟩ := ev_if_some.mp hq
        cases e
        dsimp only
        exact gs1_set (Nat.not_lt.mpr hg)
      · cases hq
    case bastore =>
      refine nx (fun q hq => ?_) h
      unfold ev_zast at hq
      split at hq
      · obtain ⟨-, e⟩ := ev_if_some.mp hq
        cases e
        dsimp only
        exact gs1_set (Nat.not_lt_zero _)
      · cases hq
    case aastore =>
      refine nx (fun q hq => ?_) h
      unfold ev_astq at hq
      split at hq
      · rename_i q0 _
        obtain ⟨-, e⟩ := ev_if_some.mp hq
        cases e
        dsimp only
        refine gs1_set ?_
        have hg : q0.1 = 19 := hg
        rw [hg]
        exact Nat.not_lt_zero _
      · cases hq
    case new i =>
      dsimp only at h
      by_cases hlt : ra < 13
      · rw [if_pos hlt] at h
        obtain ⟨-, e⟩ := ev_if_some.mp h
        cases e
        obtain ⟨g1, g2⟩ := hg
        refine gs1_nu g1 (fun a _ _ => ?_)
        rcases g2 with g2 | g2
        · have g2 : sm_mx ra = 0 := g2
          show ¬ σ.1 ra < sm_mx ra
          rw [g2]
          exact Nat.not_lt_zero _
        · omega
      · rw [if_neg hlt] at h
        obtain ⟨-, e⟩ := ev_if_some.mp h
        cases e
        exact gs1.rf
    case newarray i =>
      refine nz (fun q hq => ?_) h
      unfold ev_newa at hq
      split at hq
      · obtain ⟨-, e⟩ := ev_if_some.mp hq
        cases e
        have hg : ra = 13 ∨ ra = 14 ∨ ra = 15 := hg
        dsimp only
        rcases hg with rfl | rfl | rfl
        · exact gs1_nu (by decide) (fun _ b _ => Nat.not_lt.mpr b)
        · exact gs1_nu (by decide) (fun _ _ d => Nat.not_lt.mpr d)
        · exact gs1_nu (by decide) (fun _ _ _ => Nat.not_lt_zero _)
      · cases hq
    case anewarray i =>
      refine nz (fun q hq => ?_) h
      unfold ev_newa at hq
      split at hq
      · obtain ⟨-, e⟩ := ev_if_some.mp hq
        cases e
        have hg : ra = 19 := hg
        dsimp only
        subst hg
        exact gs1_nu (by decide) (fun _ _ _ => Nat.not_lt_zero _)
      · cases hq
    all_goals exact hg.elim
end STS
theorem st_st : g_st st_G Gs := by
  intro xs j z s o hG ho hI
  have hG : match m_at z.2.1 s.1 with
    | none => True
    | some r => st_g r s.2.2.1 s.2.2.2.1 := hG
  cases hr : m_at z.2.1 s.1 with
  | none =>
    unfold ev_st ev_nf at ho
    rw [hr] at ho
    cases ho
  | some r =>
    rw [hr] at hG
    have hS := st_step hr hG ho
    rcases o with s' | e | c
    · exact hI.st hS
    · exact hI.st hS
    · trivial
