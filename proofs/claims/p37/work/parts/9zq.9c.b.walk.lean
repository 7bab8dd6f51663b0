/-! runs backwards -/
def tz (σ : mS) : Prop := ∀ i, i < 3 → m_get σ 8 i 7 = .inl 0
def eqS (σ σ' : mS) : Prop := σ'.1 = σ.1 ∧ σ'.2.1 = σ.2.1 ∧ ∀ c i k, m_get σ' c i k = m_get σ c i k
theorem eqS_trz {σ σ' : mS} (h : tz σ) (e1 : σ'.1 = σ.1) (e2 : σ'.2.1 = σ.2.1) (hz : tz σ') (he : ∀ c p k, ¬ (c = 8 ∧ p < 3 ∧ k = 7) → m_get σ' c p k = m_get σ c p k) : eqS σ σ' := ⟨e1, e2, fun c p k => by
  by_cases z : c = 8 ∧ p < 3 ∧ k = 7
  · obtain ⟨rfl, z2s, rfl⟩ := z
    rw [hz p z2s, h p z2s]
  · exact he c p k z⟩
/-- the marks are taken away -/
theorem w69t {F : Nat} {σ' : mS} {w : mX} : ∀ (m i f : Nat) l4 (τ : mS), i + m = 3 → hy (fun _ => 0) τ → EV F f 69 z69s 69 [some (rf 4 0), some (rf 18 0), some (.inl (Int32.ofNat 3)), some (.inl (Int32.ofNat i)), l4] [] τ (w, σ') → w = .inl none ∧ (σ'.1 = τ.1 ∧ σ'.2.1 = τ.2.1) ∧ (∀ p, i ≤ p → p < 3 → m_get σ' 8 p 7 = .inl 0) ∧ ∀ c p k, ¬ (c = 8 ∧ (i ≤ p ∧ p < 3) ∧ k = 7) → m_get σ' c p k = m_get τ c p k
  | 0, i, f, l4, τ, hm, Y, h => by
    have e : i = 3 := by omega
    subst e
    replace h := ei_p h rfl rfl rfl rfl
    obtain ⟨f, g, h⟩ := h
    replace h := ei_p h rfl rfl rfl rfl
    obtain ⟨f, g, h⟩ := h
    replace h := ei_c h rfl rfl rfl
    rcases h with ⟨hP, f, g, h⟩ | ⟨hP, f, g, h⟩
    · have e := ei_ret h rfl
      cases e
      exact ⟨rfl, ⟨rfl, rfl⟩, fun p h1 h2 => by omega, fun c p k _ => rfl⟩
    · exact absurd ((i32_ge 3 (by decide) 3 (by decide)).mpr (Nat.le_refl _)) hP
  | m + 1, i, f, l4, τ, hm, Y, h => by
    have hi : i < 3 := by omega
    replace h := ei_p h rfl rfl rfl rfl
    obtain ⟨f, g, h⟩ := h
    replace h := ei_p h rfl rfl rfl rfl
    obtain ⟨f, g, h⟩ := h
    replace h := ei_c h rfl rfl rfl
    rcases h with ⟨hP, f, g, h⟩ | ⟨hP, f, g, h⟩
    · have := (i32_ge i (by omega) 3 (by decide)).mp hP; omega
    replace h := ei_p h rfl rfl rfl rfl
    obtain ⟨f, g, h⟩ := h
    replace h := ei_p h rfl rfl rfl rfl
    obtain ⟨f, g, h⟩ := h
    replace h := ei_ald (v := rf 8 i) h rfl (fun vp => by rw [i32_nat i (by omega)]; exact y0_p Y hi)
    obtain ⟨vp, f, g, h⟩ := h
    replace h := ei_p h rfl rfl rfl rfl
    obtain ⟨f, g, h⟩ := h
    replace h := ei_p h rfl rfl rfl rfl
    obtain ⟨f, g, h⟩ := h
    replace h := ei_p h rfl rfl rfl rfl
    obtain ⟨f, g, h⟩ := h
    replace h := ei_put h rfl
    obtain ⟨ht, f, g, h⟩ := h
    replace h := ei_p h rfl rfl rfl rfl
    obtain ⟨f, g, h⟩ := h
    replace h := ei_p h rfl rfl rfl rfl
    obtain ⟨f, g, h⟩ := h
    have h : EV F f 69 z69s 69 [some (rf 4 0), some (rf 18 0), some (.inl (Int32.ofNat 3)), some (.inl (Int32.ofNat i + Int32.ofInt 1)), some (rf 8 i)] [] (m_set τ 8 i 7 (.inl (Int32.ofInt 0))) (w, σ') := h
    rw [i32_inc i (by omega)] at h
    obtain ⟨k1, ⟨k2, k3⟩, k4, k5⟩ := w69t m (i + 1) f _ _ (by omega) (hy_K Y (eqK_set rfl)) h
    refine ⟨k1, ⟨k2.trans (m_set_1 ..), k3.trans (m_set_2 ..)⟩, fun p h1 h2 => ?_, fun c p k hn => ?_⟩
    · by_cases e : p = i
      · subst e
        rw [k5 8 p 7 (fun z => by omega), m_get_eq _ ht]
        rfl
      · exact k4 p (by omega) h2
    · rw [k5 c p k (fun z => hn ⟨z.1, by omega, z.2.2⟩), m_get_ne _ _ (fun z => hn ⟨z.1, by omega, z.2.2⟩)]
theorem w69h {F : Nat} {σ' : mS} {w : mX} : ∀ N f, f < N → ∀ (i : Int32) l2 l3 l4 (τ : mS), hy (fun _ => 0) τ → EV F f 69 z69s 2 [some (rf 4 0), some (.inl i), l2, l3, l4] [] τ (w, σ') → (∃ b, w = .inr b) ∨ ∃ f l1 l2 l3 l4 τ1, hy (fun _ => 0) τ1 ∧ (tz τ → τ1 = τ) ∧ EV F f 69 z69s 56 [some (rf 4 0), l1, l2, l3, l4] [] τ1 (w, σ') := by
  intro N
  induction N with
  | zero => intro f hf; omega
  | succ N IH =>
    intro f hf i l2 l3 l4 τ Y h
    replace h := ei_p h rfl rfl rfl rfl
    obtain ⟨f, g, h⟩ := h
    have hf : f < N := by omega
    replace h := ei_p h rfl rfl rfl rfl
    obtain ⟨f, g, h⟩ := h
    have hf := Nat.lt_trans g hf
    replace h := ei_c h rfl rfl rfl
    rcases h with ⟨hP, f, g, h⟩ | ⟨hP, f, g, h⟩
    · exact Or.inr ⟨f, _, _, _, _, τ, Y, fun _ => rfl, h⟩
    have hf := Nat.lt_trans g hf
    replace h := ei_p h rfl rfl rfl rfl
    obtain ⟨f, g, h⟩ := h
    have hf := Nat.lt_trans g hf
    replace h := ei_get h rfl (y0_f Y).2.1
    obtain ⟨f, g, h⟩ := h
    have hf := Nat.lt_trans g hf
    replace h := ei_p h rfl rfl rfl rfl
    obtain ⟨f, g, h⟩ := h
    have hf := Nat.lt_trans g hf
    replace h := ei_get h rfl (y0_f Y).2.2.1
    obtain ⟨f, g, h⟩ := h
    have hf := Nat.lt_trans g hf
    replace h := ei_v (as := [rf 2 0]) h rfl rfl rfl
    obtain ⟨x, υ, r16, ⟨v, rfl, f, g, h⟩ | ⟨b, rfl, hq⟩⟩ := h
    rotate_left
    · exact Or.inl ⟨b, congrArg Prod.fst hq⟩
    have hf := Nat.lt_trans g hf
    have eυ := ro_run (j := 16) rfl r16
    subst eυ
    obtain ⟨vr, rfl⟩ : ∃ vr, v = some (.inr (.inr vr)) := by
      have t := ev_ty z16s_at r16
      rcases v with _ | x | x | x
      · cases t
      · rcases t with t | ⟨t, -⟩ <;> cases t
      · cases t
      · exact ⟨x, rfl⟩
    replace h := ei_p h rfl rfl rfl rfl
    obtain ⟨f, g, h⟩ := h
    have hf := Nat.lt_trans g hf
    replace h := ei_p h rfl rfl rfl rfl
    obtain ⟨f, g, h⟩ := h
    have hf := Nat.lt_trans g hf
    rcases vr with _ | p
    · replace h := ei_c h rfl rfl rfl
      rcases h with ⟨hP, f, g, h⟩ | ⟨hP, f, g, h⟩
      · exact absurd rfl hP
      have hf := Nat.lt_trans g hf
      replace h := ei_p h rfl rfl rfl rfl
      obtain ⟨f, g, h⟩ := h
      have hf := Nat.lt_trans g hf
      exact Or.inr ⟨f, _, _, _, _, υ, Y, fun _ => rfl, h⟩
    have nt : ¬ tz υ := fun t => by
      rcases w16 Y t r16 with e | ⟨b, e⟩ <;> cases e
    replace h := ei_c h rfl rfl rfl
    rcases h with ⟨hP, f, g, h⟩ | ⟨hP, f, g, h⟩
    rotate_left
    · exact absurd (fun z => by cases z) hP
    have hf := Nat.lt_trans g hf
    replace h := ei_p h rfl rfl rfl rfl
    obtain ⟨f, g, h⟩ := h
    have hf := Nat.lt_trans g hf
    replace h := ei_p h rfl rfl rfl rfl
    obtain ⟨f, g, h⟩ := h
    have hf := Nat.lt_trans g hf
    replace h := ei_put h rfl
    obtain ⟨t1, f, g, h⟩ := h
    have hf := Nat.lt_trans g hf
    have Y1 := hy_K Y (eqK_set (σ := υ) (c := 7) (j := p.2) (k := 9) (x := .inl (Int32.ofInt 3)) rfl)
    replace h := ei_p h rfl rfl rfl rfl
    obtain ⟨f, g, h⟩ := h
    have hf := Nat.lt_trans g hf
    replace h := ei_p h rfl rfl rfl rfl
    obtain ⟨f, g, h⟩ := h
    have hf := Nat.lt_trans g hf
    replace h := ei_get h rfl (y0_f Y1).2.2.1
    obtain ⟨f, g, h⟩ := h
    have hf := Nat.lt_trans g hf
    obtain ⟨y7, hy7⟩ := gt_i (c := 2) (k := 7) rfl (m_set υ 7 p.2 9 (.inl (Int32.ofInt 3))) 0
    replace h := ei_get h rfl hy7
    obtain ⟨f, g, h⟩ := h
    have hf := Nat.lt_trans g hf
    replace h := ei_put h rfl
    obtain ⟨t2, f, g, h⟩ := h
    have hf := Nat.lt_trans g hf
    have Y2 := hy_K Y1 (eqK_set (c := 7) (j := p.2) (k := 10) (x := .inl y7) rfl)
    replace h := ei_p h rfl rfl rfl rfl
    obtain ⟨f, g, h⟩ := h
    have hf := Nat.lt_trans g hf
    replace h := ei_p h rfl rfl rfl rfl
    obtain ⟨f, g, h⟩ := h
    have hf := Nat.lt_trans g hf
    replace h := ei_p h rfl rfl rfl rfl
    obtain ⟨f, g, h⟩ := h
    have hf := Nat.lt_trans g hf
    replace h := ei_v (as := [.inl (Int32.ofInt 1), .inr (.inr (some p))]) h rfl rfl rfl
    obtain ⟨x, υ2, r66, ⟨v2, rfl, f, g, h⟩ | ⟨b, rfl, hq⟩⟩ := h
    rotate_left
    · exact Or.inl ⟨b, congrArg Prod.fst hq⟩
    have hf := Nat.lt_trans g hf
    have Y3 := hy_run (j := 66) (by decide) r66 Y2
    have t := ev_ty z66s_at r66
    rcases v2 with _ | x | x | x
    rotate_left
    · rcases t with t | ⟨t, -⟩ <;> cases t
    · cases t
    · cases t
    replace h := ei_p h rfl rfl rfl rfl
    obtain ⟨f, g, h⟩ := h
    have hf := Nat.lt_trans g hf
    replace h := ei_p h rfl rfl rfl rfl
    obtain ⟨f, g, h⟩ := h
    have hf := Nat.lt_trans g hf
    rcases IH f hf _ _ _ _ υ2 Y3 h with e | ⟨f, m1, m2, m3, m4, τ1, k1, k2, k3⟩
    · exact Or.inl e
    · exact Or.inr ⟨f, m1, m2, m3, m4, τ1, k1, fun z => absurd z nt, k3⟩
/-- behind the waking no paper is marked; where none was marked, it changes nothing -/
theorem w69s {σ σ' : mS} {w : mX} (Y : hy (fun _ => 0) σ) (h : ev_run sm_all 69 [rf 4 0] σ w σ') : (∃ b, w = .inr b) ∨ (w = .inl none ∧ tz σ' ∧ (tz σ → eqS σ σ')) := by
  obtain ⟨F, f, h⟩ := ei_go h z69s_at
  replace h := ei_p h rfl rfl rfl rfl
  obtain ⟨f, g, h⟩ := h
  replace h := ei_p h rfl rfl rfl rfl
  obtain ⟨f, g, h⟩ := h
  rcases w69h (f + 1) f (Nat.lt_succ_self f) _ _ _ _ _ Y h with e | ⟨f, l1, l2, l3, l4, τ, Y1, k2, h⟩
  · exact Or.inl e
  refine Or.inr ?_
  replace h := ei_p h rfl rfl rfl rfl
  obtain ⟨f, g, h⟩ := h
  replace h := ei_get h rfl (y0_f Y1).2.2.1
  obtain ⟨f, g, h⟩ := h
  replace h := ei_get h rfl (y0_f Y1).2.2.2
  obtain ⟨f, g, h⟩ := h
  replace h := ei_p h rfl rfl rfl rfl
  obtain ⟨f, g, h⟩ := h
  replace h := ei_p h rfl rfl rfl rfl
  obtain ⟨f, g, h⟩ := h
  replace h := ei_len h rfl (y0_l Y1).2 (by decide)
  obtain ⟨f, g, h⟩ := h
  replace h := ei_p h rfl rfl rfl rfl
  obtain ⟨f, g, h⟩ := h
  replace h := ei_p h rfl rfl rfl rfl
  obtain ⟨f, g, h⟩ := h
  replace h := ei_p h rfl rfl rfl rfl
  obtain ⟨f, g, h⟩ := h
  obtain ⟨j1, ⟨j2, j3⟩, j4, j5⟩ := w69t 3 0 f _ τ rfl Y1 h
  refine ⟨j1, fun p hp => j4 p (Nat.zero_le _) hp, fun t => ?_⟩
  have e := k2 t
  subst e
  exact eqS_trz t j2 j3 (fun p hp => j4 p (Nat.zero_le _) hp) (fun c p k hn => j5 c p k (fun z => hn ⟨z.1, z.2.1.2, z.2.2⟩))
