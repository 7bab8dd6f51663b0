/-! the history: what was kept, performed in the other hall from its beginning, gives what the first hall is -/
def hs_E : Nat → Nat → Prop := fun _ _ => False
def hs_run2 (i : Nat) (σ2 τ : mS) : Prop := ∃ v : Int64, ev_run sm_all 61 [.inr (.inr (some (4, 1))), .inr (.inr (some (1, i)))] σ2 (.inl (some (.inr (.inl v)))) τ
def hs_fold : List Nat → mS → mS → Prop
  | [], σ, τ => σ = τ
  | i :: t, σ, τ => ∃ υ, hs_run2 i σ υ ∧ hs_fold t υ τ
theorem hs_fold_app : ∀ {a b : List Nat} {σ τ υ : mS}, hs_fold a σ υ → hs_fold b υ τ → hs_fold (a ++ b) σ τ
  | [], _, _, _, _, h, g => by
    have e : _ = _ := h
    rw [e]
    exact g
  | i :: t, _, _, _, _, ⟨w, h1, h2⟩, g => ⟨w, h1, hs_fold_app h2 g⟩
/-- the calls that there are in the one heap stand in the other -/
def hs_ce (σ σ2 : mS) : Prop := ∀ i k, i < σ.1 1 → k < 8 → m_get σ2 1 i k = m_get σ 1 i k
def hs_H (σ0 : mS) (cs : List Nat) (σ : mS) : Prop := ∀ σ2, hs_ce σ σ2 → sm_hr none hs_E σ0 σ2 → ∃ σ2', hs_fold cs σ2 σ2' ∧ sm_hr none hs_E σ σ2' ∧ sm_f2 σ2 σ2'
theorem hs_H0 {σ0 : mS} : hs_H σ0 [] σ0 := fun σ2 _ h => ⟨σ2, rfl, h, sm_f2.rf⟩
theorem hs_perform {σ0 σ : mS} {cs : List Nat} {i : Nat} {q : List (Int × Int)} (hq : q ∈ ar_fits) (hf : ar_fit σ i 0 q) (hi : i ≤ 511) (hn : i < σ.1 1) (hK : ac_KK ac_K0 σ) (hH : hs_H σ0 cs σ) : ∃ v σ', ev_run sm_all 61 [.inr (.inr (some (4, 0))), .inr (.inr (some (1, i)))] σ (.inl (some (.inr (.inl v)))) σ' ∧ ac_KK ac_K0 σ' ∧ ac_fr ar_W61 σ σ' ∧ σ'.1 1 = σ.1 1 ∧ hs_H σ0 (cs ++ [i]) σ' := by
  obtain ⟨v, σ', ⟨f, h1⟩, h2, h3, h4⟩ := ar_perform hq hf hi hK
  refine ⟨v, σ', ⟨f, ev_c_mono (fun _ _ _ _ => trivial) f f _ _ _ _ (Nat.le_refl f) h1⟩, h2, h3, h4, fun σ2 hc h0 => ?_⟩
  have c1 : ∀ i k, m_get σ' 1 i k = m_get σ 1 i k := by
    intro i k
    rcases h3.2.2.2 1 i k (fun z => by omega) with e | ⟨b, b1, b2, -⟩
    · exact e
    · obtain ⟨l, l1, l2⟩ := List.mem_flatMap.mp b1
      have w := (List.mem_filter.mp l2).2
      unfold ar_wc at w
      rw [b2.1] at w
      exact absurd (show false = true from w) Bool.false_ne_true
  obtain ⟨σ2', g1, g2, g3⟩ := hH σ2 (fun i' k h k8 => by rw [hc i' k (by rw [h4]; exact h) k8, c1]) h0
  obtain ⟨w, τ, k1, k2, -, k4, -, k6⟩ := sm_lock f 61 _ σ _ σ' σ2' hs_E h1 (Or.inr (fun _ _ h => h)) (fun x hxs => by
    rcases List.mem_cons.mp hxs with rfl | hxs
    · refine ⟨Or.inl (by decide), fun z => ?_⟩
      rcases z with z | z | z <;> cases z
    · have e := List.mem_singleton.mp hxs
      subst e
      refine ⟨Or.inr ⟨rfl, hn⟩, fun z => ?_⟩
      rcases z with z | z | z <;> cases z) g2
  have k1 : some (.inr (.inl v)) = w := Sum.inl.inj k1
  subst k1
  exact ⟨τ, hs_fold_app g1 ⟨τ, ⟨v, f, k2⟩, rfl⟩, k4, g3.tr k6⟩
theorem hs_int {k : Nat} (hk : k < 8) (σ : mS) (i : Nat) : ∃ y, m_get σ 1 i k = .inl y := by
  have : m_ty 1 k = 0 := by
    match k, hk with
    | 0, _ => rfl
    | 1, _ => rfl
    | 2, _ => rfl
    | 3, _ => rfl
    | 4, _ => rfl
    | 5, _ => rfl
    | 6, _ => rfl
    | 7, _ => rfl
  unfold m_get
  rw [this]
  exact ⟨_, rfl⟩
/-- new calls, and what is no hall's, change nothing of it -/
theorem hs_grow {σ0 σ σ1 : mS} {cs : List Nat} (hH : hs_H σ0 cs σ) (h1 : σ.1 1 ≤ σ1.1 1) (h2 : ∀ i k, i < σ.1 1 → k < 8 → m_get σ1 1 i k = m_get σ 1 i k) (h3 : ∀ c i k, i < sm_mx c → m_get σ1 c i k = m_get σ c i k) (h4 : ∀ c i, 13 ≤ c → i < sm_mx c → σ1.2.1 c i = σ.2.1 c i) : hs_H σ0 cs σ1 := by
  intro σ2 hc h0
  obtain ⟨σ2', g1, g2, g3⟩ := hH σ2 (fun i k hi hk => by rw [hc i k (by omega) hk, h2 i k hi hk]) h0
  refine ⟨σ2', g1, ⟨fun c i k hce hd => ?_, fun c i hc' hi => by rw [g2.2.1 c i hc' hi, h4 c i hc' hi], ?_⟩, g3⟩
  · have hcn : ∀ c, sm_cn σ1 c = sm_cn σ c := by
      intro c
      unfold sm_cn
      rw [h3 _ 0 _ (by unfold sm_ca; split <;> decide)]
    by_cases e : i < sm_mx c
    · have hce' : sm_ce σ c i k := ⟨Or.inl e, hce.2.1, hce.2.2.1, hce.2.2.2.1, fun z => by rw [← h4 c i z e]; exact hce.2.2.2.2 z⟩
      obtain ⟨k1, k2⟩ := g2.1 c i k hce' (fun hd0 => hd (by
        unfold sm_dd at hd0 ⊢
        rw [hcn]
        exact hd0))
      rw [h3 c i k e]
      refine ⟨k1, gV_mono (fun q hq => ⟨hq.1.elim Or.inl (fun z => Or.inr ⟨z.1, by omega⟩), hq.2.1, hq.2.2.1, fun z => by rw [hcn]; exact hq.2.2.2 z⟩) k2⟩
    · rcases hce.1 with z | ⟨rfl, z⟩
      · exact absurd z e
      · have hk := hce.2.2.2.1 rfl
        obtain ⟨y, hy⟩ := hs_int hk σ1 i
        have e1 : m_get σ2' 1 (i + sm_off 1) k = m_get σ1 1 i k := by
          show m_get σ2' 1 i k = _
          rw [g3.2.2 1 i k (fun i0 hi0 => absurd hi0 (Nat.not_lt_zero _)), hc i k z hk]
        rw [e1, hy]
        exact ⟨rfl, trivial⟩
  · obtain ⟨i1, i2, i3, i4⟩ := g2.2.2
    refine ⟨⟨?_, ?_, ?_, fun i hi => ?_⟩, fun k hk => ⟨?_, (i2 k hk).2⟩, fun k hk => ⟨?_, (i3 k hk).2⟩, fun k hk => ⟨?_, (i4 k hk).2⟩⟩
    · rw [h4 17 0 (by decide) (by decide)]; exact i1.1
    · rw [h4 20 0 (by decide) (by decide)]; exact i1.2.1
    · rw [h4 21 0 (by decide) (by decide)]; exact i1.2.2.1
    · rw [h4 13 i (by decide) hi]; exact i1.2.2.2 i hi
    · rw [h3 17 0 k (by decide)]; exact (i2 k hk).1
    · rw [h3 20 0 k (by decide)]; exact (i3 k hk).1
    · rw [h3 21 0 k (by decide)]; exact (i4 k hk).1
