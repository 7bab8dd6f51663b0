/-! no difference where all agree -/
theorem s87 {σ σ' : mS} {a ka qa n b kb qb m : Nat} {w : mX} (hv : lv σ a ka qa n) (hS : lS σ ka n) (hw : lv σ b kb qb m) (hS' : lS σ kb m) (h9 : n + m < 960) (hA : ∀ i, i < n → 0 ≤ lK σ ka i ∧ lK σ ka i < 1000000) (hB : ∀ i, i < m → 0 ≤ lK σ kb i ∧ lK σ kb i < 1000000) (hE : ∀ k, -1 < k → nE n (lK σ ka) (lQ σ qa) m (lK σ kb) (lQ σ qb) k) (h : ev_run sm_all 87 [rf 5 a, rf 5 b] σ w σ') : w = .inl (some (.inl (Int32.ofInt 0))) ∧ σ' = σ := by
  obtain ⟨F, f, h⟩ := ei_go h z87_at
  replace h : EV F f 87 z87 0 [some (rf 5 (a)), some (rf 5 (b)), none, none, none] [] σ (w, σ') := h
  replace h := ei_p h rfl rfl rfl rfl
  obtain ⟨f, g, h⟩ := h
  clear g
  replace h : EV F f 87 z87 1 [some (rf 5 (a)), some (rf 5 (b)), none, none, none] [.inl (Int32.ofInt 0)] σ (w, σ') := h
  replace h := ei_p h rfl rfl rfl rfl
  obtain ⟨f, g, h⟩ := h
  clear g
  replace h : EV F f 87 z87 2 [some (rf 5 (a)), some (rf 5 (b)), some (.inl (Int32.ofInt 0)), none, none] [] σ (w, σ') := h
  replace h := ei_p h rfl rfl rfl rfl
  obtain ⟨f, g, h⟩ := h
  clear g
  replace h : EV F f 87 z87 3 [some (rf 5 (a)), some (rf 5 (b)), some (.inl (Int32.ofInt 0)), none, none] [rf 5 (a)] σ (w, σ') := h
  replace h := ei_p h rfl rfl rfl rfl
  obtain ⟨f, g, h⟩ := h
  clear g
  replace h : EV F f 87 z87 4 [some (rf 5 (a)), some (rf 5 (b)), some (.inl (Int32.ofInt 0)), none, none] [rf 5 (b), rf 5 (a)] σ (w, σ') := h
  replace h := ei_p h rfl rfl rfl rfl
  obtain ⟨f, g, h⟩ := h
  clear g
  replace h : EV F f 87 z87 5 [some (rf 5 (a)), some (rf 5 (b)), some (.inl (Int32.ofInt 0)), none, none] [.inl (Int32.ofInt (-1)), rf 5 (b), rf 5 (a)] σ (w, σ') := h
  replace h := bk_I (ei_v (as := [.inl (Int32.ofInt (-1)), rf 5 (b)]) h rfl rfl rfl) rfl z86_at (Or.inl rfl)
  obtain ⟨v1, τ2, r3, f, g, h⟩ := h
  clear g
  obtain ⟨pr3, e1r3, er3, D⟩ := s86 hv hS hw hS' h9 hA hB (by decide) r3
  cases e1r3
  rw [er3] at h
  have dn : (v1).toInt = -1 := by
    rcases D with ⟨x, _⟩ | ⟨x1, x2, x3, x4, _⟩
    · exact x
    · exact absurd (hE _ (by omega)) x4
  replace h : EV F f 87 z87 8 [some (rf 5 (a)), some (rf 5 (b)), some (.inl (Int32.ofInt 0)), none, none] [.inl (v1)] σ (w, σ') := h
  replace h := ei_p h rfl rfl rfl rfl
  obtain ⟨f, g, h⟩ := h
  clear g
  replace h : EV F f 87 z87 9 [some (rf 5 (a)), some (rf 5 (b)), some (.inl (Int32.ofInt 0)), some (.inl (v1)), none] [] σ (w, σ') := h
  replace h := ei_p h rfl rfl rfl rfl
  obtain ⟨f, g, h⟩ := h
  clear g
  replace h : EV F f 87 z87 10 [some (rf 5 (a)), some (rf 5 (b)), some (.inl (Int32.ofInt 0)), some (.inl (v1)), none] [.inl (Int32.ofInt 0)] σ (w, σ') := h
  replace h := ei_p h rfl rfl rfl rfl
  obtain ⟨f, g, h⟩ := h
  clear g
  replace h : EV F f 87 z87 12 [some (rf 5 (a)), some (rf 5 (b)), some (.inl (Int32.ofInt 0)), some (.inl (v1)), some (.inl (Int32.ofInt 0))] [] σ (w, σ') := h
  replace h := ei_p h rfl rfl rfl rfl
  obtain ⟨f, g, h⟩ := h
  clear g
  replace h : EV F f 87 z87 14 [some (rf 5 (a)), some (rf 5 (b)), some (.inl (Int32.ofInt 0)), some (.inl (v1)), some (.inl (Int32.ofInt 0))] [.inl (Int32.ofInt 0)] σ (w, σ') := h
  replace h := ei_p h rfl rfl rfl rfl
  obtain ⟨f, g, h⟩ := h
  clear g
  replace h : EV F f 87 z87 17 [some (rf 5 (a)), some (rf 5 (b)), some (.inl (Int32.ofInt 0)), some (.inl (v1)), some (.inl (Int32.ofInt 0))] [.inl (Int32.ofInt 960), .inl (Int32.ofInt 0)] σ (w, σ') := h
  replace h := ei_c h rfl rfl rfl
  rcases h with ⟨hp4, f, g, h⟩ | ⟨hp4, f, g, h⟩
  · exact absurd (ic_ge.mp hp4) (by decide)
  · skip
    clear g
    replace h : EV F f 87 z87 20 [some (rf 5 (a)), some (rf 5 (b)), some (.inl (Int32.ofInt 0)), some (.inl (v1)), some (.inl (Int32.ofInt 0))] [] σ (w, σ') := h
    replace h := ei_p h rfl rfl rfl rfl
    obtain ⟨f, g, h⟩ := h
    clear g
    replace h : EV F f 87 z87 21 [some (rf 5 (a)), some (rf 5 (b)), some (.inl (Int32.ofInt 0)), some (.inl (v1)), some (.inl (Int32.ofInt 0))] [.inl (v1)] σ (w, σ') := h
    replace h := ei_p h rfl rfl rfl rfl
    obtain ⟨f, g, h⟩ := h
    clear g
    replace h : EV F f 87 z87 22 [some (rf 5 (a)), some (rf 5 (b)), some (.inl (Int32.ofInt 0)), some (.inl (v1)), some (.inl (Int32.ofInt 0))] [.inl (Int32.ofInt (-1)), .inl (v1)] σ (w, σ') := h
    replace h := ei_c h rfl rfl rfl
    rcases h with ⟨hp5, f, g, h⟩ | ⟨hp5, f, g, h⟩
    · skip
      replace hp5 : (v1).toInt = (-1 : Int) := ic_eq.mp hp5
      clear g
      replace h : EV F f 87 z87 41 [some (rf 5 (a)), some (rf 5 (b)), some (.inl (Int32.ofInt 0)), some (.inl (v1)), some (.inl (Int32.ofInt 0))] [] σ (w, σ') := h
      replace h := ei_p h rfl rfl rfl rfl
      obtain ⟨f, g, h⟩ := h
      clear g
      replace h : EV F f 87 z87 42 [some (rf 5 (a)), some (rf 5 (b)), some (.inl (Int32.ofInt 0)), some (.inl (v1)), some (.inl (Int32.ofInt 0))] [.inl (Int32.ofInt 0)] σ (w, σ') := h
      have e := ei_iret h rfl
      cases e
      exact ⟨rfl, rfl⟩
    · skip
      replace hp5 : ¬ ((v1).toInt = (-1 : Int)) := (not_congr ic_eq).mp hp5
      clear g
      exact absurd dn hp5
