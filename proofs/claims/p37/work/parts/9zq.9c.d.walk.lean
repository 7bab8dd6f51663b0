/-! runs backwards -/
/-- an order that is refused, performed: nothing is changed -/
theorem i64_m1 : ∀ k, k < 120 → ¬ (Int32.ofNat k).toInt64 = Int64.ofInt (-1) := by decide +kernel
theorem w61r {σ σ' : mS} {i : Nat} (Y : hy (fun _ => 0) σ) (ht : tz σ) (h0 : m_get σ 1 i 0 = .inl (Int32.ofInt 2)) (h : ev_run sm_all 61 [rf 4 0, rf 1 i] σ (.inl (some (.inr (.inl (Int64.ofInt (-1)))))) σ') : eqS σ σ' := by
  obtain ⟨F, f, h⟩ := ei_go h z61s_at
  replace h := ei_p h rfl rfl rfl rfl
  obtain ⟨f, g, h⟩ := h
  replace h := ei_get h rfl h0
  obtain ⟨f, g, h⟩ := h
  replace h := ei_p h rfl rfl rfl rfl
  obtain ⟨f, g, h⟩ := h
  replace h := ei_p h rfl rfl rfl rfl
  obtain ⟨f, g, h⟩ := h
  replace h := ei_p h rfl rfl rfl rfl
  obtain ⟨f, g, h⟩ := h
  replace h := ei_v (as := [rf 1 i]) h rfl rfl rfl
  obtain ⟨x, τ, r64, ⟨v, rfl, f, g, h⟩ | ⟨b, rfl, hq⟩⟩ := h
  rotate_left
  · cases hq
  have key : ∀ y : Int32, v = some (.inl y) → y.toInt64 = Int64.ofInt (-1) ∧ ∃ υ, ev_run sm_all 69 [rf 4 0] τ (.inl none) υ ∧ υ = σ' := by
    intro y e
    cases e
    replace h := ei_p h rfl rfl rfl rfl
    obtain ⟨f, g, h⟩ := h
    replace h := ei_p h rfl rfl rfl rfl
    obtain ⟨f, g, h⟩ := h
    replace h := ei_p h rfl rfl rfl rfl
    obtain ⟨f, g, h⟩ := h
    replace h := ei_p h rfl rfl rfl rfl
    obtain ⟨f, g, h⟩ := h
    replace h := ei_v (as := []) h rfl rfl rfl
    obtain ⟨x, υ, r69, ⟨v2, rfl, f, g, h⟩ | ⟨b, rfl, hq⟩⟩ := h
    rotate_left
    · cases hq
    have t := ev_ty z69s_at r69
    rcases v2 with _ | x | x | x
    rotate_left
    · rcases t with t | ⟨t, -⟩ <;> cases t
    · cases t
    · cases t
    replace h := ei_p h rfl rfl rfl rfl
    obtain ⟨f, g, h⟩ := h
    have e := ei_lret h rfl
    have e1 := congrArg Prod.fst e
    have e2 := congrArg Prod.snd e
    have e3 := Sum.inl.inj (Sum.inr.inj (Option.some.inj (Sum.inl.inj e1)))
    exact ⟨e3.symm, υ, r69, e2.symm⟩
  rcases w64s Y r64 with ⟨e1, e2⟩ | ⟨k, hk, e1⟩ | ⟨b, e1⟩
  · subst e2
    obtain ⟨-, υ, r69, rfl⟩ := key _ (Sum.inl.inj e1)
    rcases w69s Y r69 with ⟨b, e⟩ | ⟨-, -, e⟩
    · cases e
    · exact e ht
  · exact absurd (key _ (Sum.inl.inj e1)).1 (i64_m1 k hk)
  · cases e1
/-- behind a performed call no paper is marked -/
theorem w61t {F f : Nat} {σ' τ : mS} {i : Nat} {w : mX} {l2 : Int64} {l3 : Option mV} (Y : hy (fun _ => 0) τ) (h : EV F f 61 z61s 179 [some (rf 4 0), some (rf 1 i), some (.inr (.inl l2)), l3] [] τ (w, σ')) : (∃ b, w = .inr b) ∨ tz σ' := by
  replace h := ei_p h rfl rfl rfl rfl
  obtain ⟨f, g, h⟩ := h
  replace h := ei_v (as := []) h rfl rfl rfl
  obtain ⟨x, υ, r69, ⟨v, rfl, f, g, h⟩ | ⟨b, rfl, hq⟩⟩ := h
  rotate_left
  · exact Or.inl ⟨b, congrArg Prod.fst hq⟩
  rcases w69s Y r69 with ⟨b, e⟩ | ⟨e, t, -⟩
  · cases e
  cases e
  replace h := ei_p h rfl rfl rfl rfl
  obtain ⟨f, g, h⟩ := h
  have e := ei_lret h rfl
  cases e
  exact Or.inr t
theorem w61_0 {σ σ' : mS} {i : Nat} {w : mX} (Y : hy (fun _ => 0) σ) (h0 : m_get σ 1 i 0 = .inl (Int32.ofInt 0)) (h : ev_run sm_all 61 [rf 4 0, rf 1 i] σ w σ') : (∃ b, w = .inr b) ∨ tz σ' := by
  obtain ⟨F, f, h⟩ := ei_go h z61s_at
  replace h := ei_p h rfl rfl rfl rfl
  obtain ⟨f, g, h⟩ := h
  replace h := ei_get h rfl h0
  obtain ⟨f, g, h⟩ := h
  replace h := ei_p h rfl rfl rfl rfl
  obtain ⟨f, g, h⟩ := h
  replace h := ei_p h rfl rfl rfl rfl
  obtain ⟨f, g, h⟩ := h
  replace h := ei_p h rfl rfl rfl rfl
  obtain ⟨f, g, h⟩ := h
  replace h := ei_v (as := [rf 1 i]) h rfl rfl rfl
  obtain ⟨x, τ, r, ⟨v, rfl, f, g, h⟩ | ⟨b, rfl, hq⟩⟩ := h
  rotate_left
  · exact Or.inl ⟨b, congrArg Prod.fst hq⟩
  have Y1 := hy_run (j := 63) (by decide) r Y
  have t := ev_ty z63s_at r
  rcases v with _ | x | x | x
  · cases t
  · rcases t with t | ⟨t, -⟩ <;> cases t
  rotate_left
  · cases t
  replace h := ei_p h rfl rfl rfl rfl
  obtain ⟨f, g, h⟩ := h
  exact w61t Y1 h
theorem w61_1 {σ σ' : mS} {i : Nat} {w : mX} (Y : hy (fun _ => 0) σ) (h0 : m_get σ 1 i 0 = .inl (Int32.ofInt 1)) (h : ev_run sm_all 61 [rf 4 0, rf 1 i] σ w σ') : (∃ b, w = .inr b) ∨ tz σ' := by
  obtain ⟨F, f, h⟩ := ei_go h z61s_at
  replace h := ei_p h rfl rfl rfl rfl
  obtain ⟨f, g, h⟩ := h
  replace h := ei_get h rfl h0
  obtain ⟨f, g, h⟩ := h
  replace h := ei_p h rfl rfl rfl rfl
  obtain ⟨f, g, h⟩ := h
  replace h := ei_p h rfl rfl rfl rfl
  obtain ⟨f, g, h⟩ := h
  replace h := ei_p h rfl rfl rfl rfl
  obtain ⟨f, g, h⟩ := h
  replace h := ei_v (as := [rf 1 i]) h rfl rfl rfl
  obtain ⟨x, τ, r, ⟨v, rfl, f, g, h⟩ | ⟨b, rfl, hq⟩⟩ := h
  rotate_left
  · exact Or.inl ⟨b, congrArg Prod.fst hq⟩
  have Y1 := hy_run (j := 63) (by decide) r Y
  have t := ev_ty z63s_at r
  rcases v with _ | x | x | x
  · cases t
  · rcases t with t | ⟨t, -⟩ <;> cases t
  rotate_left
  · cases t
  replace h := ei_p h rfl rfl rfl rfl
  obtain ⟨f, g, h⟩ := h
  exact w61t Y1 h
theorem w61_2 {σ σ' : mS} {i : Nat} {w : mX} (Y : hy (fun _ => 0) σ) (h0 : m_get σ 1 i 0 = .inl (Int32.ofInt 2)) (h : ev_run sm_all 61 [rf 4 0, rf 1 i] σ w σ') : (∃ b, w = .inr b) ∨ tz σ' := by
  obtain ⟨F, f, h⟩ := ei_go h z61s_at
  replace h := ei_p h rfl rfl rfl rfl
  obtain ⟨f, g, h⟩ := h
  replace h := ei_get h rfl h0
  obtain ⟨f, g, h⟩ := h
  replace h := ei_p h rfl rfl rfl rfl
  obtain ⟨f, g, h⟩ := h
  replace h := ei_p h rfl rfl rfl rfl
  obtain ⟨f, g, h⟩ := h
  replace h := ei_p h rfl rfl rfl rfl
  obtain ⟨f, g, h⟩ := h
  replace h := ei_v (as := [rf 1 i]) h rfl rfl rfl
  obtain ⟨x, τ, r, ⟨v, rfl, f, g, h⟩ | ⟨b, rfl, hq⟩⟩ := h
  rotate_left
  · exact Or.inl ⟨b, congrArg Prod.fst hq⟩
  have Y1 := hy_run (j := 64) (by decide) r Y
  have t := ev_ty z64s_at r
  rcases v with _ | x | x | x
  · cases t
  rotate_left
  · cases t
  · cases t
  replace h := ei_p h rfl rfl rfl rfl
  obtain ⟨f, g, h⟩ := h
  replace h := ei_p h rfl rfl rfl rfl
  obtain ⟨f, g, h⟩ := h
  replace h := ei_p h rfl rfl rfl rfl
  obtain ⟨f, g, h⟩ := h
  exact w61t Y1 h
theorem w61_3 {σ σ' : mS} {i : Nat} {w : mX} (Y : hy (fun _ => 0) σ) (h0 : m_get σ 1 i 0 = .inl (Int32.ofInt 3)) (h : ev_run sm_all 61 [rf 4 0, rf 1 i] σ w σ') : (∃ b, w = .inr b) ∨ tz σ' := by
  obtain ⟨F, f, h⟩ := ei_go h z61s_at
  replace h := ei_p h rfl rfl rfl rfl
  obtain ⟨f, g, h⟩ := h
  replace h := ei_get h rfl h0
  obtain ⟨f, g, h⟩ := h
  replace h := ei_p h rfl rfl rfl rfl
  obtain ⟨f, g, h⟩ := h
  replace h := ei_p h rfl rfl rfl rfl
  obtain ⟨f, g, h⟩ := h
  replace h := ei_p h rfl rfl rfl rfl
  obtain ⟨f, g, h⟩ := h
  replace h := ei_v (as := [rf 1 i]) h rfl rfl rfl
  obtain ⟨x, τ, r, ⟨v, rfl, f, g, h⟩ | ⟨b, rfl, hq⟩⟩ := h
  rotate_left
  · exact Or.inl ⟨b, congrArg Prod.fst hq⟩
  have Y1 := hy_run (j := 65) (by decide) r Y
  have t := ev_ty z65s_at r
  rcases v with _ | x | x | x
  · cases t
  rotate_left
  · cases t
  · cases t
  replace h := ei_p h rfl rfl rfl rfl
  obtain ⟨f, g, h⟩ := h
  replace h := ei_p h rfl rfl rfl rfl
  obtain ⟨f, g, h⟩ := h
  replace h := ei_p h rfl rfl rfl rfl
  obtain ⟨f, g, h⟩ := h
  exact w61t Y1 h
theorem w61_4 {σ σ' : mS} {i : Nat} {w : mX} (Y : hy (fun _ => 0) σ) (h0 : m_get σ 1 i 0 = .inl (Int32.ofInt 4)) (h : ev_run sm_all 61 [rf 4 0, rf 1 i] σ w σ') : (∃ b, w = .inr b) ∨ tz σ' := by
  obtain ⟨F, f, h⟩ := ei_go h z61s_at
  replace h := ei_p h rfl rfl rfl rfl
  obtain ⟨f, g, h⟩ := h
  replace h := ei_get h rfl h0
  obtain ⟨f, g, h⟩ := h
  replace h := ei_p h rfl rfl rfl rfl
  obtain ⟨f, g, h⟩ := h
  replace h := ei_p h rfl rfl rfl rfl
  obtain ⟨f, g, h⟩ := h
  replace h := ei_p h rfl rfl rfl rfl
  obtain ⟨f, g, h⟩ := h
  obtain ⟨a1, h1⟩ := gt_i (c := 1) (k := 1) rfl σ i
  replace h := ei_get h rfl h1
  obtain ⟨f, g, h⟩ := h
  replace h := ei_p h rfl rfl rfl rfl
  obtain ⟨f, g, h⟩ := h
  obtain ⟨a2, h2⟩ := gt_i (c := 1) (k := 2) rfl σ i
  replace h := ei_get h rfl h2
  obtain ⟨f, g, h⟩ := h
  replace h := ei_v (as := [.inl a2, .inl a1]) h rfl rfl rfl
  obtain ⟨x, τ, r, ⟨v, rfl, f, g, h⟩ | ⟨b, rfl, hq⟩⟩ := h
  rotate_left
  · exact Or.inl ⟨b, congrArg Prod.fst hq⟩
  have Y1 := hy_run (j := 70) (by decide) r Y
  have t := ev_ty z70s_at r
  rcases v with _ | x | x | x
  · cases t
  rotate_left
  · cases t
  · cases t
  replace h := ei_p h rfl rfl rfl rfl
  obtain ⟨f, g, h⟩ := h
  replace h := ei_p h rfl rfl rfl rfl
  obtain ⟨f, g, h⟩ := h
  replace h := ei_p h rfl rfl rfl rfl
  obtain ⟨f, g, h⟩ := h
  exact w61t Y1 h
theorem w61_5 {σ σ' : mS} {i : Nat} {w : mX} (Y : hy (fun _ => 0) σ) (h0 : m_get σ 1 i 0 = .inl (Int32.ofInt 5)) (h : ev_run sm_all 61 [rf 4 0, rf 1 i] σ w σ') : (∃ b, w = .inr b) ∨ tz σ' := by
  obtain ⟨F, f, h⟩ := ei_go h z61s_at
  replace h := ei_p h rfl rfl rfl rfl
  obtain ⟨f, g, h⟩ := h
  replace h := ei_get h rfl h0
  obtain ⟨f, g, h⟩ := h
  replace h := ei_p h rfl rfl rfl rfl
  obtain ⟨f, g, h⟩ := h
  replace h := ei_p h rfl rfl rfl rfl
  obtain ⟨f, g, h⟩ := h
  replace h := ei_p h rfl rfl rfl rfl
  obtain ⟨f, g, h⟩ := h
  obtain ⟨a1, h1⟩ := gt_i (c := 1) (k := 1) rfl σ i
  replace h := ei_get h rfl h1
  obtain ⟨f, g, h⟩ := h
  replace h := ei_v (as := [.inl a1]) h rfl rfl rfl
  obtain ⟨x, τ, r, ⟨v, rfl, f, g, h⟩ | ⟨b, rfl, hq⟩⟩ := h
  rotate_left
  · exact Or.inl ⟨b, congrArg Prod.fst hq⟩
  have Y1 := hy_run (j := 71) (by decide) r Y
  have t := ev_ty z71s_at r
  rcases v with _ | x | x | x
  · cases t
  rotate_left
  · cases t
  · cases t
  replace h := ei_p h rfl rfl rfl rfl
  obtain ⟨f, g, h⟩ := h
  replace h := ei_p h rfl rfl rfl rfl
  obtain ⟨f, g, h⟩ := h
  replace h := ei_p h rfl rfl rfl rfl
  obtain ⟨f, g, h⟩ := h
  exact w61t Y1 h
theorem w61_6 {σ σ' : mS} {i : Nat} {w : mX} (Y : hy (fun _ => 0) σ) (h0 : m_get σ 1 i 0 = .inl (Int32.ofInt 6)) (h : ev_run sm_all 61 [rf 4 0, rf 1 i] σ w σ') : (∃ b, w = .inr b) ∨ tz σ' := by
  obtain ⟨F, f, h⟩ := ei_go h z61s_at
  replace h := ei_p h rfl rfl rfl rfl
  obtain ⟨f, g, h⟩ := h
  replace h := ei_get h rfl h0
  obtain ⟨f, g, h⟩ := h
  replace h := ei_p h rfl rfl rfl rfl
  obtain ⟨f, g, h⟩ := h
  replace h := ei_p h rfl rfl rfl rfl
  obtain ⟨f, g, h⟩ := h
  replace h := ei_p h rfl rfl rfl rfl
  obtain ⟨f, g, h⟩ := h
  obtain ⟨a1, h1⟩ := gt_i (c := 1) (k := 1) rfl σ i
  replace h := ei_get h rfl h1
  obtain ⟨f, g, h⟩ := h
  replace h := ei_p h rfl rfl rfl rfl
  obtain ⟨f, g, h⟩ := h
  obtain ⟨a2, h2⟩ := gt_i (c := 1) (k := 2) rfl σ i
  replace h := ei_get h rfl h2
  obtain ⟨f, g, h⟩ := h
  replace h := ei_p h rfl rfl rfl rfl
  obtain ⟨f, g, h⟩ := h
  obtain ⟨a3, h3⟩ := gt_i (c := 1) (k := 3) rfl σ i
  replace h := ei_get h rfl h3
  obtain ⟨f, g, h⟩ := h
  replace h := ei_p h rfl rfl rfl rfl
  obtain ⟨f, g, h⟩ := h
  obtain ⟨a4, h4⟩ := gt_i (c := 1) (k := 4) rfl σ i
  replace h := ei_get h rfl h4
  obtain ⟨f, g, h⟩ := h
  replace h := ei_p h rfl rfl rfl rfl
  obtain ⟨f, g, h⟩ := h
  obtain ⟨a5, h5⟩ := gt_i (c := 1) (k := 5) rfl σ i
  replace h := ei_get h rfl h5
  obtain ⟨f, g, h⟩ := h
  replace h := ei_v (as := [.inl a5, .inl a4, .inl a3, .inl a2, .inl a1]) h rfl rfl rfl
  obtain ⟨x, τ, r, ⟨v, rfl, f, g, h⟩ | ⟨b, rfl, hq⟩⟩ := h
  rotate_left
  · exact Or.inl ⟨b, congrArg Prod.fst hq⟩
  have Y1 := hy_run (j := 72) (by decide) r Y
  have t := ev_ty z72s_at r
  rcases v with _ | x | x | x
  · cases t
  rotate_left
  · cases t
  · cases t
  replace h := ei_p h rfl rfl rfl rfl
  obtain ⟨f, g, h⟩ := h
  replace h := ei_p h rfl rfl rfl rfl
  obtain ⟨f, g, h⟩ := h
  replace h := ei_p h rfl rfl rfl rfl
  obtain ⟨f, g, h⟩ := h
  exact w61t Y1 h
theorem w61_7 {σ σ' : mS} {i : Nat} {w : mX} (Y : hy (fun _ => 0) σ) (h0 : m_get σ 1 i 0 = .inl (Int32.ofInt 7)) (h : ev_run sm_all 61 [rf 4 0, rf 1 i] σ w σ') : (∃ b, w = .inr b) ∨ tz σ' := by
  obtain ⟨F, f, h⟩ := ei_go h z61s_at
  replace h := ei_p h rfl rfl rfl rfl
  obtain ⟨f, g, h⟩ := h
  replace h := ei_get h rfl h0
  obtain ⟨f, g, h⟩ := h
  replace h := ei_p h rfl rfl rfl rfl
  obtain ⟨f, g, h⟩ := h
  replace h := ei_p h rfl rfl rfl rfl
  obtain ⟨f, g, h⟩ := h
  replace h := ei_p h rfl rfl rfl rfl
  obtain ⟨f, g, h⟩ := h
  replace h := ei_v (as := [rf 1 i]) h rfl rfl rfl
  obtain ⟨x, τ, r, ⟨v, rfl, f, g, h⟩ | ⟨b, rfl, hq⟩⟩ := h
  rotate_left
  · exact Or.inl ⟨b, congrArg Prod.fst hq⟩
  have Y1 := hy_run (j := 62) (by decide) r Y
  have t := ev_ty z62s_at r
  rcases v with _ | x | x | x
  · cases t
  · rcases t with t | ⟨t, -⟩ <;> cases t
  rotate_left
  · cases t
  replace h := ei_p h rfl rfl rfl rfl
  obtain ⟨f, g, h⟩ := h
  replace h := ei_p h rfl rfl rfl rfl
  obtain ⟨f, g, h⟩ := h
  exact w61t Y1 h
theorem w61_8 {σ σ' : mS} {i : Nat} {w : mX} (Y : hy (fun _ => 0) σ) (h0 : m_get σ 1 i 0 = .inl (Int32.ofInt 8)) (h : ev_run sm_all 61 [rf 4 0, rf 1 i] σ w σ') : (∃ b, w = .inr b) ∨ tz σ' := by
  obtain ⟨F, f, h⟩ := ei_go h z61s_at
  replace h := ei_p h rfl rfl rfl rfl
  obtain ⟨f, g, h⟩ := h
  replace h := ei_get h rfl h0
  obtain ⟨f, g, h⟩ := h
  replace h := ei_p h rfl rfl rfl rfl
  obtain ⟨f, g, h⟩ := h
  replace h := ei_p h rfl rfl rfl rfl
  obtain ⟨f, g, h⟩ := h
  replace h := ei_p h rfl rfl rfl rfl
  obtain ⟨f, g, h⟩ := h
  replace h := ei_v (as := [rf 1 i]) h rfl rfl rfl
  obtain ⟨x, τ, r, ⟨v, rfl, f, g, h⟩ | ⟨b, rfl, hq⟩⟩ := h
  rotate_left
  · exact Or.inl ⟨b, congrArg Prod.fst hq⟩
  have Y1 := hy_run (j := 62) (by decide) r Y
  have t := ev_ty z62s_at r
  rcases v with _ | x | x | x
  · cases t
  · rcases t with t | ⟨t, -⟩ <;> cases t
  rotate_left
  · cases t
  replace h := ei_p h rfl rfl rfl rfl
  obtain ⟨f, g, h⟩ := h
  replace h := ei_p h rfl rfl rfl rfl
  obtain ⟨f, g, h⟩ := h
  exact w61t Y1 h
theorem w61_9 {σ σ' : mS} {i : Nat} {w : mX} (Y : hy (fun _ => 0) σ) (h0 : m_get σ 1 i 0 = .inl (Int32.ofInt 9)) (h : ev_run sm_all 61 [rf 4 0, rf 1 i] σ w σ') : (∃ b, w = .inr b) ∨ tz σ' := by
  obtain ⟨F, f, h⟩ := ei_go h z61s_at
  replace h := ei_p h rfl rfl rfl rfl
  obtain ⟨f, g, h⟩ := h
  replace h := ei_get h rfl h0
  obtain ⟨f, g, h⟩ := h
  replace h := ei_p h rfl rfl rfl rfl
  obtain ⟨f, g, h⟩ := h
  replace h := ei_p h rfl rfl rfl rfl
  obtain ⟨f, g, h⟩ := h
  replace h := ei_p h rfl rfl rfl rfl
  obtain ⟨f, g, h⟩ := h
  replace h := ei_v (as := [rf 1 i]) h rfl rfl rfl
  obtain ⟨x, τ, r, ⟨v, rfl, f, g, h⟩ | ⟨b, rfl, hq⟩⟩ := h
  rotate_left
  · exact Or.inl ⟨b, congrArg Prod.fst hq⟩
  have Y1 := hy_run (j := 62) (by decide) r Y
  have t := ev_ty z62s_at r
  rcases v with _ | x | x | x
  · cases t
  · rcases t with t | ⟨t, -⟩ <;> cases t
  rotate_left
  · cases t
  replace h := ei_p h rfl rfl rfl rfl
  obtain ⟨f, g, h⟩ := h
  replace h := ei_p h rfl rfl rfl rfl
  obtain ⟨f, g, h⟩ := h
  exact w61t Y1 h
theorem w61_10 {σ σ' : mS} {i : Nat} {w : mX} (Y : hy (fun _ => 0) σ) (h0 : m_get σ 1 i 0 = .inl (Int32.ofInt 10)) (h : ev_run sm_all 61 [rf 4 0, rf 1 i] σ w σ') : (∃ b, w = .inr b) ∨ tz σ' := by
  obtain ⟨F, f, h⟩ := ei_go h z61s_at
  replace h := ei_p h rfl rfl rfl rfl
  obtain ⟨f, g, h⟩ := h
  replace h := ei_get h rfl h0
  obtain ⟨f, g, h⟩ := h
  replace h := ei_p h rfl rfl rfl rfl
  obtain ⟨f, g, h⟩ := h
  replace h := ei_p h rfl rfl rfl rfl
  obtain ⟨f, g, h⟩ := h
  replace h := ei_p h rfl rfl rfl rfl
  obtain ⟨f, g, h⟩ := h
  replace h := ei_v (as := [rf 1 i]) h rfl rfl rfl
  obtain ⟨x, τ, r, ⟨v, rfl, f, g, h⟩ | ⟨b, rfl, hq⟩⟩ := h
  rotate_left
  · exact Or.inl ⟨b, congrArg Prod.fst hq⟩
  have Y1 := hy_run (j := 62) (by decide) r Y
  have t := ev_ty z62s_at r
  rcases v with _ | x | x | x
  · cases t
  · rcases t with t | ⟨t, -⟩ <;> cases t
  rotate_left
  · cases t
  replace h := ei_p h rfl rfl rfl rfl
  obtain ⟨f, g, h⟩ := h
  replace h := ei_p h rfl rfl rfl rfl
  obtain ⟨f, g, h⟩ := h
  exact w61t Y1 h
theorem w61_11 {σ σ' : mS} {i : Nat} {w : mX} (Y : hy (fun _ => 0) σ) (h0 : m_get σ 1 i 0 = .inl (Int32.ofInt 11)) (h : ev_run sm_all 61 [rf 4 0, rf 1 i] σ w σ') : (∃ b, w = .inr b) ∨ tz σ' := by
  obtain ⟨F, f, h⟩ := ei_go h z61s_at
  replace h := ei_p h rfl rfl rfl rfl
  obtain ⟨f, g, h⟩ := h
  replace h := ei_get h rfl h0
  obtain ⟨f, g, h⟩ := h
  replace h := ei_p h rfl rfl rfl rfl
  obtain ⟨f, g, h⟩ := h
  replace h := ei_p h rfl rfl rfl rfl
  obtain ⟨f, g, h⟩ := h
  replace h := ei_p h rfl rfl rfl rfl
  obtain ⟨f, g, h⟩ := h
  replace h := ei_v (as := [rf 1 i]) h rfl rfl rfl
  obtain ⟨x, τ, r, ⟨v, rfl, f, g, h⟩ | ⟨b, rfl, hq⟩⟩ := h
  rotate_left
  · exact Or.inl ⟨b, congrArg Prod.fst hq⟩
  have Y1 := hy_run (j := 63) (by decide) r Y
  have t := ev_ty z63s_at r
  rcases v with _ | x | x | x
  · cases t
  · rcases t with t | ⟨t, -⟩ <;> cases t
  rotate_left
  · cases t
  replace h := ei_p h rfl rfl rfl rfl
  obtain ⟨f, g, h⟩ := h
  exact w61t Y1 h
theorem w61_12 {σ σ' : mS} {i : Nat} {w : mX} (Y : hy (fun _ => 0) σ) (h0 : m_get σ 1 i 0 = .inl (Int32.ofInt 12)) (h : ev_run sm_all 61 [rf 4 0, rf 1 i] σ w σ') : (∃ b, w = .inr b) ∨ tz σ' := by
  obtain ⟨F, f, h⟩ := ei_go h z61s_at
  replace h := ei_p h rfl rfl rfl rfl
  obtain ⟨f, g, h⟩ := h
  replace h := ei_get h rfl h0
  obtain ⟨f, g, h⟩ := h
  replace h := ei_p h rfl rfl rfl rfl
  obtain ⟨f, g, h⟩ := h
  replace h := ei_p h rfl rfl rfl rfl
  obtain ⟨f, g, h⟩ := h
  replace h := ei_p h rfl rfl rfl rfl
  obtain ⟨f, g, h⟩ := h
  replace h := ei_v (as := [rf 1 i]) h rfl rfl rfl
  obtain ⟨x, τ, r, ⟨v, rfl, f, g, h⟩ | ⟨b, rfl, hq⟩⟩ := h
  rotate_left
  · exact Or.inl ⟨b, congrArg Prod.fst hq⟩
  have Y1 := hy_run (j := 63) (by decide) r Y
  have t := ev_ty z63s_at r
  rcases v with _ | x | x | x
  · cases t
  · rcases t with t | ⟨t, -⟩ <;> cases t
  rotate_left
  · cases t
  replace h := ei_p h rfl rfl rfl rfl
  obtain ⟨f, g, h⟩ := h
  exact w61t Y1 h
theorem w61_13 {σ σ' : mS} {i : Nat} {w : mX} (Y : hy (fun _ => 0) σ) (h0 : m_get σ 1 i 0 = .inl (Int32.ofInt 13)) (h : ev_run sm_all 61 [rf 4 0, rf 1 i] σ w σ') : (∃ b, w = .inr b) ∨ tz σ' := by
  obtain ⟨F, f, h⟩ := ei_go h z61s_at
  replace h := ei_p h rfl rfl rfl rfl
  obtain ⟨f, g, h⟩ := h
  replace h := ei_get h rfl h0
  obtain ⟨f, g, h⟩ := h
  replace h := ei_p h rfl rfl rfl rfl
  obtain ⟨f, g, h⟩ := h
  replace h := ei_p h rfl rfl rfl rfl
  obtain ⟨f, g, h⟩ := h
  replace h := ei_p h rfl rfl rfl rfl
  obtain ⟨f, g, h⟩ := h
  replace h := ei_v (as := [rf 1 i]) h rfl rfl rfl
  obtain ⟨x, τ, r, ⟨v, rfl, f, g, h⟩ | ⟨b, rfl, hq⟩⟩ := h
  rotate_left
  · exact Or.inl ⟨b, congrArg Prod.fst hq⟩
  have Y1 := hy_run (j := 63) (by decide) r Y
  have t := ev_ty z63s_at r
  rcases v with _ | x | x | x
  · cases t
  · rcases t with t | ⟨t, -⟩ <;> cases t
  rotate_left
  · cases t
  replace h := ei_p h rfl rfl rfl rfl
  obtain ⟨f, g, h⟩ := h
  exact w61t Y1 h
theorem w61_14 {σ σ' : mS} {i : Nat} {w : mX} (Y : hy (fun _ => 0) σ) (h0 : m_get σ 1 i 0 = .inl (Int32.ofInt 14)) (h : ev_run sm_all 61 [rf 4 0, rf 1 i] σ w σ') : (∃ b, w = .inr b) ∨ tz σ' := by
  obtain ⟨F, f, h⟩ := ei_go h z61s_at
  replace h := ei_p h rfl rfl rfl rfl
  obtain ⟨f, g, h⟩ := h
  replace h := ei_get h rfl h0
  obtain ⟨f, g, h⟩ := h
  replace h := ei_p h rfl rfl rfl rfl
  obtain ⟨f, g, h⟩ := h
  replace h := ei_p h rfl rfl rfl rfl
  obtain ⟨f, g, h⟩ := h
  replace h := ei_p h rfl rfl rfl rfl
  obtain ⟨f, g, h⟩ := h
  obtain ⟨a1, h1⟩ := gt_i (c := 1) (k := 1) rfl σ i
  replace h := ei_get h rfl h1
  obtain ⟨f, g, h⟩ := h
  replace h := ei_v (as := [.inl a1]) h rfl rfl rfl
  obtain ⟨x, τ, r, ⟨v, rfl, f, g, h⟩ | ⟨b, rfl, hq⟩⟩ := h
  rotate_left
  · exact Or.inl ⟨b, congrArg Prod.fst hq⟩
  have Y1 := hy_run (j := 76) (by decide) r Y
  have t := ev_ty z76s_at r
  rcases v with _ | x | x | x
  · cases t
  rotate_left
  · cases t
  · cases t
  replace h := ei_p h rfl rfl rfl rfl
  obtain ⟨f, g, h⟩ := h
  replace h := ei_p h rfl rfl rfl rfl
  obtain ⟨f, g, h⟩ := h
  replace h := ei_p h rfl rfl rfl rfl
  obtain ⟨f, g, h⟩ := h
  exact w61t Y1 h
theorem w61_15 {σ σ' : mS} {i : Nat} {w : mX} (Y : hy (fun _ => 0) σ) (h0 : m_get σ 1 i 0 = .inl (Int32.ofInt 15)) (h : ev_run sm_all 61 [rf 4 0, rf 1 i] σ w σ') : (∃ b, w = .inr b) ∨ tz σ' := by
  obtain ⟨F, f, h⟩ := ei_go h z61s_at
  replace h := ei_p h rfl rfl rfl rfl
  obtain ⟨f, g, h⟩ := h
  replace h := ei_get h rfl h0
  obtain ⟨f, g, h⟩ := h
  replace h := ei_p h rfl rfl rfl rfl
  obtain ⟨f, g, h⟩ := h
  replace h := ei_p h rfl rfl rfl rfl
  obtain ⟨f, g, h⟩ := h
  replace h := ei_p h rfl rfl rfl rfl
  obtain ⟨f, g, h⟩ := h
  replace h := ei_v (as := [rf 1 i]) h rfl rfl rfl
  obtain ⟨x, τ, r, ⟨v, rfl, f, g, h⟩ | ⟨b, rfl, hq⟩⟩ := h
  rotate_left
  · exact Or.inl ⟨b, congrArg Prod.fst hq⟩
  have Y1 := hy_run (j := 63) (by decide) r Y
  have t := ev_ty z63s_at r
  rcases v with _ | x | x | x
  · cases t
  · rcases t with t | ⟨t, -⟩ <;> cases t
  rotate_left
  · cases t
  replace h := ei_p h rfl rfl rfl rfl
  obtain ⟨f, g, h⟩ := h
  exact w61t Y1 h
theorem w61_16 {σ σ' : mS} {i : Nat} {w : mX} (Y : hy (fun _ => 0) σ) (h0 : m_get σ 1 i 0 = .inl (Int32.ofInt 16)) (h : ev_run sm_all 61 [rf 4 0, rf 1 i] σ w σ') : (∃ b, w = .inr b) ∨ tz σ' := by
  obtain ⟨F, f, h⟩ := ei_go h z61s_at
  replace h := ei_p h rfl rfl rfl rfl
  obtain ⟨f, g, h⟩ := h
  replace h := ei_get h rfl h0
  obtain ⟨f, g, h⟩ := h
  replace h := ei_p h rfl rfl rfl rfl
  obtain ⟨f, g, h⟩ := h
  replace h := ei_p h rfl rfl rfl rfl
  obtain ⟨f, g, h⟩ := h
  replace h := ei_p h rfl rfl rfl rfl
  obtain ⟨f, g, h⟩ := h
  replace h := ei_v (as := [rf 1 i]) h rfl rfl rfl
  obtain ⟨x, τ, r, ⟨v, rfl, f, g, h⟩ | ⟨b, rfl, hq⟩⟩ := h
  rotate_left
  · exact Or.inl ⟨b, congrArg Prod.fst hq⟩
  have Y1 := hy_run (j := 63) (by decide) r Y
  have t := ev_ty z63s_at r
  rcases v with _ | x | x | x
  · cases t
  · rcases t with t | ⟨t, -⟩ <;> cases t
  rotate_left
  · cases t
  replace h := ei_p h rfl rfl rfl rfl
  obtain ⟨f, g, h⟩ := h
  exact w61t Y1 h
theorem w61s {σ σ' : mS} {i : Nat} {w : mX} {q : List (Int × Int)} (Y : hy (fun _ => 0) σ) (hq : q ∈ ar_fits) (hf : ar_fit σ i 0 q) (h : ev_run sm_all 61 [rf 4 0, rf 1 i] σ w σ') : (∃ b, w = .inr b) ∨ tz σ' := by
  have key : ∀ {κ : Int} {t : List (Int × Int)}, -100 < κ → κ < 100 → ar_fit σ i 0 ((κ, κ) :: t) → m_get σ 1 i 0 = .inl (Int32.ofInt κ) := by
    intro κ t k1 k2 hf
    obtain ⟨⟨y, y1, y2, y3⟩, -⟩ := hf
    have y2 : κ ≤ y.toInt := y2
    have y3 : y.toInt ≤ κ := y3
    rw [y1]
    have e : y = Int32.ofInt κ := by
      have e1 : y.toInt = κ := by omega
      rw [← e1, Int32.ofInt_toInt]
    rw [e]
  unfold ar_fits at hq
  simp only [List.mem_cons, List.mem_nil_iff, or_false] at hq
  rcases hq with rfl | rfl | rfl | rfl | rfl | rfl | rfl | rfl | rfl | rfl | rfl | rfl | rfl | rfl | rfl | rfl | rfl
  · exact w61_0 Y (key (by decide) (by decide) hf) h
  · exact w61_1 Y (key (by decide) (by decide) hf) h
  · exact w61_2 Y (key (by decide) (by decide) hf) h
  · exact w61_3 Y (key (by decide) (by decide) hf) h
  · exact w61_4 Y (key (by decide) (by decide) hf) h
  · exact w61_5 Y (key (by decide) (by decide) hf) h
  · exact w61_6 Y (key (by decide) (by decide) hf) h
  · exact w61_7 Y (key (by decide) (by decide) hf) h
  · exact w61_8 Y (key (by decide) (by decide) hf) h
  · exact w61_9 Y (key (by decide) (by decide) hf) h
  · exact w61_10 Y (key (by decide) (by decide) hf) h
  · exact w61_11 Y (key (by decide) (by decide) hf) h
  · exact w61_12 Y (key (by decide) (by decide) hf) h
  · exact w61_13 Y (key (by decide) (by decide) hf) h
  · exact w61_14 Y (key (by decide) (by decide) hf) h
  · exact w61_15 Y (key (by decide) (by decide) hf) h
  · exact w61_16 Y (key (by decide) (by decide) hf) h
