/-! runs backwards -/
/-- an order is added, or nothing is done -/
theorem w4s {σ σ' : mS} {a b c d e : Int32} {w : mX} (Y : hy (fun _ => 0) σ) (h : ev_run sm_all 4 [rf 0 0, .inl a, .inl b, .inl c, .inl d, .inl e] σ w σ') : (w = .inl (some (.inr (.inr none))) ∧ σ' = σ) ∨ ∃ k, k < 120 ∧ w = .inl (some (rf 7 k)) := by
  obtain ⟨F, f, h⟩ := ei_go h z4s_at
  obtain ⟨y, hy⟩ := gt_i (c := 0) (k := 1) rfl σ 0
  have e19 : ∀ f, EV F f 4 z4s 19 [some (rf 0 0), some (.inl a), some (.inl b), some (.inl c), some (.inl d), some (.inl e), none] [] σ (w, σ') → w = .inl (some (.inr (.inr none))) ∧ σ' = σ := by
    intro f h
    replace h := ei_p h rfl rfl rfl rfl
    obtain ⟨f, g, h⟩ := h
    have e := ei_aret h rfl
    cases e
    exact ⟨rfl, rfl⟩
  replace h := ei_p h rfl rfl rfl rfl
  obtain ⟨f, g, h⟩ := h
  replace h := ei_get h rfl hy
  obtain ⟨f, g, h⟩ := h
  replace h := ei_c h rfl rfl rfl
  rcases h with ⟨hP, f, g, h⟩ | ⟨hP, f, g, h⟩
  · exact Or.inl (e19 f h)
  replace h := ei_p h rfl rfl rfl rfl
  obtain ⟨f, g, h⟩ := h
  replace h := ei_get h rfl hy
  obtain ⟨f, g, h⟩ := h
  replace h := ei_p h rfl rfl rfl rfl
  obtain ⟨f, g, h⟩ := h
  replace h := ei_get h rfl (y0_f Y).1
  obtain ⟨f, g, h⟩ := h
  replace h := ei_len h rfl (y0_l Y).1 (by decide)
  obtain ⟨f, g, h⟩ := h
  replace h := ei_c h rfl rfl rfl
  rcases h with ⟨hP, f, g, h⟩ | ⟨hP, f, g, h⟩
  rotate_left
  · exact Or.inl (e19 f h)
  replace h := ei_p h rfl rfl rfl rfl
  obtain ⟨f, g, h⟩ := h
  replace h := ei_get h rfl (y0_f Y).1
  obtain ⟨f, g, h⟩ := h
  replace h := ei_p h rfl rfl rfl rfl
  obtain ⟨f, g, h⟩ := h
  replace h := ei_get h rfl hy
  obtain ⟨f, g, h⟩ := h
  replace h := ei_ald h rfl (fun vp => (y0_o Y (by have := vp_lt vp; have e : σ.2.1 17 0 = 120 := (y0_l Y).1; rw [e] at this; exact this)).1)
  obtain ⟨vp, f, g, h⟩ := h
  have vl := vp_lt vp
  have e17 : σ.2.1 17 0 = 120 := (y0_l Y).1
  have vl : y.toNatClampNeg < σ.2.1 17 0 := vl
  rw [e17] at vl
  refine Or.inr ⟨y.toNatClampNeg, vl, ?_⟩
  replace h := ei_p h rfl rfl rfl rfl
  obtain ⟨f, g, h⟩ := h
  replace h := ei_p h rfl rfl rfl rfl
  obtain ⟨f, g, h⟩ := h
  replace h := ei_p h rfl rfl rfl rfl
  obtain ⟨f, g, h⟩ := h
  replace h := ei_get h rfl hy
  obtain ⟨f, g, h⟩ := h
  replace h := ei_p h rfl rfl rfl rfl
  obtain ⟨f, g, h⟩ := h
  replace h := ei_p h rfl rfl rfl rfl
  obtain ⟨f, g, h⟩ := h
  replace h := ei_put h rfl
  obtain ⟨t0, f, g, h⟩ := h
  replace h := ei_p h rfl rfl rfl rfl
  obtain ⟨f, g, h⟩ := h
  replace h := ei_p h rfl rfl rfl rfl
  obtain ⟨f, g, h⟩ := h
  replace h := ei_put h rfl
  obtain ⟨t1, f, g, h⟩ := h
  replace h := ei_p h rfl rfl rfl rfl
  obtain ⟨f, g, h⟩ := h
  replace h := ei_p h rfl rfl rfl rfl
  obtain ⟨f, g, h⟩ := h
  replace h := ei_put h rfl
  obtain ⟨t2, f, g, h⟩ := h
  replace h := ei_p h rfl rfl rfl rfl
  obtain ⟨f, g, h⟩ := h
  replace h := ei_p h rfl rfl rfl rfl
  obtain ⟨f, g, h⟩ := h
  replace h := ei_put h rfl
  obtain ⟨t3, f, g, h⟩ := h
  replace h := ei_p h rfl rfl rfl rfl
  obtain ⟨f, g, h⟩ := h
  replace h := ei_p h rfl rfl rfl rfl
  obtain ⟨f, g, h⟩ := h
  replace h := ei_put h rfl
  obtain ⟨t4, f, g, h⟩ := h
  replace h := ei_p h rfl rfl rfl rfl
  obtain ⟨f, g, h⟩ := h
  replace h := ei_p h rfl rfl rfl rfl
  obtain ⟨f, g, h⟩ := h
  replace h := ei_put h rfl
  obtain ⟨t5, f, g, h⟩ := h
  replace h := ei_p h rfl rfl rfl rfl
  obtain ⟨f, g, h⟩ := h
  replace h := ei_p h rfl rfl rfl rfl
  obtain ⟨f, g, h⟩ := h
  replace h := ei_put h rfl
  obtain ⟨t6, f, g, h⟩ := h
  replace h := ei_p h rfl rfl rfl rfl
  obtain ⟨f, g, h⟩ := h
  replace h := ei_p h rfl rfl rfl rfl
  obtain ⟨f, g, h⟩ := h
  replace h := ei_put h rfl
  obtain ⟨t7, f, g, h⟩ := h
  replace h := ei_p h rfl rfl rfl rfl
  obtain ⟨f, g, h⟩ := h
  replace h := ei_p h rfl rfl rfl rfl
  obtain ⟨f, g, h⟩ := h
  replace h := ei_put h rfl
  obtain ⟨t8, f, g, h⟩ := h
  replace h := ei_p h rfl rfl rfl rfl
  obtain ⟨f, g, h⟩ := h
  replace h := ei_p h rfl rfl rfl rfl
  obtain ⟨f, g, h⟩ := h
  replace h := ei_put h rfl
  obtain ⟨t9, f, g, h⟩ := h
  replace h := ei_p h rfl rfl rfl rfl
  obtain ⟨f, g, h⟩ := h
  replace h := ei_p h rfl rfl rfl rfl
  obtain ⟨f, g, h⟩ := h
  replace h := ei_put h rfl
  obtain ⟨t10, f, g, h⟩ := h
  replace h := ei_p h rfl rfl rfl rfl
  obtain ⟨f, g, h⟩ := h
  replace h := ei_p h rfl rfl rfl rfl
  obtain ⟨f, g, h⟩ := h
  replace h := ei_put h rfl
  obtain ⟨t11, f, g, h⟩ := h
  replace h := ei_p h rfl rfl rfl rfl
  obtain ⟨f, g, h⟩ := h
  replace h := ei_p h rfl rfl rfl rfl
  obtain ⟨f, g, h⟩ := h
  replace h := ei_put h rfl
  obtain ⟨t12, f, g, h⟩ := h
  replace h := ei_p h rfl rfl rfl rfl
  obtain ⟨f, g, h⟩ := h
  exact congrArg Prod.fst (ei_aret h rfl)
set_option maxHeartbeats 2000000 in
/-- an order comes: refused, nothing is changed; else its number is given back -/
theorem w64s {σ σ' : mS} {i : Nat} {w : mX} (Y : hy (fun _ => 0) σ) (h : ev_run sm_all 64 [rf 4 0, rf 1 i] σ w σ') : (w = .inl (some (.inl (Int32.ofInt (-1)))) ∧ σ' = σ) ∨ (∃ k, k < 120 ∧ w = .inl (some (.inl (Int32.ofNat k)))) ∨ ∃ b, w = .inr b := by
  obtain ⟨F, f, h00⟩ := ei_go h z64s_at
  clear h
  obtain ⟨ya, ha⟩ := gt_i (c := 1) (k := 1) rfl σ i
  obtain ⟨yb, hb⟩ := gt_i (c := 1) (k := 2) rfl σ i
  obtain ⟨yc, hc⟩ := gt_i (c := 1) (k := 3) rfl σ i
  obtain ⟨yd, hd⟩ := gt_i (c := 1) (k := 4) rfl σ i
  obtain ⟨ye, he⟩ := gt_i (c := 1) (k := 5) rfl σ i
  obtain ⟨yg, hg⟩ := gt_i (c := 1) (k := 7) rfl σ i
  have e86 : ∀ f l8, EV F f 64 z64s 86 [some (rf 4 0), some (rf 1 i), some (.inl ya), some (.inl yb), some (.inl yc), some (.inl yd), some (.inl ye), some (.inl yg), l8] [] σ (w, σ') → w = .inl (some (.inl (Int32.ofInt (-1)))) ∧ σ' = σ := by
    intro f l8 h
    replace h := ei_p h rfl rfl rfl rfl
    obtain ⟨f, g, h⟩ := h
    replace h : EV F f 64 z64s 87 _ _ _ _ := h
    have e := ei_iret h rfl
    cases e
    exact ⟨rfl, rfl⟩
  have e152 : ∀ f (k : Nat) (x : Int32) (τ : mS), k < 120 → hy (fun _ => 0) τ → EV F f 64 z64s 152 [some (rf 4 0), some (rf 1 i), some (.inl ya), some (.inl yb), some (.inl yc), some (.inl yd), some (.inl ye), some (.inl yg), some (rf 7 k)] [.inl x, rf 7 k, rf 4 0] τ (w, σ') → (∃ k, k < 120 ∧ w = .inl (some (.inl (Int32.ofNat k)))) ∨ ∃ b, w = .inr b := by
    intro f k x τ hk Y h
    replace h := ei_v (as := [.inl x, rf 7 k]) h rfl rfl rfl
    obtain ⟨x, υ, r66, ⟨v, rfl, f, g, h⟩ | ⟨b, rfl, hq⟩⟩ := h
    rotate_left
    · exact Or.inr ⟨b, congrArg Prod.fst hq⟩
    have Y3 := hy_run (j := 66) (by decide) r66 Y
    have t := ev_ty z66s_at r66
    rcases v with _ | x | x | x
    rotate_left
    · rcases t with t | ⟨t, -⟩ <;> cases t
    · cases t
    · cases t
    replace h := ei_p h rfl rfl rfl rfl
    obtain ⟨f, g, h⟩ := h
    replace h : EV F f 64 z64s 157 _ _ _ _ := h
    replace h := ei_get h rfl (y0_o Y3 hk).2
    obtain ⟨f, g, h⟩ := h
    replace h : EV F f 64 z64s 160 _ _ _ _ := h
    exact Or.inl ⟨k, hk, congrArg Prod.fst (ei_iret h rfl)⟩
  have e88 : ∀ f l8, EV F f 64 z64s 88 [some (rf 4 0), some (rf 1 i), some (.inl ya), some (.inl yb), some (.inl yc), some (.inl yd), some (.inl ye), some (.inl yg), l8] [] σ (w, σ') → (w = .inl (some (.inl (Int32.ofInt (-1)))) ∧ σ' = σ) ∨ (∃ k, k < 120 ∧ w = .inl (some (.inl (Int32.ofNat k)))) ∨ ∃ b, w = .inr b := by
    intro f l8 h
    replace h := ei_p h rfl rfl rfl rfl
    obtain ⟨f, g, h⟩ := h
    replace h : EV F f 64 z64s 89 _ _ _ _ := h
    replace h := ei_get h rfl (y0_f Y).2.1
    obtain ⟨f, g, h⟩ := h
    replace h : EV F f 64 z64s 92 _ _ _ _ := h
    replace h := ei_p h rfl rfl rfl rfl
    obtain ⟨f, g, h⟩ := h
    replace h : EV F f 64 z64s 93 _ _ _ _ := h
    replace h := ei_p h rfl rfl rfl rfl
    obtain ⟨f, g, h⟩ := h
    replace h : EV F f 64 z64s 94 _ _ _ _ := h
    replace h := ei_p h rfl rfl rfl rfl
    obtain ⟨f, g, h⟩ := h
    replace h : EV F f 64 z64s 96 _ _ _ _ := h
    replace h := ei_p h rfl rfl rfl rfl
    obtain ⟨f, g, h⟩ := h
    replace h : EV F f 64 z64s 98 _ _ _ _ := h
    replace h := ei_p h rfl rfl rfl rfl
    obtain ⟨f, g, h⟩ := h
    replace h : EV F f 64 z64s 100 _ _ _ _ := h
    replace h := ei_v (as := [.inl ye, .inl yd, .inl yc, .inl yb, .inl ya]) h rfl rfl rfl
    obtain ⟨x, τ, r4, ⟨v, rfl, f, g, h⟩ | ⟨b, rfl, hq⟩⟩ := h
    rotate_left
    · exact Or.inr (Or.inr ⟨b, congrArg Prod.fst hq⟩)
    rcases w4s Y r4 with ⟨e1, e2⟩ | ⟨k, hk, e1⟩
    · cases e1
      subst e2
      replace h := ei_p h rfl rfl rfl rfl
      obtain ⟨f, g, h⟩ := h
      replace h : EV F f 64 z64s 105 _ _ _ _ := h
      replace h := ei_p h rfl rfl rfl rfl
      obtain ⟨f, g, h⟩ := h
      replace h : EV F f 64 z64s 107 _ _ _ _ := h
      replace h := ei_c h rfl rfl rfl
      rcases h with ⟨hP, f, g, h⟩ | ⟨hP, f, g, h⟩
      · exact absurd rfl hP
      replace h := ei_p h rfl rfl rfl rfl
      obtain ⟨f, g, h⟩ := h
      replace h : EV F f 64 z64s 111 _ _ _ _ := h
      have e := ei_iret h rfl
      cases e
      exact Or.inl ⟨rfl, rfl⟩
    cases e1
    have Y1 := hy_run (j := 4) (by decide) r4 Y
    replace h := ei_p h rfl rfl rfl rfl
    obtain ⟨f, g, h⟩ := h
    replace h : EV F f 64 z64s 105 _ _ _ _ := h
    replace h := ei_p h rfl rfl rfl rfl
    obtain ⟨f, g, h⟩ := h
    replace h : EV F f 64 z64s 107 _ _ _ _ := h
    replace h := ei_c h rfl rfl rfl
    rcases h with ⟨hP, f, g, h⟩ | ⟨hP, f, g, h⟩
    rotate_left
    · exact absurd (fun z => by cases z) hP
    replace h : EV F f 64 z64s 112 [some (rf 4 0), some (rf 1 i), some (.inl ya), some (.inl yb), some (.inl yc), some (.inl yd), some (.inl ye), some (.inl yg), some (rf 7 k)] [] _ _ := h
    replace h := ei_p h rfl rfl rfl rfl
    obtain ⟨f, g, h⟩ := h
    replace h : EV F f 64 z64s 114 _ _ _ _ := h
    replace h := ei_p h rfl rfl rfl rfl
    obtain ⟨f, g, h⟩ := h
    replace h : EV F f 64 z64s 115 _ _ _ _ := h
    obtain ⟨yf, hf6⟩ := gt_i (c := 1) (k := 6) rfl τ i
    replace h := ei_get h rfl hf6
    obtain ⟨f, g, h⟩ := h
    replace h : EV F f 64 z64s 118 _ _ _ _ := h
    replace h := ei_put h rfl
    obtain ⟨t1, f, g, h⟩ := h
    replace h : EV F f 64 z64s 121 _ _ _ _ := h
    have Y2 := hy_K Y1 (eqK_set (c := 7) (j := k) (k := 5) (x := .inl yf) rfl)
    replace h := ei_p h rfl rfl rfl rfl
    obtain ⟨f, g, h⟩ := h
    replace h : EV F f 64 z64s 123 _ _ _ _ := h
    replace h := ei_p h rfl rfl rfl rfl
    obtain ⟨f, g, h⟩ := h
    replace h : EV F f 64 z64s 124 _ _ _ _ := h
    replace h := ei_get h rfl (y0_f Y2).2.2.1
    obtain ⟨f, g, h⟩ := h
    replace h : EV F f 64 z64s 127 _ _ _ _ := h
    obtain ⟨y7, hy7⟩ := gt_i (c := 2) (k := 7) rfl (m_set τ 7 k 5 (.inl yf)) 0
    replace h := ei_get h rfl hy7
    obtain ⟨f, g, h⟩ := h
    replace h : EV F f 64 z64s 130 _ _ _ _ := h
    replace h := ei_put h rfl
    obtain ⟨t2, f, g, h⟩ := h
    replace h : EV F f 64 z64s 133 _ _ _ _ := h
    have Y3 := hy_K Y2 (eqK_set (c := 7) (j := k) (k := 10) (x := .inl y7) rfl)
    refine Or.inr ?_
    replace h := ei_p h rfl rfl rfl rfl
    obtain ⟨f, g, h⟩ := h
    replace h : EV F f 64 z64s 134 _ _ _ _ := h
    replace h := ei_p h rfl rfl rfl rfl
    obtain ⟨f, g, h⟩ := h
    replace h : EV F f 64 z64s 136 _ _ _ _ := h
    replace h := ei_p h rfl rfl rfl rfl
    obtain ⟨f, g, h⟩ := h
    replace h : EV F f 64 z64s 138 _ _ _ _ := h
    replace h := ei_c h rfl rfl rfl
    rcases h with ⟨hP, f, g, h⟩ | ⟨hP, f, g, h⟩
    · skip
      replace h := ei_p h rfl rfl rfl rfl
      obtain ⟨f, g, h⟩ := h
      replace h : EV F f 64 z64s 148 _ _ _ _ := h
      replace h := ei_p h rfl rfl rfl rfl
      obtain ⟨f, g, h⟩ := h
      replace h : EV F f 64 z64s 152 _ _ _ _ := h
      exact e152 f k _ _ hk Y3 h
    replace h := ei_p h rfl rfl rfl rfl
    obtain ⟨f, g, h⟩ := h
    replace h : EV F f 64 z64s 143 _ _ _ _ := h
    replace h := ei_p h rfl rfl rfl rfl
    obtain ⟨f, g, h⟩ := h
    replace h : EV F f 64 z64s 144 _ _ _ _ := h
    replace h := ei_c h rfl rfl rfl
    rcases h with ⟨hP, f, g, h⟩ | ⟨hP, f, g, h⟩
    · skip
      replace h := ei_p h rfl rfl rfl rfl
      obtain ⟨f, g, h⟩ := h
      replace h : EV F f 64 z64s 152 _ _ _ _ := h
      exact e152 f k _ _ hk Y3 h
    replace h := ei_p h rfl rfl rfl rfl
    obtain ⟨f, g, h⟩ := h
    replace h : EV F f 64 z64s 148 _ _ _ _ := h
    replace h := ei_p h rfl rfl rfl rfl
    obtain ⟨f, g, h⟩ := h
    replace h : EV F f 64 z64s 152 _ _ _ _ := h
    exact e152 f k _ _ hk Y3 h
  have h := h00
  clear h00
  replace h := ei_p h rfl rfl rfl rfl
  obtain ⟨f, g, h⟩ := h
  replace h : EV F f 64 z64s 1 _ _ _ _ := h
  replace h := ei_get h rfl ha
  obtain ⟨f, g, h⟩ := h
  replace h : EV F f 64 z64s 4 _ _ _ _ := h
  replace h := ei_p h rfl rfl rfl rfl
  obtain ⟨f, g, h⟩ := h
  replace h : EV F f 64 z64s 5 _ _ _ _ := h
  replace h : EV F f 64 z64s 5 [some (rf 4 0), some (rf 1 i), some (.inl ya), none, none, none, none, none, none] [] _ _ := h
  replace h := ei_p h rfl rfl rfl rfl
  obtain ⟨f, g, h⟩ := h
  replace h : EV F f 64 z64s 6 _ _ _ _ := h
  replace h := ei_get h rfl hb
  obtain ⟨f, g, h⟩ := h
  replace h : EV F f 64 z64s 9 _ _ _ _ := h
  replace h := ei_p h rfl rfl rfl rfl
  obtain ⟨f, g, h⟩ := h
  replace h : EV F f 64 z64s 10 _ _ _ _ := h
  replace h : EV F f 64 z64s 10 [some (rf 4 0), some (rf 1 i), some (.inl ya), some (.inl yb), none, none, none, none, none] [] _ _ := h
  replace h := ei_p h rfl rfl rfl rfl
  obtain ⟨f, g, h⟩ := h
  replace h : EV F f 64 z64s 11 _ _ _ _ := h
  replace h := ei_get h rfl hc
  obtain ⟨f, g, h⟩ := h
  replace h : EV F f 64 z64s 14 _ _ _ _ := h
  replace h := ei_p h rfl rfl rfl rfl
  obtain ⟨f, g, h⟩ := h
  replace h : EV F f 64 z64s 16 _ _ _ _ := h
  replace h : EV F f 64 z64s 16 [some (rf 4 0), some (rf 1 i), some (.inl ya), some (.inl yb), some (.inl yc), none, none, none, none] [] _ _ := h
  replace h := ei_p h rfl rfl rfl rfl
  obtain ⟨f, g, h⟩ := h
  replace h : EV F f 64 z64s 17 _ _ _ _ := h
  replace h := ei_get h rfl hd
  obtain ⟨f, g, h⟩ := h
  replace h : EV F f 64 z64s 20 _ _ _ _ := h
  replace h := ei_p h rfl rfl rfl rfl
  obtain ⟨f, g, h⟩ := h
  replace h : EV F f 64 z64s 22 _ _ _ _ := h
  replace h : EV F f 64 z64s 22 [some (rf 4 0), some (rf 1 i), some (.inl ya), some (.inl yb), some (.inl yc), some (.inl yd), none, none, none] [] _ _ := h
  replace h := ei_p h rfl rfl rfl rfl
  obtain ⟨f, g, h⟩ := h
  replace h : EV F f 64 z64s 23 _ _ _ _ := h
  replace h := ei_get h rfl he
  obtain ⟨f, g, h⟩ := h
  replace h : EV F f 64 z64s 26 _ _ _ _ := h
  replace h := ei_p h rfl rfl rfl rfl
  obtain ⟨f, g, h⟩ := h
  replace h : EV F f 64 z64s 28 _ _ _ _ := h
  replace h : EV F f 64 z64s 28 [some (rf 4 0), some (rf 1 i), some (.inl ya), some (.inl yb), some (.inl yc), some (.inl yd), some (.inl ye), none, none] [] _ _ := h
  replace h := ei_p h rfl rfl rfl rfl
  obtain ⟨f, g, h⟩ := h
  replace h : EV F f 64 z64s 29 _ _ _ _ := h
  replace h := ei_get h rfl hg
  obtain ⟨f, g, h⟩ := h
  replace h : EV F f 64 z64s 32 _ _ _ _ := h
  replace h := ei_p h rfl rfl rfl rfl
  obtain ⟨f, g, h⟩ := h
  replace h : EV F f 64 z64s 34 _ _ _ _ := h
  replace h : EV F f 64 z64s 34 [some (rf 4 0), some (rf 1 i), some (.inl ya), some (.inl yb), some (.inl yc), some (.inl yd), some (.inl ye), some (.inl yg), none] [] _ _ := h
  replace h := ei_p h rfl rfl rfl rfl
  obtain ⟨f, g, h⟩ := h
  replace h : EV F f 64 z64s 35 _ _ _ _ := h
  replace h := ei_get h rfl (y0_f Y).2.2.1
  obtain ⟨f, g, h⟩ := h
  replace h : EV F f 64 z64s 38 _ _ _ _ := h
  replace h := ei_p h rfl rfl rfl rfl
  obtain ⟨f, g, h⟩ := h
  replace h : EV F f 64 z64s 39 _ _ _ _ := h
  replace h := ei_v (as := [.inl yb]) h rfl rfl rfl
  obtain ⟨x, τ, r27, ⟨v, rfl, f, g, h⟩ | ⟨b, rfl, hq⟩⟩ := h
  rotate_left
  · exact Or.inr (Or.inr ⟨b, congrArg Prod.fst hq⟩)
  have eτ := ro_run (j := 27) rfl r27
  subst eτ
  have t := ev_ty z27s_at r27
  rcases v with _ | x | x | x
  · cases t
  rotate_left
  · cases t
  · cases t
  replace h := ei_c h rfl rfl rfl
  rcases h with ⟨hP, f, g, h⟩ | ⟨hP, f, g, h⟩
  · exact e88 f _ h
  replace h := ei_p h rfl rfl rfl rfl
  obtain ⟨f, g, h⟩ := h
  replace h : EV F f 64 z64s 46 _ _ _ _ := h
  replace h := ei_get h rfl (y0_f Y).2.1
  obtain ⟨f, g, h⟩ := h
  replace h : EV F f 64 z64s 49 _ _ _ _ := h
  replace h := ei_p h rfl rfl rfl rfl
  obtain ⟨f, g, h⟩ := h
  replace h : EV F f 64 z64s 50 _ _ _ _ := h
  replace h := ei_p h rfl rfl rfl rfl
  obtain ⟨f, g, h⟩ := h
  replace h : EV F f 64 z64s 51 _ _ _ _ := h
  replace h := ei_p h rfl rfl rfl rfl
  obtain ⟨f, g, h⟩ := h
  replace h : EV F f 64 z64s 53 _ _ _ _ := h
  replace h := ei_p h rfl rfl rfl rfl
  obtain ⟨f, g, h⟩ := h
  replace h : EV F f 64 z64s 54 _ _ _ _ := h
  replace h := ei_p h rfl rfl rfl rfl
  obtain ⟨f, g, h⟩ := h
  replace h : EV F f 64 z64s 56 _ _ _ _ := h
  replace h := ei_p h rfl rfl rfl rfl
  obtain ⟨f, g, h⟩ := h
  replace h : EV F f 64 z64s 57 _ _ _ _ := h
  replace h := ei_v (as := [.inl ya, .inl yd, .inl (Int32.ofInt 1 - yc), .inl yb]) h rfl rfl rfl
  obtain ⟨x8, υ, r8, ⟨v, rfl, f, g, h⟩ | ⟨b, rfl, hq⟩⟩ := h
  rotate_left
  · exact Or.inr (Or.inr ⟨b, congrArg Prod.fst hq⟩)
  have eτ := ro_run (j := 8) rfl r8
  subst eτ
  have t := ev_ty z8s_at r8
  rcases v with _ | x8 | x8 | x8
  · cases t
  rotate_left
  · cases t
  · cases t
  have e75 : ∀ f, EV F f 64 z64s 75 [some (rf 4 0), some (rf 1 i), some (.inl ya), some (.inl yb), some (.inl yc), some (.inl yd), some (.inl ye), some (.inl yg), some (.inl x8)] [] υ (w, σ') → (w = .inl (some (.inl (Int32.ofInt (-1)))) ∧ σ' = υ) ∨ (∃ k, k < 120 ∧ w = .inl (some (.inl (Int32.ofNat k)))) ∨ ∃ b, w = .inr b := by
    intro f h
    replace h := ei_p h rfl rfl rfl rfl
    obtain ⟨f, g, h⟩ := h
    replace h : EV F f 64 z64s 77 _ _ _ _ := h
    replace h := ei_p h rfl rfl rfl rfl
    obtain ⟨f, g, h⟩ := h
    replace h : EV F f 64 z64s 78 _ _ _ _ := h
    replace h := ei_c h rfl rfl rfl
    rcases h with ⟨hP, f, g, h⟩ | ⟨hP, f, g, h⟩
    · exact e88 f _ h
    replace h := ei_p h rfl rfl rfl rfl
    obtain ⟨f, g, h⟩ := h
    replace h : EV F f 64 z64s 83 _ _ _ _ := h
    replace h := ei_c h rfl rfl rfl
    rcases h with ⟨hP, f, g, h⟩ | ⟨hP, f, g, h⟩
    · exact e88 f _ h
    exact Or.inl (e86 f _ h)
  replace h := ei_p h rfl rfl rfl rfl
  obtain ⟨f, g, h⟩ := h
  replace h : EV F f 64 z64s 62 _ _ _ _ := h
  replace h : EV F f 64 z64s 62 [some (rf 4 0), some (rf 1 i), some (.inl ya), some (.inl yb), some (.inl yc), some (.inl yd), some (.inl ye), some (.inl yg), some (.inl x8)] [] _ _ := h
  replace h := ei_p h rfl rfl rfl rfl
  obtain ⟨f, g, h⟩ := h
  replace h : EV F f 64 z64s 64 _ _ _ _ := h
  replace h := ei_p h rfl rfl rfl rfl
  obtain ⟨f, g, h⟩ := h
  replace h : EV F f 64 z64s 65 _ _ _ _ := h
  replace h := ei_c h rfl rfl rfl
  rcases h with ⟨hP, f, g, h⟩ | ⟨hP, f, g, h⟩
  · exact e75 f h
  replace h := ei_p h rfl rfl rfl rfl
  obtain ⟨f, g, h⟩ := h
  replace h : EV F f 64 z64s 70 _ _ _ _ := h
  replace h := ei_p h rfl rfl rfl rfl
  obtain ⟨f, g, h⟩ := h
  replace h : EV F f 64 z64s 72 _ _ _ _ := h
  replace h := ei_c h rfl rfl rfl
  rcases h with ⟨hP, f, g, h⟩ | ⟨hP, f, g, h⟩
  · exact Or.inl (e86 f _ h)
  exact e75 f h
