/-! ahead of the loop: all is held, and no answer is no -/
abbrev IVt : mS → Prop := fun _ => True
theorem IVt_c : IVc IVt := ⟨fun _ _ _ _ _ _ _ _ _ _ => trivial, fun _ _ _ _ _ _ => trivial⟩
set_option maxRecDepth 100000 in
theorem e35 {C : ec_C} (hC : CK C) {f : Nat} {y7 y8 y9 y10 y11 y12 y13 y14 y15 y16 y17 : Option mV} {τ : mS} {q : mX × mS} (hp : PB τ) (h : EC C f 18 ab_main 35 [some (rf 98 (0)), some (rf 11 (0)), some (rf 13 (14)), some (rf 13 (15)), some (rf 13 (16)), some (rf 13 (17)), some (rf 14 (6)), y7, y8, y9, y10, y11, y12, y13, y14, y15, y16, y17] [] τ q) : ∃ (v : Int32) (σ2 : mS), ev_run sm_all 157 [rf 11 0] τ (.inl (some (.inl v))) σ2 ∧ v.toInt ≠ 0 ∧ sF τ σ2 ∧ gF τ σ2 ∧ HL σ2 := by
  have hl : HL τ := ⟨hp.1.1.1, hp.2.2.gh⟩
  replace h := ec_p h rfl rfl rfl rfl
  obtain ⟨f, -, h⟩ := h
  replace h : EC C f 18 ab_main 36 [some (rf 98 (0)), some (rf 11 (0)), some (rf 13 (14)), some (rf 13 (15)), some (rf 13 (16)), some (rf 13 (17)), some (rf 14 (6)), y7, y8, y9, y10, y11, y12, y13, y14, y15, y16, y17] [rf 11 (0)] τ q := h
  replace h := cx_I hC (ec_v (as := []) h rfl rfl rfl) rfl z141_at (Or.inl rfl)
  rcases h with ⟨v1, σ2, r3, f, g, h⟩ | ⟨b, σ2, r3, e⟩
  rotate_left
  · obtain ⟨_, z⟩ := nt_run rfl r3
    cases z
  have er3 := ro2_run rfl r3
  rw [er3] at h r3
  have p4 := x141 hl.1 r3
  replace h : EC C f 18 ab_main 39 [some (rf 98 (0)), some (rf 11 (0)), some (rf 13 (14)), some (rf 13 (15)), some (rf 13 (16)), some (rf 13 (17)), some (rf 14 (6)), y7, y8, y9, y10, y11, y12, y13, y14, y15, y16, y17] [.inl (v1)] τ q := h
  replace h := ec_c h rfl rfl rfl
  rcases h with ⟨hp5, f, g, h⟩ | ⟨hp5, f, g, h⟩
  · refine absurd ?_ (ic_ne.mp hp5)
    rw [p4.1]
    exact hp.2.1
  replace h : EC C f 18 ab_main 42 [some (rf 98 (0)), some (rf 11 (0)), some (rf 13 (14)), some (rf 13 (15)), some (rf 13 (16)), some (rf 13 (17)), some (rf 14 (6)), y7, y8, y9, y10, y11, y12, y13, y14, y15, y16, y17] [] τ q := h
  replace h := ec_p h rfl rfl rfl rfl
  obtain ⟨f, -, h⟩ := h
  replace h : EC C f 18 ab_main 43 [some (rf 98 (0)), some (rf 11 (0)), some (rf 13 (14)), some (rf 13 (15)), some (rf 13 (16)), some (rf 13 (17)), some (rf 14 (6)), y7, y8, y9, y10, y11, y12, y13, y14, y15, y16, y17] [rf 11 0] τ q := h
  obtain ⟨x, σ2, e, -⟩ := ec_v (as := []) (p := (11, 0)) h rfl rfl rfl
  obtain ⟨v, -, r, hv, hs, hg, h2⟩ := r157 hC hl e
  exact ⟨v, σ2, r, hv, hs, hg, h2⟩
theorem s35 {G : Prop} {w : mX} {τ σ' : mS} (hp : PB τ) (hr : ∃ (v : Int32) (σ2 : mS), ev_run sm_all 157 [rf 11 0] τ (.inl (some (.inl v))) σ2 ∧ v.toInt ≠ 0 ∧ PB σ2) (q : T35 (Z162 IVt G) τ w σ') : G := by
  obtain ⟨v1, p1, q⟩ := q
  rcases q with ⟨a, _⟩ | ⟨_, v6, σ7, r, q⟩
  · exact absurd (by rw [p1.1]; exact hp.2.1) a
  obtain ⟨v2, σ2, r2, hv, h7⟩ := hr
  obtain ⟨ex, es⟩ := run_fn r r2
  cases ex
  subst es
  clear hp p1 r r2
  replace q := q ⟨h7.1.1.1, h7.2.2.gh⟩
  rcases q with ⟨a, _⟩ | ⟨_, v11, σ12, _, _, _, p, q⟩
  · exact absurd a hv
  obtain ⟨y, p', _, _, ev⟩ := d172_21 (by decide) p
  obtain ⟨es, ⟨_, ey⟩ | ⟨b, _⟩⟩ := a149 h7.1.1 p'
  rotate_left
  · exact absurd b.2 (by decide)
  subst es
  rcases q with ⟨a, _⟩ | ⟨_, v16, σ17, _, _, _, p2, q⟩
  · exact absurd (by rw [ev, ey]; exact hv0.trans litA.symm) a
  clear p p' ev ey y
  obtain ⟨y, p', _, _, ev⟩ := d172_19 (by decide) p2
  obtain ⟨es, ⟨_, ey⟩ | ⟨b, _⟩⟩ := a144 h7.1.1 p'
  rotate_left
  · exact absurd b.1.1 (by decide)
  subst es
  rcases q with ⟨a, _⟩ | ⟨_, v21, σ22, _, _, _, p3, q⟩
  · exact absurd (by rw [ev, ey]; exact hv0.trans litA.symm) a
  clear p2 p' ev ey y
  obtain ⟨y, p', _, _, ev⟩ := d172_20 (by decide) p3
  obtain ⟨es, ⟨b, _⟩ | ⟨_, ⟨_, ey⟩ | ⟨b, _⟩⟩⟩ := a145 p'
  · exact absurd ⟨by decide, by decide⟩ b
  rotate_left
  · exact absurd b.2 (by decide)
  subst es
  rcases q with ⟨a, _⟩ | ⟨_, v26, σ27, _, _, _, p4, q⟩
  · exact absurd (by rw [ev, ey]; exact hv1.trans litB.symm) a
  clear p3 p' ev ey y
  obtain ⟨y, p', _, _, ev⟩ := d172_22 (by decide) p4
  obtain ⟨es, ⟨b, _⟩ | ⟨_, ⟨_, ey⟩ | ⟨b, _⟩⟩⟩ := a133 h7.1.1 p'
  · exact absurd ⟨by decide, by decide⟩ b
  rotate_left
  · exact absurd b.2.2 (by decide)
  subst es
  rcases q with ⟨a, _⟩ | ⟨_, v31, σ32, _, _, _, p5, q⟩
  · exact absurd (by rw [ev, ey]; exact hv1.trans litB.symm) a
  clear p4 p' ev ey y
  obtain ⟨y, p', _, _, ev⟩ := d172_23 (by decide) p5
  obtain ⟨es, ⟨_, ey⟩ | ⟨b, _⟩⟩ := a132 h7.1.1 p'
  rotate_left
  · exact absurd b.2 (by decide)
  subst es
  rcases q with ⟨a, _⟩ | ⟨_, q⟩
  · exact absurd (by rw [ev, ey]; exact hv0.trans litA.symm) a
  exact q (by decide) ⟨by decide, by decide⟩ ⟨1, 0, 0, _, h7.1, h7.2.2, trivial, by decide, by decide, Int.le_refl 0⟩
/-- the law's own run, whatever its pieces are: it answers yes, or ends at a turn's head, where all is held -/
theorem b_all {C : ec_C} (hC : CK C) {f : Nat} {σ0 : mS} {w : mX} {σ' : mS} (c0 : ∀ c, c ≠ 98 → σ0.1 c = 0) (r0 : ∀ c i k, m_r σ0 c i k = none) (h : EC C f 18 ab_main 0 [some (rf 98 0), none, none, none, none, none, none, none, none, none, none, none, none, none, none, none, none, none] [] σ0 (w, σ')) : OKw w ∨ ∃ t : Int, 0 ≤ t ∧ t ≤ 61 ∧ PS IVt t σ' := by
  obtain ⟨τ, n, nd, f', h⟩ := t0 (fun _ _ _ _ h => hC.1 _ _ _ _ _ (by decide) h) c0 r0 h
  obtain ⟨hp, -, hP⟩ := pb n nd rfl rfl rfl rfl rfl
  obtain ⟨v, σ2, r, hv, hs, hg, _⟩ := e35 hC hp h
  exact s35 hp ⟨v, σ2, r, hv, hP σ2 hs hg⟩ (t35 hC (LPs_all hC IVt_c Or.inl (fun t a b p => Or.inr ⟨t, a, b, p⟩) (f' + 1)).1 f' (Nat.lt_succ_of_lt (Nat.lt_succ_self f')) _ _ _ _ _ _ _ _ _ _ _ _ ⟨hp.1.1.1, hp.2.2.gh⟩ h)
