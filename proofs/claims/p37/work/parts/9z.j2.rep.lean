/-! replays at the end of the loop -/
theorem HL_sF {σ σ' : mS} (h : HL σ) (hs : sF σ σ') (hg : gH σ') : HL σ' := by
  have G : ∀ {c j k : Nat} {x : mV}, m_get σ c j k = x → j < lm c → ¬ (c = 11 ∧ k = 2) → m_get σ' c j k = x := fun e a b => (hs.1 _ _ _ a b).trans e
  have Q : ∀ {c j l : Nat}, σ.2.1 c j = l → 13 ≤ c → j < lm c → σ'.2.1 c j = l := fun e b a => (hs.2 _ _ b a).trans e
  obtain ⟨⟨⟨g1, g2, g3, g4, g5, g6, g7, g8, g9, g10, g11, g12, g13⟩, ⟨a1, a2, a3, a4, a5, a6⟩, ⟨l1, l2, l3, l4, l5, l6, l7, l8, l9, l10, l11⟩, ⟨n1, n2, n3, n4, n5, n6, n7, n8⟩⟩, _⟩ := h
  have q6 : ∀ {m : Nat}, m < 6 → m < lm 6 := fun h => h
  have q7 : ∀ {m : Nat}, m < 120 → m < lm 7 := fun h => h
  have q8 : ∀ {m : Nat}, m < 3 → m < lm 8 := fun h => h
  have q9 : ∀ {m : Nat}, m < 2 → m < lm 9 := fun h => h
  have q5 : ∀ {m : Nat}, m < 4 → m < lm 5 := fun h => h
  have q13 : ∀ {m : Nat}, m < 18 → m < lm 13 := fun h => h
  have q14 : ∀ {m : Nat}, m < 7 → m < lm 14 := fun h => h
  have D : ∀ {c k : Nat}, c ≠ 11 → ¬ (c = 11 ∧ k = 2) := fun h z => h z.1
  exact ⟨⟨⟨G g1 (by decide) (by decide), G g2 (by decide) (by decide), G g3 (by decide) (by decide), G g4 (by decide) (by decide), G g5 (by decide) (by decide), G g6 (by decide) (by decide), G g7 (by decide) (by decide), G g8 (by decide) (by decide), G g9 (by decide) (by decide), G g10 (by decide) (by decide), G g11 (by decide) (by decide), G g12 (by decide) (by decide), G g13 (by decide) (by decide)⟩,
    ⟨fun k h => G (a1 k h) (by decide) (D (by decide)), fun k h => G (a2 k h) (by decide) (D (by decide)), fun k h => G (a3 k h) (by decide) (D (by decide)), fun k h => G (a4 k h) (by decide) (D (by decide)), fun k h => G (a5 k h) (by decide) (D (by decide)), fun k h => G (a6 k h) (by decide) (D (by decide))⟩,
    ⟨Q l1 (by decide) (by decide), Q l2 (by decide) (by decide), Q l3 (by decide) (by decide), Q l4 (by decide) (by decide), Q l5 (by decide) (by decide), Q l6 (by decide) (by decide), Q l7 (by decide) (by decide), Q l8 (by decide) (by decide), fun k h => Q (l9 k h) (by decide) (q13 (by omega)), fun k h => Q (l10 k h) (by decide) (q14 (by omega)), fun k h => ⟨Q (l11 k h).1 (by decide) (q13 (by omega)), Q (l11 k h).2 (by decide) (q13 (by omega))⟩⟩,
    ⟨fun k h => G (n1 k h) (q6 h) (by omega), G n2 (by decide) (by decide), fun k h => G (n3 k h) (q6 (by omega)) (D (by decide)), fun k h => G (n4 k h) (q7 h) (D (by decide)), fun k h => G (n5 k h) (q8 h) (D (by decide)), fun k h => G (n6 k h) (q9 h) (D (by decide)), fun k h => G (n7 k h) (q5 h) (D (by decide)), fun k h => G (n8 k h) (q5 h) (D (by decide))⟩⟩, hg⟩
theorem r157 {C : ec_C} (hC : CK C) {τ σ2 : mS} {x : mX} (hl : HL τ) (e : C 157 [rf 11 0] τ = some (x, σ2)) : ∃ v : Int32, x = .inl (some (.inl v)) ∧ ev_run sm_all 157 [rf 11 0] τ (.inl (some (.inl v))) σ2 ∧ v.toInt ≠ 0 ∧ sF τ σ2 ∧ gF τ σ2 ∧ HL σ2 := by
  obtain ⟨v, rfl, hv, hs⟩ := hC.2.2 _ _ _ _ e
  have r := hC.1 _ _ _ _ _ (by decide) e
  have g := gF_r r rfl hl
  exact ⟨v, rfl, r, hv, hs, g, HL_sF hl hs g.1⟩
set_option maxRecDepth 100000 in
theorem e1091 {C : ec_C} (hC : CK C) {f : Nat} {u7 : Int32} {y8 y9 y10 y11 y12 y13 y14 y15 y16 y17 : Option mV} {τ : mS} {q : mX × mS} (hl : HL τ) (h7 : u7.toInt ≠ 0) (h : EC C f 18 ab_main 1091 [some (rf 98 (0)), some (rf 11 (0)), some (rf 13 (14)), some (rf 13 (15)), some (rf 13 (16)), some (rf 13 (17)), some (rf 14 (6)), some (.inl (u7)), y8, y9, y10, y11, y12, y13, y14, y15, y16, y17] [] τ q) : ∃ (v : Int32) (σ2 : mS), ev_run sm_all 157 [rf 11 0] τ (.inl (some (.inl v))) σ2 ∧ v.toInt ≠ 0 ∧ HL σ2 := by
  replace h := ec_p h rfl rfl rfl rfl
  obtain ⟨f, -, h⟩ := h
  replace h : EC C f 18 ab_main 1093 [some (rf 98 (0)), some (rf 11 (0)), some (rf 13 (14)), some (rf 13 (15)), some (rf 13 (16)), some (rf 13 (17)), some (rf 14 (6)), some (.inl (u7)), y8, y9, y10, y11, y12, y13, y14, y15, y16, y17] [.inl u7] τ q := h
  replace h := ec_c h rfl rfl rfl
  rcases h with ⟨hp5, f, g, h⟩ | ⟨hp5, f, g, h⟩
  · exact absurd (ic_eq.mp hp5) h7
  replace h : EC C f 18 ab_main 1096 [some (rf 98 (0)), some (rf 11 (0)), some (rf 13 (14)), some (rf 13 (15)), some (rf 13 (16)), some (rf 13 (17)), some (rf 14 (6)), some (.inl (u7)), y8, y9, y10, y11, y12, y13, y14, y15, y16, y17] [] τ q := h
  replace h := ec_p h rfl rfl rfl rfl
  obtain ⟨f, -, h⟩ := h
  replace h : EC C f 18 ab_main 1097 [some (rf 98 (0)), some (rf 11 (0)), some (rf 13 (14)), some (rf 13 (15)), some (rf 13 (16)), some (rf 13 (17)), some (rf 14 (6)), some (.inl (u7)), y8, y9, y10, y11, y12, y13, y14, y15, y16, y17] [rf 11 0] τ q := h
  obtain ⟨x, σ2, e, -⟩ := ec_v (as := []) (p := (11, 0)) h rfl rfl rfl
  obtain ⟨v, -, r, hv, -, -, h2⟩ := r157 hC hl e
  exact ⟨v, σ2, r, hv, h2⟩
