/-! a new hall's clearing, by hand: members, papers, trades -/
section ER2
variable {j : Nat} {z : mAl} {q : mX × mS} {pc : Nat} {L : List (Option mV)} {st : List mV} {σ : mS} {k n : Nat}
def er_isN (r : mRow) : Bool := match r.1 with
  | .newarray _ => true
  | _ => false
theorem er_nwl {l : Nat} {x : Int32} {r : mRow} (hr : m_at z.2.1 pc = some r) (hi : er_isN r = true) (hl : x.toNatClampNeg = l) (hm : ¬ x < 0 ∧ l ≤ 1000000 ∧ m_rm z.1.2.2.2.2.1 (k + 1) (n + l)) (K : ER j z (pc + 2, L, .inr (.inr (some (r.2.2.1, σ.1 r.2.2.1))) :: st, m_nu σ r.2.2.1 l, k + 1, n + l) q) : ER j z (pc, L, .inl x :: st, σ, k, n) q := by
  refine er_nx ?_ K
  unfold ev_st ev_nf
  dsimp only
  rw [hr]
  obtain ⟨ig, ln, ra, rb, rz, rp⟩ := r
  cases ig <;> first | cases hi | skip
  dsimp only
  subst hl
  have : ∀ r : mRow, ev_newa z.1.2.2.2.2.1 r σ (.inl x :: st) k n = some (.inr (.inr (some (r.2.2.1, σ.1 r.2.2.1))) :: st, m_nu σ r.2.2.1 x.toNatClampNeg, n + x.toNatClampNeg) := fun r => ev_if_some.mpr ⟨hm, rfl⟩
  rw [this]
  rfl
theorem er_mna {i d : Nat} {e : Nat × Nat × Nat × Int × List Nat} {x y : Int32} (hr : m_at z.2.1 pc = some (.multianewarray i d, e)) (hy : y = 3) (hxs : x = 4) (hm : m_rm z.1.2.2.2.2.1 (k + 5) (n + 16)) (K : ER j z (pc + 4, L, .inr (.inr (some (21, σ.1 21))) :: st, m_mn σ, k + 5, n + 16) q) : ER j z (pc, L, .inl y :: .inl x :: st, σ, k, n) q := by
  refine er_nx ?_ K
  unfold ev_st ev_nf
  dsimp only
  rw [hr]
  dsimp only
  have : ev_mna z.1.2.2.2.2.1 σ (.inl y :: .inl x :: st) k n = some (.inr (.inr (some (21, σ.1 21))) :: st, m_mn σ) := ev_if_some.mpr ⟨⟨hy, hxs, hm⟩, rfl⟩
  rw [this]
  rfl
end ER2
def z88s : mAl := ((yX6_init, cX6_init, 2, none, rm_X6_init, []), rw_X6_init, true)
theorem z88s_at : m_alF[88]? = some z88s := rfl
theorem er_88 {σ : mS} {a : Nat} {x : Int32} : ev_run sm_all 88 [.inr (.inr (some (6, a))), .inl x] σ (.inl none) (m_set (m_set (m_nu σ 14 3) 6 a 1 (.inr (.inr (some (14, σ.1 14))))) 6 a 0 (.inl x)) := by
  refine er_go z88s_at (Nat.le_of_ble_eq_true rfl) ?_
  refine er_p rfl rfl rfl rfl ?_
  refine er_obj rfl rfl rfl (by decide) ?_
  refine er_p rfl rfl rfl rfl ?_
  refine er_p rfl rfl rfl rfl ?_
  refine er_nwl (l := 3) rfl rfl (by decide) ⟨by decide, by decide, by decide, by decide⟩ ?_
  refine er_put rfl rfl rfl ?_
  refine er_p rfl rfl rfl rfl ?_
  refine er_p rfl rfl rfl rfl ?_
  refine er_put rfl rfl (Or.inl rfl) ?_
  exact er_ret rfl (by decide) rfl
def z110s : mAl := ((yX8_init, cX8_init, 2, none, rm_X8_init, []), rw_X8_init, true)
theorem z110s_at : m_alF[110]? = some z110s := rfl
theorem er_110 {σ : mS} {a : Nat} {x : Int32} : ev_run sm_all 110 [.inr (.inr (some (8, a))), .inl x] σ (.inl none) (m_set (m_set σ 8 a 0 (.inl x)) 8 a 6 (.inl 1)) := by
  refine er_go z110s_at (Nat.le_of_ble_eq_true rfl) ?_
  refine er_p rfl rfl rfl rfl ?_
  refine er_obj rfl rfl rfl (by decide) ?_
  refine er_p rfl rfl rfl rfl ?_
  refine er_p rfl rfl rfl rfl ?_
  refine er_put rfl rfl (Or.inl rfl) ?_
  refine er_p rfl rfl rfl rfl ?_
  refine er_p rfl rfl rfl rfl ?_
  refine er_put rfl rfl (Or.inl rfl) ?_
  exact er_ret rfl (by decide) rfl
def z120s : mAl := ((yX10_init, cX10_init, 1, none, rm_X10_init, []), rw_X10_init, true)
theorem z120s_at : m_alF[120]? = some z120s := rfl
theorem er_120 {σ : mS} {a : Nat} : ev_run sm_all 120 [.inr (.inr (some (10, a)))] σ (.inl none) σ := by
  refine er_go z120s_at (Nat.le_of_ble_eq_true rfl) ?_
  refine er_p rfl rfl rfl rfl ?_
  refine er_obj rfl rfl rfl (by decide) ?_
  exact er_ret rfl (by decide) rfl
def z20s : mAl := ((yX2_init, cX2_init, 2, none, rm_X2_init, []), rw_X2_init, true)
theorem z20s_at : m_alF[20]? = some z20s := rfl
/-- i trades are made -/
def td_P (σ : mS) (a i : Nat) (τ : mS) : Prop :=
  (∀ c, τ.1 c = if c = 10 then σ.1 10 + i else σ.1 c) ∧ (∀ c j, 13 ≤ c → τ.2.1 c j = σ.2.1 c j) ∧
  (∀ k, k < i → m_get τ 20 a k = .inr (.inr (some (10, σ.1 10 + k))) ∧ ∀ f, m_get τ 10 (σ.1 10 + k) f = hz 10 f) ∧
  ∀ c j k, ¬ (c = 20 ∧ j = a) → ¬ (c = 10 ∧ σ.1 10 ≤ j ∧ j < σ.1 10 + i) → m_get τ c j k = m_get σ c j k
theorem td_step {σ τ : mS} {a i : Nat} (h : td_P σ a i τ) : td_P σ a (i + 1) (m_set (m_nu τ 10 0) 20 a i (.inr (.inr (some (10, τ.1 10))))) := by
  obtain ⟨h1, h2, h4, h5⟩ := h
  have e7 : τ.1 10 = σ.1 10 + i := by rw [h1]; rfl
  have t20 : ∀ k, m_tp (m_ty 20 k) (.inr (.inr (some (10, τ.1 10)))) := fun k => m_ty_arr (j := 7) rfl
  have old : ∀ c j k, ¬ (c = 20 ∧ j = a ∧ k = i) → ¬ (c = 10 ∧ j = τ.1 10) → m_get (m_set (m_nu τ 10 0) 20 a i (.inr (.inr (some (10, τ.1 10))))) c j k = m_get τ c j k := by
    intro c j k a1 a2
    rw [m_get_ne _ _ a1, m_nu_old _ a2]
  refine ⟨fun c => ?_, fun c j hc => ?_, fun k hk => ?_, fun c j k a2 a3 => ?_⟩
  · rw [m_set_1]
    show (if c = 10 then τ.1 c + 1 else τ.1 c) = _
    rw [h1]
    by_cases e : c = 10
    · subst e; rfl
    · rw [if_neg e, if_neg e, if_neg e]
  · rw [m_set_2, m_nu_len τ (fun z => by omega)]
    exact h2 c j hc
  · by_cases e : k = i
    · subst e
      refine ⟨?_, fun f => ?_⟩
      · rw [m_get_eq _ (t20 k), e7]
      · rw [m_get_ne _ _ (fun z => by cases z.1), ← e7, m_nu_newz]
    · obtain ⟨g1, g3⟩ := h4 k (by omega)
      refine ⟨?_, fun f => ?_⟩
      · rw [old 20 _ k (fun z => e z.2.2) (fun z => by cases z.1)]; exact g1
      · rw [old 10 _ f (fun z => by cases z.1) (fun z => by have := z.2; omega)]; exact g3 f
  · rw [old c j k (fun z => a2 ⟨z.1, z.2.1⟩) (fun z => a3 ⟨z.1, by have := z.2; omega, by have := z.2; omega⟩)]
    exact h5 c j k a2 (fun z => a3 ⟨z.1, z.2.1, by omega⟩)
theorem td_loop {σ : mS} {a b : Nat} (hf : m_get σ 2 b 3 = .inr (.inr (some (20, a)))) (hl : σ.2.1 20 a = 200) : ∀ (m i : Nat) (τ : mS), i + m = 200 → td_P σ a i τ → ∃ τ', ER 20 z20s (116, [some (.inr (.inr (some (2, b)))), some (.inl (Int32.ofNat i))], [], τ, 23 + i, 10 * i + 335) (.inl none, τ') ∧ td_P σ a 200 τ'
  | 0, i, τ, hm, h => by
    have e : i = 200 := by omega
    subst e
    have hg : m_get τ 2 b 3 = .inr (.inr (some (20, a))) := (h.2.2.2 2 b 3 (fun z => by cases z.1) (fun z => by cases z.1)).trans hf
    refine ⟨τ, ?_, h⟩
    refine er_p rfl rfl rfl rfl ?_
    refine er_p rfl rfl rfl rfl ?_
    refine er_get rfl rfl hg ?_
    refine er_len (l := 200) rfl ⟨(by show 13 ≤ 20; decide), (by show 20 ≤ 21; decide)⟩ ((h.2.1 20 a (by decide)).trans hl) ?_
    refine er_ct rfl rfl rfl ((i32_ge 200 (by decide) 200 (by decide)).mpr (Nat.le_refl _)) ?_
    exact er_ret rfl (by decide) rfl
  | m + 1, i, τ, hm, h => by
    have hi : i < 200 := by omega
    have hg : m_get τ 2 b 3 = .inr (.inr (some (20, a))) := (h.2.2.2 2 b 3 (fun z => by cases z.1) (fun z => by cases z.1)).trans hf
    have hl' := (h.2.1 20 a (by decide)).trans hl
    obtain ⟨τ', g1, g2⟩ := td_loop hf hl m (i + 1) _ (by omega) (td_step h)
    refine ⟨τ', ?_, g2⟩
    refine er_p rfl rfl rfl rfl ?_
    refine er_p rfl rfl rfl rfl ?_
    refine er_get rfl rfl hg ?_
    refine er_len (l := 200) rfl ⟨(by show 13 ≤ 20; decide), (by show 20 ≤ 21; decide)⟩ hl' ?_
    refine er_cf rfl rfl rfl (fun z => by have := (i32_ge i (by omega) 200 (by decide)).mp z; omega) ?_
    refine er_p rfl rfl rfl rfl ?_
    refine er_get rfl rfl hg ?_
    refine er_p rfl rfl rfl rfl ?_
    refine er_new rfl (by decide) ⟨by show 23 + i + 1 ≤ 223; omega, by show 10 * i + 335 + 10 ≤ 2335; omega⟩ ?_
    refine er_p rfl rfl rfl rfl ?_
    refine er_spc (as := []) (v := none) rfl (by decide) rfl rfl rfl rfl ⟨Nat.le_of_ble_eq_true rfl, ⟨by show 23 + i + 1 + 0 ≤ 223; omega, by show 10 * i + 335 + 10 + 0 ≤ 2335; omega⟩⟩ er_120 ?_
    refine er_ast (l := i) rfl (i32_nat i (by omega)) ⟨rfl, ⟨(by show 16 ≤ 20; decide), (by show 20 ≤ 20; decide)⟩, ?_⟩ ?_
    · show vp_in (Int32.ofNat i) ((m_nu τ 10 0).2.1 20 a)
      rw [m_nu_len τ (fun z => by cases z.1), hl']
      exact i32_vp hi (by decide)
    refine er_p rfl rfl rfl rfl ?_
    refine er_p rfl rfl rfl rfl ?_
    have e1 : Int32.ofNat i + Int32.ofInt 1 = Int32.ofNat (i + 1) := i32_inc i (by omega)
    have e2 : 10 * (i + 1) + 335 = 10 * i + 335 + 10 := by omega
    have e3 : 23 + (i + 1) = 23 + i + 1 := by omega
    rw [e2, e3, ← e1] at g1
    exact g1
