/-! the performed call is kept -/
theorem i32_512 : ∀ n, n < 512 → ¬ Int32.ofNat n = Int32.ofInt 512 := by decide +kernel
def z159s : mAl := ((yX11_keep, cX11_keep, 2, none, { frames := 0, cells := 0, slots := 0, locals := 0 }, []), rw_X11_keep, false)
theorem z159s_at : m_alF[159]? = some z159s := rfl
/-- every row of the kinds that covers a place has this type -/
def kk_T (c k : Nat) (T : ab_T) : Bool := match ac_K0.1[c]? with
  | none => true
  | some l => l.all (fun g => !(Nat.ble g.2.2.2.1 k && Nat.ble k g.2.2.2.2.1) || decide (g.2.2.2.2.2 = T))
theorem kk_set {σ : mS} {c j k : Nat} {x : mV} {T : ab_T} (h : ac_KK ac_K0 σ) (hT : kk_T c k T = true) (hxs : ab_Tr T x) (ht : m_tp (m_ty c k) x) (h12 : c ≠ 12) (h13 : c ≠ 13) : ac_KK ac_K0 (m_set σ c j k x) := by
  obtain ⟨h1, h2, h3⟩ := h
  refine ⟨fun c' l hc g hg i' k' i1 i2 k1 k2 => ?_, fun c' l hc q hq i i1 i2 => by rw [m_set_2]; exact h2 c' l hc q hq i i1 i2, fun k' hk => ?_⟩
  · by_cases e : c' = c ∧ i' = j ∧ k' = k
    · obtain ⟨rfl, rfl, rfl⟩ := e
      rw [m_get_eq _ ht]
      unfold kk_T at hT
      rw [hc] at hT
      have w := List.all_eq_true.mp hT g hg
      rw [Nat.ble_eq_true_of_le k1, Nat.ble_eq_true_of_le k2] at w
      have w : decide (g.2.2.2.2.2 = T) = true := w
      rw [of_decide_eq_true w]
      exact hxs
    · rw [m_get_ne _ _ e]
      exact h1 c' l hc g hg i' k' i1 i2 k1 k2
  · have e : ac_tr (m_set σ c j k x) = ac_tr σ := by
      unfold ac_tr
      rw [m_get_ne _ _ (fun z => h12 z.1.symm)]
    rw [e] at hk
    rw [m_get_ne _ _ (fun z => h13 z.1.symm)]
    exact h3 k' hk
def T1 : ab_T := (2, 1, 0, 511, 0, 1)
def T0 : ab_T := (0, 0, (-2147483648), 2147483647, 0, 0)
theorem kk_Ts : kk_T 11 3 T1 = true ∧ kk_T 11 4 T1 = true ∧ kk_T 1 8 T1 = true ∧ kk_T 11 5 T0 = true := by decide +kernel
theorem T1_rf {i : Nat} (hi : i ≤ 511) : ab_Tr T1 (rf 1 i) := ⟨rfl, rfl, rfl, by show (0 : Int) ≤ (i : Int); omega, by show (i : Int) ≤ 511; omega⟩
theorem T0_i {y : Int32} : ab_Tr T0 (.inl y) := ⟨rfl, Int32.le_toInt y, Int32.toInt_le y⟩
/-- what keeping may change -/
def kp_f (σ σ' : mS) : Prop := σ'.1 = σ.1 ∧ σ'.2.1 = σ.2.1 ∧ (ac_KK ac_K0 σ → ac_KK ac_K0 σ') ∧ ∀ c j k, ¬ (c = 1 ∧ j ≤ 511 ∧ k = 8) → ¬ (c = 11 ∧ j = 0 ∧ 3 ≤ k ∧ k ≤ 5) → m_get σ' c j k = m_get σ c j k
theorem kp_fin {σ0 σ σ' : mS} {i : Nat} {cs : List Nat} (hH : hs_H σ0 (cs ++ [i]) σ) (hf : kp_f σ σ') (hch : rp_ch σ' (cs ++ [i]) (m_get σ' 11 0 3)) (h5 : m_get σ' 11 0 5 = .inl (Int32.ofNat (cs.length + 1))) (h4 : m_get σ' 11 0 4 = rf 1 i) (hk : cs.length ≤ i ∧ (∀ c ∈ cs, c < i) ∧ cs.Nodup) (hi : i ≤ 511) (h0 : m_get σ 11 0 0 = rf 4 0) (hM : rp_M σ) : rp_I σ0 (i + 1) σ' := by
  obtain ⟨f1, f2, -, f3⟩ := hf
  refine ⟨cs ++ [i], hs_grow hH (by rw [f1]; exact Nat.le_refl _) (fun j k _ hk8 => f3 1 j k (fun z => by omega) (fun z => by omega)) (fun c j k h => f3 c j k (fun z => (off_sm h).2 (by omega)) (fun z => (off_sm h).2 (by omega))) (fun c j _ _ => by rw [f2]), hch, by rw [h5, List.length_append]; rfl, ⟨⟨?_, ?_, ?_, ?_, ?_⟩, by omega⟩, (f3 11 0 0 (fun z => by omega) (fun z => by omega)).trans h0, ?_⟩
  · rw [List.length_append]
    show cs.length + 1 ≤ i + 1
    omega
  · intro c hc
    rcases List.mem_append.mp hc with h | h
    · have := hk.2.1 c h
      omega
    · have := List.mem_singleton.mp h
      omega
  · rw [List.nodup_append]
    refine ⟨hk.2.2, by simp, fun a ha b hb => ?_⟩
    have := hk.2.1 a ha
    have := List.mem_singleton.mp hb
    omega
  · intro z
    exact absurd z (by simp)
  · intro c hc
    rw [List.getLast?_append] at hc
    simp at hc
    rw [h4, hc]
  · rcases hM with ⟨m1, m2⟩ | ⟨m1, m2⟩
    · exact Or.inl ⟨(f3 11 0 2 (fun z => by omega) (fun z => by omega)).trans m1, fun q hq => by rw [f1]; exact m2 q hq⟩
    · refine Or.inr ⟨(f3 11 0 2 (fun z => by omega) (fun z => by omega)).trans m1, hy_K m2 ⟨fun c j _ => by rw [f2], fun c j k hp => f3 c j k (fun z => ?_) (fun z => ?_)⟩⟩
      · rw [z.1] at hp
        cases hp
      · rw [z.1] at hp
        cases hp
/-- from its middle to its end -/
theorem kp_tail {σ υ : mS} {i N : Nat} (h5 : m_get υ 11 0 5 = .inl (Int32.ofNat N)) (hN : N < 512) (hi : i ≤ 511) (hu : kp_f σ υ) : ∃ σ', ER 159 z159s (34, [some (rf 11 0), some (rf 1 i)], [], υ, 0, 0) (.inl none, σ') ∧ kp_f σ σ' ∧ m_get σ' 11 0 5 = .inl (Int32.ofNat (N + 1)) ∧ m_get σ' 11 0 4 = rf 1 i ∧ (∀ j k, m_get σ' 1 j k = m_get υ 1 j k) ∧ m_get σ' 11 0 3 = m_get υ 11 0 3 := by
  have e5 : m_get (m_set υ 11 0 4 (rf 1 i)) 11 0 5 = .inl (Int32.ofNat N) := (m_get_ne _ _ (fun z => by cases z.2.2)).trans h5
  refine ⟨m_set (m_set υ 11 0 4 (rf 1 i)) 11 0 5 (.inl (Int32.ofNat N + Int32.ofInt 1)), ?_, ⟨?_, ?_, fun h => kk_set (kk_set (hu.2.2.1 h) kk_Ts.2.1 (T1_rf hi) rfl (by decide) (by decide)) kk_Ts.2.2.2 T0_i (Or.inl rfl) (by decide) (by decide), fun c j k h1 h2 => ?_⟩, ?_, ?_, fun j k => ?_, ?_⟩
  · refine er_p rfl rfl rfl rfl ?_
    refine er_p rfl rfl rfl rfl ?_
    refine er_put rfl rfl rfl ?_
    refine er_p rfl rfl rfl rfl ?_
    refine er_p rfl rfl rfl rfl ?_
    refine er_get rfl rfl e5 ?_
    refine er_p rfl rfl rfl rfl ?_
    refine er_p rfl rfl rfl rfl ?_
    refine er_put rfl rfl (Or.inl rfl) ?_
    exact er_ret rfl (by decide) rfl
  · rw [m_set_1, m_set_1]; exact hu.1
  · rw [m_set_2, m_set_2]; exact hu.2.1
  · rw [m_get_ne _ _ (fun z => h2 ⟨z.1, z.2.1, by omega, by omega⟩), m_get_ne _ _ (fun z => h2 ⟨z.1, z.2.1, by omega, by omega⟩)]
    exact hu.2.2.2 c j k h1 h2
  · rw [m_get_eq _ (show m_tp (m_ty 11 5) (.inl (Int32.ofNat N + Int32.ofInt 1)) from Or.inl rfl), i32_inc5 N hN]
  · rw [m_get_ne _ _ (fun z => by cases z.2.2), m_get_eq _ (show m_tp (m_ty 11 4) (rf 1 i) from rfl)]
  · rw [m_get_ne _ _ (fun z => by cases z.1), m_get_ne _ _ (fun z => by cases z.1)]
  · rw [m_get_ne _ _ (fun z => by cases z.2.2), m_get_ne _ _ (fun z => by cases z.2.2)]
theorem kp_run {σ0 σ : mS} {i : Nat} (h8 : ∃ x, m_get σ 1 i 8 = .inr (.inr x)) (hJ : rp_J σ0 i σ) : ∃ σ', ev_run sm_all 159 [rf 11 0, rf 1 i] σ (.inl none) σ' ∧ rp_I σ0 (i + 1) σ' ∧ kp_f σ σ' := by
  obtain ⟨cs, hH, hch, h5, ⟨⟨k1, k2, k3, k4, k5⟩, hi⟩, h0, hM⟩ := hJ
  have hN : cs.length < 512 := by omega
  cases hg : cs.getLast? with
  | none =>
    have e : cs = [] := List.getLast?_eq_none_iff.mp hg
    have h4 := k4 e
    obtain ⟨σ', r, f, g5, g4, g1, g3⟩ := kp_tail (σ := σ) (υ := m_set σ 11 0 3 (rf 1 i)) (i := i) ((m_get_ne _ _ (fun z => by cases z.2.2)).trans h5) hN hi ⟨m_set_1 .., m_set_2 .., fun h => kk_set h kk_Ts.1 (T1_rf hi) rfl (by decide) (by decide), fun c j k _ h2 => m_get_ne _ _ (fun z => h2 ⟨z.1, z.2.1, by omega, by omega⟩)⟩
    refine ⟨σ', er_go z159s_at (Nat.le_of_ble_eq_true rfl) ?_, kp_fin hH f ?_ g5 g4 ⟨k1, k2, k3⟩ hi h0 hM, f⟩
    · refine er_p rfl rfl rfl rfl ?_
      refine er_get rfl rfl h5 ?_
      refine er_p rfl rfl rfl rfl ?_
      refine er_ct rfl rfl rfl (i32_512 _ hN) ?_
      refine er_p rfl rfl rfl rfl ?_
      refine er_get rfl rfl h4 ?_
      refine er_cf rfl rfl rfl (fun z => z rfl) ?_
      refine er_p rfl rfl rfl rfl ?_
      refine er_p rfl rfl rfl rfl ?_
      refine er_put rfl rfl rfl ?_
      refine er_p rfl rfl rfl rfl ?_
      exact r
    · subst e
      rw [g3, m_get_eq _ (show m_tp (m_ty 11 3) (rf 1 i) from rfl)]
      obtain ⟨x, hxs⟩ := h8
      exact ⟨rfl, x, by rw [g1, m_get_ne _ _ (fun z => by cases z.1), hxs]⟩
  | some l =>
    have h4 := k5 l hg
    have hl : l ∈ cs := List.mem_of_getLast? hg
    have li : l < i := k2 l hl
    obtain ⟨σ', r, f, g5, g4, g1, g3⟩ := kp_tail (σ := σ) (υ := m_set σ 1 l 8 (rf 1 i)) (i := i) ((m_get_ne _ _ (fun z => by cases z.1)).trans h5) hN hi ⟨m_set_1 .., m_set_2 .., fun h => kk_set h kk_Ts.2.2.1 (T1_rf hi) rfl (by decide) (by decide), fun c j k h1 _ => m_get_ne _ _ (fun z => h1 ⟨z.1, by omega, z.2.2⟩)⟩
    refine ⟨σ', er_go z159s_at (Nat.le_of_ble_eq_true rfl) ?_, kp_fin hH f ?_ g5 g4 ⟨k1, k2, k3⟩ hi h0 hM, f⟩
    · refine er_p rfl rfl rfl rfl ?_
      refine er_get rfl rfl h5 ?_
      refine er_p rfl rfl rfl rfl ?_
      refine er_ct rfl rfl rfl (i32_512 _ hN) ?_
      refine er_p rfl rfl rfl rfl ?_
      refine er_get rfl rfl h4 ?_
      refine er_ct rfl rfl rfl (fun z => by cases z) ?_
      refine er_p rfl rfl rfl rfl ?_
      refine er_get rfl rfl h4 ?_
      refine er_p rfl rfl rfl rfl ?_
      refine er_put rfl rfl rfl ?_
      exact r
    · rw [g3, m_get_ne _ _ (fun z => by cases z.1)]
      refine rp_ch_app hch (fun c hc => ?_) (fun c hc => ?_) ?_ (fun z => ?_)
      · have ne : c ≠ l := by
          intro z
          subst z
          have hne : cs ≠ [] := fun z => by rw [z] at hg; cases hg
          have e := List.dropLast_concat_getLast hne
          have e2 : cs.getLast hne = c := by
            rw [List.getLast?_eq_some_getLast hne] at hg
            exact Option.some.inj hg
          rw [← e, List.nodup_append] at k3
          exact k3.2.2 c hc _ (List.mem_singleton.mpr rfl) e2.symm
        rw [g1, m_get_ne _ _ (fun z => ne z.2.1)]
      · rw [hg] at hc
        cases hc
        rw [g1, m_get_eq _ (show m_tp (m_ty 1 8) (rf 1 i) from rfl)]
      · obtain ⟨x, hxs⟩ := h8
        exact ⟨x, by rw [g1, m_get_ne _ _ (fun z => by omega), hxs]⟩
      · rw [z] at hg
        cases hg
