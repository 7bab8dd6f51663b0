/-! what is not in the reach of the history: the feed, the reference, the law's own array -/
def fpB (b : ab_G) : Bool := [3, 5, 9, 12, 15, 19].any (Nat.beq b.1) || ((Nat.beq b.1 13 && (Nat.ble 4 b.2.1 && Nat.ble b.2.2.1 17)) || (Nat.beq b.1 14 && (Nat.ble 6 b.2.1 && Nat.ble b.2.2.1 6)))
def fpC (c i : Nat) : Prop := c = 3 ∨ c = 5 ∨ c = 9 ∨ c = 12 ∨ c = 15 ∨ c = 19 ∨ (c = 13 ∧ 4 ≤ i ∧ i ≤ 17) ∨ (c = 14 ∧ 6 ≤ i ∧ i ≤ 6)
theorem fpB_ok {b : ab_G} {c i k : Nat} (hb : fpB b = true) (h : ac_inB b c i k) : fpC c i := by
  obtain ⟨h1, h2, h3, -, -⟩ := h
  unfold fpB at hb
  unfold fpC
  rw [Bool.or_eq_true, Bool.or_eq_true, Bool.and_eq_true, Bool.and_eq_true, Bool.and_eq_true, Bool.and_eq_true, Nat.ble_eq, Nat.ble_eq, Nat.ble_eq, Nat.ble_eq] at hb
  rcases hb with hb | ⟨b1, b2, b3⟩ | ⟨b1, b2, b3⟩
  · obtain ⟨x, x1, x2⟩ := List.any_eq_true.mp hb
    have e := Nat.eq_of_beq_eq_true x2
    rw [← e, h1] at x1
    simp only [List.mem_cons, List.mem_nil_iff, or_false] at x1
    omega
  · have e := Nat.eq_of_beq_eq_true b1
    omega
  · have e := Nat.eq_of_beq_eq_true b1
    omega
theorem fpC_mx {c i : Nat} (h : fpC c i) : ¬ i < sm_mx c := by
  intro g
  unfold fpC at h
  rcases mx_else g with rfl | rfl | rfl | rfl | rfl | rfl | rfl | rfl | rfl | rfl | rfl | rfl | rfl | rfl
  all_goals first | omega | (have e : sm_mx 13 = 4 := rfl; omega) | (have e : sm_mx 14 = 6 := rfl; omega)
theorem fpC_hp {c i k : Nat} (h : fpC c i) : hp_c c k = false := by
  unfold fpC at h
  rcases h with rfl | rfl | rfl | rfl | rfl | rfl | ⟨rfl, -⟩ | ⟨rfl, -⟩ <;> rfl
/-- what is the same to the history: all cells but those -/
def fpS (σ σ1 : mS) : Prop := (∀ c, σ1.1 c = σ.1 c) ∧ (∀ c i, 13 ≤ c → σ1.2.1 c i = σ.2.1 c i) ∧ ∀ c i k, ¬ fpC c i → m_get σ1 c i k = m_get σ c i k
theorem fpS.rf {σ : mS} : fpS σ σ := ⟨fun _ => rfl, fun _ _ _ => rfl, fun _ _ _ _ => rfl⟩
theorem fpS.tr {σ σ1 σ2 : mS} (h : fpS σ σ1) (g : fpS σ1 σ2) : fpS σ σ2 := ⟨fun c => (g.1 c).trans (h.1 c), fun c i hc => (g.2.1 c i hc).trans (h.2.1 c i hc), fun c i k hn => (g.2.2 c i k hn).trans (h.2.2 c i k hn)⟩
theorem fpS_fr {W : List ab_G} {σ σ1 : mS} (hW : W.all fpB = true) (hf : ac_fr W σ σ1) (hc : σ1.1 1 = σ.1 1) : fpS σ σ1 := by
  refine ⟨fun c => ?_, hf.2.2.1, fun c i k hn => ?_⟩
  · by_cases e : c = 1
    · rw [e]; exact hc
    · exact hf.1 c e
  · rcases hf.2.2.2 c i k (fun z => by omega) with e | ⟨b, b1, b2, -⟩
    · exact e
    · exact absurd (fpB_ok (List.all_eq_true.mp hW b b1) b2) hn
theorem fpS_set {σ : mS} {c i k : Nat} {x : mV} (h : fpC c i) : fpS σ (m_set σ c i k x) := ⟨fun c' => by rw [m_set_1], fun c' i' _ => by rw [m_set_2], fun c' i' k' hn => m_get_ne _ _ (fun z => hn (by rw [z.1, z.2.1]; exact h))⟩
theorem fpC_1 {i : Nat} : ¬ fpC 1 i := by unfold fpC; omega
theorem fpC_8 {i : Nat} : ¬ fpC 8 i := by unfold fpC; omega
theorem fpC_11 {i : Nat} : ¬ fpC 11 i := by unfold fpC; omega
theorem fpS.K {σ σ1 : mS} (h : fpS σ σ1) : eqK σ σ1 := ⟨fun c i hc => h.2.1 c i hc, fun c j k hp => h.2.2 c j k (fun z => by rw [fpC_hp z] at hp; cases hp)⟩
theorem rp_I_fp {σ0 σ σ1 : mS} {m : Nat} (h : rp_I σ0 m σ) (hm : m ≤ σ.1 1) (hs : fpS σ σ1) : rp_I σ0 m σ1 := by
  have h' := h
  obtain ⟨cs, -, -, -, ⟨-, h5⟩, -⟩ := h'
  exact rp_I_grow h (Nat.le_refl _) h5 hm (by rw [hs.1]; exact Nat.le_refl _) (fun i k _ => hs.2.2 1 i k fpC_1) (fun k => hs.2.2 11 0 k fpC_11) (fun c i k hi => hs.2.2 c i k (fun z => fpC_mx z hi)) (fun c _ => hs.1 c) hs.K
/-- all that is held between the calls -/
def iv (σ0 σ : mS) : Prop := (∃ m, m ≤ σ.1 1 ∧ rp_I σ0 m σ) ∧ (∀ i, i < 3 → m_get σ 8 i 7 = .inl 0) ∧ hy (fun _ => 0) σ
theorem iv_fp {σ0 σ σ1 : mS} (h : iv σ0 σ) (hs : fpS σ σ1) : iv σ0 σ1 := by
  obtain ⟨⟨m, m1, m2⟩, h2, h3⟩ := h
  exact ⟨⟨m, by rw [hs.1]; exact m1, rp_I_fp m2 m1 hs⟩, fun i hi => (hs.2.2 8 i 7 fpC_8).trans (h2 i hi), hy_K h3 hs.K⟩
