/-! time passes -/
theorem mn {σ : mS} (hs : HS σ) {k : Nat} (hk : k < 5) : m_i σ 6 (k + 1) 0 = Int32.ofNat k := by
  have e : (.inl (m_i σ 6 (k + 1) 0) : mV) = .inl (Int32.ofNat k) := HS_n6 hs k hk
  exact Sum.inl.inj e
theorem nF_b {σ : mS} (h : fl σ) : 0 ≤ nF σ ∧ nF σ ≤ 5 := by
  have a1 := (h 1 (by decide) (by decide)).2.1
  have a2 := (h 2 (by decide) (by decide)).2.1
  have a3 := (h 3 (by decide) (by decide)).2.1
  have a4 := (h 4 (by decide) (by decide)).2.1
  have a5 := (h 5 (by decide) (by decide)).2.1
  unfold nF
  omega
/-- a member's orders are gone, then it is marked as failed -/
theorem hO_fl {σ σ' : mS} {N m : Nat} {L : List (Nat × Nat)} (ho : hO σ N) (F : fw_e (wl L) σ σ') (c : ((List.range 13).all (fun k => fwh (wl L) 7 k) && (fwh (wl L) 8 6 && fwh (wl L) 0 1)) = true) (h9 : ∀ i, i ≠ m → m_i σ' 6 i 9 = m_i σ 6 i 9) (hz : ∀ o, o < N → oi σ o 1 + 1 = m → oi σ o 9 = 0) : hO σ' N ∧ mO N σ σ' := by
  rw [Bool.and_eq_true, Bool.and_eq_true] at c
  obtain ⟨c1, c2, c3⟩ := c
  have c1 := List.all_eq_true.mp c1
  have e7 : ∀ o k, k < 13 → m_i σ' 7 o k = m_i σ 7 o k := fun o k hk => (F.2 7 o k (c1 k (List.mem_range.mpr hk))).1
  have e6 : ∀ i, m_i σ' 8 i 6 = m_i σ 8 i 6 := fun i => (F.2 8 i 6 c2).1
  have er : ∀ o, m_r σ' 7 o 12 = m_r σ 7 o 12 := fun o => (F.2 7 o 12 (c1 12 (List.mem_range.mpr (by omega)))).2.2
  refine ⟨fun o hoN => ?_, mO_1 (a := N) (fun o _ => ⟨e7 o 6 (by omega), e7 o 7 (by omega), e7 o 9 (by omega)⟩) (fun z => absurd z (Nat.lt_irrefl _))⟩
  have g := ho o hoN
  have z := hz o hoN
  obtain ⟨g1, g2, g3, g4, g5, g6, g7, g8, g9, g10, g11, g12, g13, g14⟩ := g
  have n1 := i_nat g1.1
  unfold oOK
  unfold oi pv at *
  simp only [e7 _ 1 (by omega), e7 _ 2 (by omega), e7 _ 3 (by omega), e7 _ 4 (by omega), e7 _ 5 (by omega), e7 _ 6 (by omega), e7 _ 7 (by omega), e7 _ 9 (by omega), e6, er]
  refine ⟨g1, g2, g3, g4, g5, g6, g7, g8, g9, g10, g11, g12, g13, fun q => ?_⟩
  have y := g14 q
  unfold nfl at y ⊢
  rw [h9 _ (fun w => q (z (by omega)))]
  exact y
def TI (a : Int) (N : Nat) (σ τ : mS) : Prop := HS τ ∧ CI (a + 2 * nF τ) τ ∧ hO τ N ∧ mO N σ τ ∧ sm τ = sm σ ∧ (∀ j, ps τ j = ps σ j) ∧ (∀ i, mi6 σ i 9 = 1 → mi6 τ i 9 = 1)
theorem q76_s {a : Int} {N : Nat} {c1 : Int32} {σ : mS} (hn : hN σ N) (ha : a + 12 ≤ 300) : ∀ n (u2 : Int32) (τ : mS) (w : Int32) (σ' : mS), Q76_2 c1 n u2 τ w σ' → fw_e w76 σ τ → TI a N σ τ → TI a N σ σ' ∧ fw_e w76 σ σ' ∧ w = m_i σ' 2 0 8 := by
  intro n
  induction n with
  | zero => intro u2 τ w σ' h; exact h.elim
  | succ n IH =>
    intro u2 τ w σ' h F hI
    have h : B76_2 c1 (Q76_2 c1 n) u2 τ w σ' := h
    rcases h with ⟨_, rfl, rfl⟩ | ⟨_, σ3, e3, σ6, _, p6, v9, p9, h⟩
    · exact ⟨hI, F, rfl⟩
    obtain ⟨H, C, O, M, S, P, K9⟩ := hI
    have F3 : fw_e (wl [(2, 7)]) τ σ3 := by rw [e3]; exact fw_set rfl
    have C3 := CI_fw F3 C rfl
    obtain ⟨C6, F6⟩ := f42 C3 p6
    have G6 : fw_e (wl [(2, 7), (6, 7), (6, 8)]) τ σ6 := (wl_mono F3 (by decide)).tr (wl_mono F6 (by decide))
    have H6 := HS_w H G6 (by decide)
    have s6 : sO τ σ6 := sO_of G6 rfl
    have O6 := hO_s O s6
    have M6 : mO N σ σ6 := M.tr s6.mO
    have f6 : nF σ6 = nF τ := nF_of (fun i => (G6.2 6 i 9 rfl).1)
    have S6 : sm σ6 = sm σ := (sm_fw G6 rfl).trans S
    have P6 : ∀ j, ps σ6 j = ps σ j := fun j => (ps_fw G6 rfl).trans (P j)
    have T6 : ∀ i, mi6 σ i 9 = 1 → mi6 σ6 i 9 = 1 := fun i z => by
      show (m_i σ6 6 i 9).toInt = 1
      rw [(G6.2 6 i 9 rfl).1]; exact K9 i z
    have FW6 : fw_e w76 σ σ6 := F.tr (wl_mono G6 (by decide))
    rcases h with ⟨_, h⟩ | ⟨q14, e14, i17, e17, σ20, F20, p14, σ24, F24, p44, h⟩
    · exact IH _ _ w σ' h FW6 ⟨H6, by rw [f6]; exact C6, O6, M6, S6, P6, T6⟩
    cases e17
    rcases f43 p9 with z | ⟨m, m1, m6, ev, m7, r9⟩
    · rw [z] at e14; cases e14
    rw [ev] at e14
    cases e14
    have hn6 : hN σ6 N := s6.hN (by have := FW6; exact ⟨by rw [(F.2 0 0 1 rfl).1]; exact hn.1, hn.2⟩)
    obtain ⟨k, hq⟩ := p14
    obtain ⟨X, x0, _⟩ := q14_s hn6 k _ σ6 σ20 hq (by rw [i_0]; omega) (by rw [i_0]; omega) fw_e.rf' ⟨OX.rf O6, fun o ho => absurd ho (Nat.not_lt_zero o), fun _ _ => eO.rf⟩
    have num : (m_i σ6 6 i17 0).toInt + 1 = i17 := by
      obtain ⟨t, rfl⟩ : ∃ t, i17 = t + 1 := ⟨i17 - 1, by omega⟩
      rw [mn H6 (by omega), i_ofNat (by omega)]; omega
    have H20 := HS_w H6 F20 (by decide)
    have C20 := rt_ci X.2.2.2.2 C6
    have r20 : m_r σ20 2 0 9 = none := ((F20.2 2 0 9 rfl).2.2).trans r9
    have m9 : mi6 σ20 i17 9 = 0 := by
      have y := (C6.2.2.2.1 i17 m1 m6)
      have y1 := y.2.1
      have y2 := y.2.2.2.2.1
      show (m_i σ20 6 i17 9).toInt = 0
      rw [(F20.2 6 i17 9 rfl).1]
      show mi6 σ6 i17 9 = 0
      omega
    have f20 : nF σ20 = nF τ := (nF_of (fun i => (F20.2 6 i 9 rfl).1)).trans f6
    have b := nF_b C20.2.2.2.1
    obtain ⟨g1, g2, g3, g4, g5, g6⟩ := f44 H20 C20 (by omega) m1 m6 r20 m9 p44
    have c20 := C20.2.2.2.2.2.1
    have c24 := g1.2.2.2.2.2.1
    have f24 : nF σ24 = nF τ + 1 := by omega
    obtain ⟨O24, M24⟩ := hO_fl (m := i17) X.1 F24 rfl g6 (fun o ho z => x0 o ho (by omega))
    refine IH _ _ w σ' h ((FW6.tr (wl_mono F20 (by decide))).tr (wl_mono F24 (by decide))) ⟨HS_w H20 F24 (by decide), ?_, O24, (M6.tr X.2.2.1).tr M24, g2.trans ((sm_fw F20 rfl).trans S6), fun j => (g3 j).trans ((ps_fw F20 rfl).trans (P6 j)), fun i z => ?_⟩
    · have e : a + 2 * nF σ24 = a + 2 * nF τ + 2 := by omega
      rw [e]; exact g1
    · by_cases q : i = i17
      · rw [q]; exact g5
      · show (m_i σ24 6 i 9).toInt = 1
        rw [g6 i q, (F20.2 6 i 9 rfl).1]
        exact T6 i z
/-- ticks -/
theorem f76 {a : Int} {N : Nat} {σ σ' : mS} {x1 w : Int32} (hs : HS σ) (hn : hN σ N) (ho : hO σ N) (h : CI (a + 2 * nF σ) σ) (ha : a + 12 ≤ 300) (p : P76 σ x1 w σ') : TI a N σ σ' ∧ fw_e w76 σ σ' ∧ w = m_i σ' 2 0 8 := by
  obtain ⟨k, hq⟩ := p
  exact q76_s hn ha k _ σ w σ' hq fw_e.rf' ⟨hs, h, ho, mO.rf, rfl, fun _ => rfl, fun _ z => z⟩
