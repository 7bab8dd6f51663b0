/-! a clearing and a hall are cleared, by hand -/
def cs_Y (B : Nat → Nat) (σ : mS) : Prop :=
  (m_get σ 2 (B 2) 0 = rf 16 (B 16) ∧ m_get σ 2 (B 2) 1 = rf 6 (B 6) ∧ m_get σ 2 (B 2) 2 = rf 18 (B 18)) ∧ (∀ m, m < 6 → m_get σ 6 (B 6 + m) 1 = rf 14 (B 14 + m)) ∧
  (∀ k, k < 5 → m_get σ 16 (B 16) k = rf 6 (B 6 + 1 + k)) ∧ (∀ k, k < 3 → m_get σ 18 (B 18) k = rf 8 (B 8 + k)) ∧ σ.2.1 16 (B 16) = 5 ∧ σ.2.1 18 (B 18) = 3 ∧ ∀ m, m < 6 → σ.2.1 14 (B 14 + m) = 3
/-- the members lo to hi are cleared -/
def zM (B : Nat → Nat) (lo hi c j k : Nat) : Prop := (c = 14 ∧ B 14 + lo ≤ j ∧ j < B 14 + hi ∧ k < 3) ∨ (c = 6 ∧ B 6 + lo ≤ j ∧ j < B 6 + hi ∧ 2 ≤ k ∧ k ≤ 10)
def zP (B : Nat → Nat) (i c j k : Nat) : Prop := zM B 0 6 c j k ∨ (c = 8 ∧ B 8 ≤ j ∧ j < B 8 + i ∧ 1 ≤ k ∧ k ≤ 8)
def z21s : mAl := ((yX2_clear, cX2_clear, 5, none, { frames := 1, cells := 0, slots := 0, locals := 21 }, []), rw_X2_clear, false)
theorem z21s_at : m_alF[21]? = some z21s := rfl
theorem cm_loop {σ : mS} {B : Nat → Nat} {q : mX × mS → Prop} (Y : cs_Y B σ) (K : ∀ τ l4, zs (zM B 1 6) σ τ → ∃ w, ER 21 z21s (31, [some (rf 2 (B 2)), some (rf 16 (B 16)), some (.inl (Int32.ofNat 5)), some (.inl (Int32.ofNat 5)), l4], [], τ, 0, 0) w ∧ q w) : ∀ (m i : Nat) (l4 : Option mV) (τ : mS), i + m = 5 → zs (zM B 1 (1 + i)) σ τ → ∃ w, ER 21 z21s (10, [some (rf 2 (B 2)), some (rf 16 (B 16)), some (.inl (Int32.ofNat 5)), some (.inl (Int32.ofNat i)), l4], [], τ, 0, 0) w ∧ q w
  | 0, i, l4, τ, hm, h => by
    have e : i = 5 := by omega
    subst e
    obtain ⟨w, k1, k2⟩ := K τ l4 h
    refine ⟨w, ?_, k2⟩
    refine er_p rfl rfl rfl rfl ?_
    refine er_p rfl rfl rfl rfl ?_
    refine er_ct rfl rfl rfl ((i32_ge 5 (by decide) 5 (by decide)).mpr (Nat.le_refl _)) ?_
    exact k1
  | m + 1, i, l4, τ, hm, h => by
    have hi : i < 5 := by omega
    have ha : m_get τ 16 (B 16) i = rf 6 (B 6 + 1 + i) := (h.2.2.2 16 (B 16) i (fun z => z.elim (fun z => by cases z.1) (fun z => by cases z.1))).trans (Y.2.2.1 i hi)
    have hl : τ.2.1 16 (B 16) = 5 := by rw [h.2.1]; exact Y.2.2.2.2.1
    have hp : m_get τ 6 (B 6 + 1 + i) 1 = rf 14 (B 14 + (1 + i)) := (h.2.2.2 6 _ 1 (fun z => z.elim (fun z => by cases z.1) (fun z => by omega))).trans ((congrArg (fun x => m_get σ 6 x 1) (show B 6 + 1 + i = B 6 + (1 + i) by omega)).trans (Y.2.1 (1 + i) (by omega)))
    have hq : τ.2.1 14 (B 14 + (1 + i)) = 3 := by rw [h.2.1]; exact Y.2.2.2.2.2.2 (1 + i) (by omega)
    obtain ⟨τ1, r1, g1⟩ := cr_89 hp hq
    obtain ⟨w, k1, k2⟩ := cm_loop Y K m (i + 1) (some (rf 6 (B 6 + 1 + i))) τ1 (by omega) ((h.tr g1).ex (fun c j k => by unfold zM; omega))
    refine ⟨w, ?_, k2⟩
    refine er_p rfl rfl rfl rfl ?_
    refine er_p rfl rfl rfl rfl ?_
    refine er_cf rfl rfl rfl (fun z => by have := (i32_ge i (by omega) 5 (by decide)).mp z; omega) ?_
    refine er_p rfl rfl rfl rfl ?_
    refine er_p rfl rfl rfl rfl ?_
    refine er_ald (l := i) rfl (i32_nat i (by omega)) ⟨⟨(by show 16 ≤ 16; decide), (by show 16 ≤ 21; decide)⟩, ?_⟩ ha ?_
    · show vp_in (Int32.ofNat i) (τ.2.1 16 (B 16))
      rw [hl]
      exact i32_vp hi (by decide)
    refine er_p rfl rfl rfl rfl ?_
    refine er_p rfl rfl rfl rfl ?_
    refine er_vir (as := []) (v := none) rfl rfl rfl rfl rfl ⟨Nat.le_of_ble_eq_true rfl, ⟨by decide, by decide⟩⟩ r1 ?_
    refine er_p rfl rfl rfl rfl ?_
    refine er_p rfl rfl rfl rfl ?_
    have e1 : Int32.ofNat i + Int32.ofInt 1 = Int32.ofNat (i + 1) := i32_inc i (by omega)
    rw [← e1] at k1
    exact k1
theorem cp_loop {σ : mS} {B : Nat → Nat} {q : mX × mS → Prop} (Y : cs_Y B σ) (K : ∀ τ l4, zs (zP B 3) σ τ → ∃ w, ER 21 z21s (69, [some (rf 2 (B 2)), some (rf 18 (B 18)), some (.inl (Int32.ofNat 3)), some (.inl (Int32.ofNat 3)), l4], [], τ, 0, 0) w ∧ q w) : ∀ (m i : Nat) (l4 : Option mV) (τ : mS), i + m = 3 → zs (zP B i) σ τ → ∃ w, ER 21 z21s (48, [some (rf 2 (B 2)), some (rf 18 (B 18)), some (.inl (Int32.ofNat 3)), some (.inl (Int32.ofNat i)), l4], [], τ, 0, 0) w ∧ q w
  | 0, i, l4, τ, hm, h => by
    have e : i = 3 := by omega
    subst e
    obtain ⟨w, k1, k2⟩ := K τ l4 h
    refine ⟨w, ?_, k2⟩
    refine er_p rfl rfl rfl rfl ?_
    refine er_p rfl rfl rfl rfl ?_
    refine er_ct rfl rfl rfl ((i32_ge 3 (by decide) 3 (by decide)).mpr (Nat.le_refl _)) ?_
    exact k1
  | m + 1, i, l4, τ, hm, h => by
    have hi : i < 3 := by omega
    have ha : m_get τ 18 (B 18) i = rf 8 (B 8 + i) := (h.2.2.2 18 (B 18) i (fun z => by unfold zP zM at z; omega)).trans (Y.2.2.2.1 i hi)
    have hl : τ.2.1 18 (B 18) = 3 := by rw [h.2.1]; exact Y.2.2.2.2.2.1
    obtain ⟨τ1, r1, g1⟩ := cr_111 (τ := τ) (a := B 8 + i)
    obtain ⟨w, k1, k2⟩ := cp_loop Y K m (i + 1) (some (rf 8 (B 8 + i))) τ1 (by omega) ((h.tr g1).ex (fun c j k => by unfold zP zM; omega))
    refine ⟨w, ?_, k2⟩
    refine er_p rfl rfl rfl rfl ?_
    refine er_p rfl rfl rfl rfl ?_
    refine er_cf rfl rfl rfl (fun z => by have := (i32_ge i (by omega) 3 (by decide)).mp z; omega) ?_
    refine er_p rfl rfl rfl rfl ?_
    refine er_p rfl rfl rfl rfl ?_
    refine er_ald (l := i) rfl (i32_nat i (by omega)) ⟨⟨(by show 16 ≤ 18; decide), (by show 18 ≤ 21; decide)⟩, ?_⟩ ha ?_
    · show vp_in (Int32.ofNat i) (τ.2.1 18 (B 18))
      rw [hl]
      exact i32_vp hi (by decide)
    refine er_p rfl rfl rfl rfl ?_
    refine er_p rfl rfl rfl rfl ?_
    refine er_vir (as := []) (v := none) rfl rfl rfl rfl rfl ⟨Nat.le_of_ble_eq_true rfl, ⟨by decide, by decide⟩⟩ r1 ?_
    refine er_p rfl rfl rfl rfl ?_
    refine er_p rfl rfl rfl rfl ?_
    have e1 : Int32.ofNat i + Int32.ofInt 1 = Int32.ofNat (i + 1) := i32_inc i (by omega)
    rw [← e1] at k1
    exact k1
/-- what a clearing's clear clears -/
def zC (B : Nat → Nat) (c j k : Nat) : Prop := zP B 3 c j k ∨ (c = 2 ∧ j = B 2 ∧ 5 ≤ k ∧ k ≤ 10)
theorem cr_21 {σ : mS} {B : Nat → Nat} (Y : cs_Y B σ) : ∃ τ, ev_run sm_all 21 [rf 2 (B 2)] σ (.inl none) τ ∧ zs (zC B) σ τ := by
  suffices H : ∃ w, ER 21 z21s (0, m_L0 z21s.1.2.2.1 [rf 2 (B 2)], [], σ, 0, 0) w ∧ (w.1 = .inl none ∧ zs (zC B) σ w.2) by
    obtain ⟨⟨x, τ⟩, h1, h2, h3⟩ := H
    cases h2
    exact ⟨τ, er_go z21s_at (Nat.le_of_ble_eq_true rfl) h1, h3⟩
  have last : ∀ τ l4, zs (zP B 3) σ τ → ∃ w, ER 21 z21s (69, [some (rf 2 (B 2)), some (rf 18 (B 18)), some (.inl (Int32.ofNat 3)), some (.inl (Int32.ofNat 3)), l4], [], τ, 0, 0) w ∧ (w.1 = .inl none ∧ zs (zC B) σ w.2) := by
    intro τ l4 h
    refine ⟨(.inl none, _), ?_, rfl, (((((((h.u0 2 (B 2) 4).up 5 (.inl (Int32.ofInt 0)) rfl (by decide) rfl (Or.inl rfl)).up 6 (.inl (Int32.ofInt 0)) rfl (by decide) rfl (Or.inl rfl)).up 7 (.inl (Int32.ofInt 0)) rfl (by decide) rfl (Or.inl rfl)).up 8 (.inl (Int32.ofInt 0)) rfl (by decide) rfl (Or.inl rfl)).up 9 (.inr (.inr none)) rfl (by decide) rfl rfl).up 10 (.inr (.inl (Int64.ofNat 0))) rfl (by decide) rfl rfl)⟩
    refine er_p rfl rfl rfl rfl ?_
    refine er_p rfl rfl rfl rfl ?_
    refine er_put rfl rfl (Or.inl rfl) ?_
    refine er_p rfl rfl rfl rfl ?_
    refine er_p rfl rfl rfl rfl ?_
    refine er_put rfl rfl (Or.inl rfl) ?_
    refine er_p rfl rfl rfl rfl ?_
    refine er_p rfl rfl rfl rfl ?_
    refine er_put rfl rfl (Or.inl rfl) ?_
    refine er_p rfl rfl rfl rfl ?_
    refine er_p rfl rfl rfl rfl ?_
    refine er_put rfl rfl (Or.inl rfl) ?_
    refine er_p rfl rfl rfl rfl ?_
    refine er_p rfl rfl rfl rfl ?_
    refine er_put rfl rfl rfl ?_
    refine er_p rfl rfl rfl rfl ?_
    refine er_p rfl rfl rfl rfl ?_
    refine er_put rfl rfl rfl ?_
    exact er_ret rfl (by decide) rfl
  have house : ∀ τ l4, zs (zM B 1 6) σ τ → ∃ w, ER 21 z21s (31, [some (rf 2 (B 2)), some (rf 16 (B 16)), some (.inl (Int32.ofNat 5)), some (.inl (Int32.ofNat 5)), l4], [], τ, 0, 0) w ∧ (w.1 = .inl none ∧ zs (zC B) σ w.2) := by
    intro τ l4 h
    have hp : m_get τ 6 (B 6) 1 = rf 14 (B 14) := (h.2.2.2 6 _ 1 (fun z => by unfold zM at z; omega)).trans (Y.2.1 0 (by decide))
    have hq : τ.2.1 14 (B 14) = 3 := by rw [h.2.1]; exact Y.2.2.2.2.2.2 0 (by decide)
    have h1 : m_get τ 2 (B 2) 1 = rf 6 (B 6) := (h.2.2.2 2 _ 1 (fun z => by unfold zM at z; omega)).trans Y.1.2.1
    obtain ⟨τ1, r1, g1⟩ := cr_89 hp hq
    have h' : zs (zP B 0) σ τ1 := (h.tr g1).ex (fun c j k => by unfold zP zM; omega)
    have h2 : m_get τ1 2 (B 2) 2 = rf 18 (B 18) := (h'.2.2.2 2 _ 2 (fun z => by unfold zP zM at z; omega)).trans Y.1.2.2
    have hl : τ1.2.1 18 (B 18) = 3 := by rw [h'.2.1]; exact Y.2.2.2.2.2.1
    obtain ⟨w, k1, k2⟩ := cp_loop Y last 3 0 l4 τ1 rfl h'
    refine ⟨w, ?_, k2⟩
    refine er_p rfl rfl rfl rfl ?_
    refine er_get rfl rfl h1 ?_
    refine er_vir (as := []) (v := none) rfl rfl rfl rfl rfl ⟨Nat.le_of_ble_eq_true rfl, ⟨by decide, by decide⟩⟩ r1 ?_
    refine er_p rfl rfl rfl rfl ?_
    refine er_get rfl rfl h2 ?_
    refine er_p rfl rfl rfl rfl ?_
    refine er_p rfl rfl rfl rfl ?_
    refine er_len (l := 3) rfl ⟨(by show 13 ≤ 18; decide), (by show 18 ≤ 21; decide)⟩ hl ?_
    refine er_p rfl rfl rfl rfl ?_
    refine er_p rfl rfl rfl rfl ?_
    refine er_p rfl rfl rfl rfl ?_
    exact k1
  have s0 : zs (zM B 1 (1 + 0)) σ σ := zs.rf'.ex (fun c j k => ⟨fun x => x.elim, fun x => by unfold zM at x; omega⟩)
  obtain ⟨w, k1, k2⟩ := cm_loop Y house 5 0 none σ rfl s0
  refine ⟨w, ?_, k2⟩
  refine er_p rfl rfl rfl rfl ?_
  refine er_get rfl rfl Y.1.1 ?_
  refine er_p rfl rfl rfl rfl ?_
  refine er_p rfl rfl rfl rfl ?_
  refine er_len (l := 5) rfl ⟨(by show 13 ≤ 16; decide), (by show 16 ≤ 21; decide)⟩ Y.2.2.2.2.1 ?_
  refine er_p rfl rfl rfl rfl ?_
  refine er_p rfl rfl rfl rfl ?_
  refine er_p rfl rfl rfl rfl ?_
  exact k1
def z59s : mAl := ((yX4_clear, cX4_clear, 1, none, { frames := 2, cells := 0, slots := 0, locals := 45 }, []), rw_X4_clear, false)
theorem z59s_at : m_alF[59]? = some z59s := rfl
/-- what a hall's clear clears -/
def zH (B : Nat → Nat) (c j k : Nat) : Prop := zC B c j k ∨ (c = 0 ∧ j = B 0 ∧ 1 ≤ k ∧ k ≤ 2)
theorem cr_59 {σ : mS} {B : Nat → Nat} (h0 : m_get σ 4 (B 4) 0 = rf 0 (B 0)) (h1 : m_get σ 4 (B 4) 1 = rf 2 (B 2)) (Y : cs_Y B σ) : ∃ τ, ev_run sm_all 59 [rf 4 (B 4)] σ (.inl none) τ ∧ zs (zH B) σ τ := by
  obtain ⟨τ1, r1, g1⟩ := cr_1 (τ := σ) (a := B 0)
  have n : ∀ c j k, c ≠ 0 → m_get τ1 c j k = m_get σ c j k := fun c j k hc => g1.2.2.2 c j k (fun z => hc z.1)
  obtain ⟨⟨y1, y2, y3⟩, y4, y5, y6, y7, y8, y9⟩ := Y
  have Y1 : cs_Y B τ1 := by
    refine ⟨⟨(n 2 _ _ (by decide)).trans y1, (n 2 _ _ (by decide)).trans y2, (n 2 _ _ (by decide)).trans y3⟩, fun m hm => (n 6 _ _ (by decide)).trans (y4 m hm), fun k hk => (n 16 _ _ (by decide)).trans (y5 k hk), fun k hk => (n 18 _ _ (by decide)).trans (y6 k hk), ?_, ?_, fun m hm => ?_⟩
    · rw [g1.2.1]; exact y7
    · rw [g1.2.1]; exact y8
    · rw [g1.2.1]; exact y9 m hm
  obtain ⟨τ2, r2, g2⟩ := cr_21 Y1
  refine ⟨τ2, er_go z59s_at (Nat.le_of_ble_eq_true rfl) ?_, (g1.tr g2).ex (fun c j k => ?_)⟩
  · refine er_p rfl rfl rfl rfl ?_
    refine er_get rfl rfl h0 ?_
    refine er_vir (as := []) (v := none) rfl rfl rfl rfl rfl ⟨Nat.le_of_ble_eq_true rfl, ⟨by decide, by decide⟩⟩ r1 ?_
    refine er_p rfl rfl rfl rfl ?_
    refine er_get rfl rfl ((n 4 _ _ (by decide)).trans h1) ?_
    refine er_vir (as := []) (v := none) rfl rfl rfl rfl rfl ⟨Nat.le_of_ble_eq_true rfl, ⟨by decide, by decide⟩⟩ r2 ?_
    exact er_ret rfl (by decide) rfl
  · exact ⟨fun x => x.elim Or.inr Or.inl, fun x => x.elim Or.inr Or.inl⟩
