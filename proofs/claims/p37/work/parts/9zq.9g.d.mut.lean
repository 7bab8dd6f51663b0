/-! the calls of the face, one by one -/
def z143s : mAl := ((yX11_breakTrade, cX11_breakTrade, 4, none, { frames := 7, cells := 3, slots := 21, locals := 190 }, []), rw_X11_breakTrade, false)
theorem z143s_at : m_alF[143]? = some z143s := rfl
theorem mu_t143 : mu_ck [0, 2] 143 40 1 6 1 [(0, (2, 11, 0, 0, 1, 1)), (1, (0, 0, 0, 199, 0, 0)), (2, (2, 10, 0, 199, 1, 1))] z143s = true := by decide +kernel
theorem mu_143 {σ0 σ : mS} {y1 : Int32} (hK : ac_KK ac_K0 σ) (hI : iv σ0 σ) (h5 : σ.1 1 ≤ 511) : CA 143 [rf 11 0, .inl y1] σ (muQ [0, 2] σ0 σ) := by
  refine mu_phase z143s_at (Nat.le_of_ble_eq_true rfl) mu_t143 ⟨⟨rfl, rfl, rfl, by decide, by decide⟩, T0_i, trivial⟩ hK (fun b σ' hb k f c => muQ_x hI hb k f c) (fun L σA hL hb kA fA cA => ?_)
  obtain ⟨w0, e0, g0⟩ := hb _ (List.mem_cons_self ..)
  obtain ⟨w1, e1, g1⟩ := hb _ (List.mem_cons_of_mem _ (List.mem_cons_self ..))
  obtain ⟨w2, e2, g2⟩ := hb _ (List.mem_cons_of_mem _ (List.mem_cons_of_mem _ (List.mem_cons_self ..)))
  obtain ⟨a0, a1, a2, a3, rfl⟩ := ls4 hL
  obtain rfl := m_ld_o (o := a0) rfl e0
  obtain rfl := m_ld_o (o := a1) rfl e1
  obtain rfl := m_ld_o (o := a2) rfl e2
  obtain rfl := T11_rf g0
  obtain ⟨x1, rfl, b1⟩ := Ti g1
  obtain ⟨q2, rfl⟩ := Tq g2
  have IA := iv_fp hI (eqS_fr fA cA)
  have hB : nB σA (c4 (m_nu σA 1 0) (σA.1 1) 0 (Int32.ofInt 12) x1 (Int32.ofInt 0) (Int32.ofInt 0)) := nB_nus.c4
  have v0 := c4_v (σ := m_nu σA 1 0) (a := σA.1 1) (k := 0) (w := (Int32.ofInt 12)) (x := x1) (y := (Int32.ofInt 0)) (u := (Int32.ofInt 0)) (fun f _ h v => ty1 f (by omega) v)
  obtain ⟨v, σC, σD, r1, r2, kD, fD, cD, iD⟩ := mu_mid (q := fit_12) IA (by omega) (kk_c4 (kk_nu kA) (by decide)) hB (by decide) ⟨⟨_, v0.1, by decide, by decide⟩, ⟨_, v0.2.1, b1.1, b1.2⟩, trivial⟩
  refine ⟨.inl none, σD, ?_, kD, fr0_tr fA fD, by omega, iD, trivial⟩
  have h110 := (hB.2.2.2 11 0 0 (fun z => by cases z.1)).trans (iv_110 IA)
  refine er_new rfl (by decide) ⟨by decide, by decide⟩ ?_
  refine er_p rfl rfl rfl rfl ?_
  refine er_p rfl rfl rfl rfl ?_
  refine er_p rfl rfl rfl rfl ?_
  refine er_p rfl rfl rfl rfl ?_
  refine er_p rfl rfl rfl rfl ?_
  refine er_spc (as := [.inl (Int32.ofInt 0), .inl (Int32.ofInt 0), .inl x1, .inl (Int32.ofInt 12)]) (v := none) rfl (by decide) rfl rfl rfl rfl ⟨Nat.le_of_ble_eq_true rfl, by decide, by decide⟩ er_18 ?_
  refine er_p rfl rfl rfl rfl ?_
  refine er_p rfl rfl rfl rfl ?_
  refine er_p rfl rfl rfl rfl ?_
  refine er_p rfl rfl rfl rfl ?_
  refine er_get rfl rfl h110 ?_
  refine er_p rfl rfl rfl rfl ?_
  refine er_vir (as := [rf 1 (σA.1 1)]) (v := some (.inr (.inl v))) rfl rfl rfl rfl rfl ⟨Nat.le_of_ble_eq_true rfl, by decide, by decide⟩ r1 ?_
  refine er_vir (as := [.inr (.inl v), rf 1 (σA.1 1)]) (v := some (.inr (.inl v))) rfl rfl rfl rfl rfl ⟨Nat.le_of_ble_eq_true rfl, by decide, by decide⟩ r2 ?_
  refine er_p rfl rfl rfl rfl ?_
  exact er_ret rfl (by decide) rfl
def z146s : mAl := ((yX11_scenario, cX11_scenario, 5, (some .int), { frames := 7, cells := 3, slots := 21, locals := 190 }, []), rw_X11_scenario, false)
theorem z146s_at : m_alF[146]? = some z146s := rfl
theorem mu_t146 : mu_ck [1, 2] 146 51 2 12 3 [(0, (2, 11, 0, 0, 1, 1)), (1, (0, 0, (-50), 50, 0, 0)), (2, (0, 0, (-50), 50, 0, 0)), (3, (0, 0, (-50), 50, 0, 0))] z146s = true := by decide +kernel
theorem mu_146 {σ0 σ : mS} {y1 y2 y3 : Int32} (hK : ac_KK ac_K0 σ) (hI : iv σ0 σ) (h5 : σ.1 1 ≤ 511) : CA 146 [rf 11 0, .inl y1, .inl y2, .inl y3] σ (muQ [1, 2] σ0 σ) := by
  refine mu_phase z146s_at (Nat.le_of_ble_eq_true rfl) mu_t146 ⟨⟨rfl, rfl, rfl, by decide, by decide⟩, T0_i, T0_i, T0_i, trivial⟩ hK (fun b σ' hb k f c => muQ_x hI hb k f c) (fun L σA hL hb kA fA cA => ?_)
  obtain ⟨w0, e0, g0⟩ := hb _ (List.mem_cons_self ..)
  obtain ⟨w1, e1, g1⟩ := hb _ (List.mem_cons_of_mem _ (List.mem_cons_self ..))
  obtain ⟨w2, e2, g2⟩ := hb _ (List.mem_cons_of_mem _ (List.mem_cons_of_mem _ (List.mem_cons_self ..)))
  obtain ⟨w3, e3, g3⟩ := hb _ (List.mem_cons_of_mem _ (List.mem_cons_of_mem _ (List.mem_cons_of_mem _ (List.mem_cons_self ..))))
  obtain ⟨a0, a1, a2, a3, a4, rfl⟩ := ls5 hL
  obtain rfl := m_ld_o (o := a0) rfl e0
  obtain rfl := m_ld_o (o := a1) rfl e1
  obtain rfl := m_ld_o (o := a2) rfl e2
  obtain rfl := m_ld_o (o := a3) rfl e3
  obtain rfl := T11_rf g0
  obtain ⟨x1, rfl, b1⟩ := Ti g1
  obtain ⟨x2, rfl, b2⟩ := Ti g2
  obtain ⟨x3, rfl, b3⟩ := Ti g3
  have IA := iv_fp hI (eqS_fr fA cA)
  have hB : nB σA (c4 (m_nu σA 1 0) (σA.1 1) 0 (Int32.ofInt 13) x1 x2 x3) := nB_nus.c4
  have v0 := c4_v (σ := m_nu σA 1 0) (a := σA.1 1) (k := 0) (w := (Int32.ofInt 13)) (x := x1) (y := x2) (u := x3) (fun f _ h v => ty1 f (by omega) v)
  obtain ⟨v, σC, σD, r1, r2, kD, fD, cD, iD⟩ := mu_mid (q := fit_13) IA (by omega) (kk_c4 (kk_nu kA) (by decide)) hB (by decide) ⟨⟨_, v0.1, by decide, by decide⟩, ⟨_, v0.2.1, b1.1, b1.2⟩, ⟨_, v0.2.2.1, b2.1, b2.2⟩, ⟨_, v0.2.2.2, b3.1, b3.2⟩, trivial⟩
  refine ⟨.inl (some (.inl v.toInt32)), σD, ?_, kD, fr0_tr fA fD, by omega, iD, trivial⟩
  have h110 := (hB.2.2.2 11 0 0 (fun z => by cases z.1)).trans (iv_110 IA)
  refine er_new rfl (by decide) ⟨by decide, by decide⟩ ?_
  refine er_p rfl rfl rfl rfl ?_
  refine er_p rfl rfl rfl rfl ?_
  refine er_p rfl rfl rfl rfl ?_
  refine er_p rfl rfl rfl rfl ?_
  refine er_p rfl rfl rfl rfl ?_
  refine er_spc (as := [.inl x3, .inl x2, .inl x1, .inl (Int32.ofInt 13)]) (v := none) rfl (by decide) rfl rfl rfl rfl ⟨Nat.le_of_ble_eq_true rfl, by decide, by decide⟩ er_18 ?_
  refine er_p rfl rfl rfl rfl ?_
  refine er_p rfl rfl rfl rfl ?_
  refine er_p rfl rfl rfl rfl ?_
  refine er_p rfl rfl rfl rfl ?_
  refine er_get rfl rfl h110 ?_
  refine er_p rfl rfl rfl rfl ?_
  refine er_vir (as := [rf 1 (σA.1 1)]) (v := some (.inr (.inl v))) rfl rfl rfl rfl rfl ⟨Nat.le_of_ble_eq_true rfl, by decide, by decide⟩ r1 ?_
  refine er_vir (as := [.inr (.inl v), rf 1 (σA.1 1)]) (v := some (.inr (.inl v))) rfl rfl rfl rfl rfl ⟨Nat.le_of_ble_eq_true rfl, by decide, by decide⟩ r2 ?_
  refine er_p rfl rfl rfl rfl ?_
  exact er_iret rfl (by decide) (Or.inl rfl)
def z150s : mAl := ((yX11_tick, cX11_tick, 3, (some .int), { frames := 7, cells := 2, slots := 15, locals := 190 }, []), rw_X11_tick, false)
theorem z150s_at : m_alF[150]? = some z150s := rfl
theorem mu_t150 : mu_ck [1] 150 10 1 6 1 [(0, (2, 11, 0, 0, 1, 1)), (1, (0, 0, 1, 50, 0, 0))] z150s = true := by decide +kernel
theorem mu_150 {σ0 σ : mS} {y1 : Int32} (hK : ac_KK ac_K0 σ) (hI : iv σ0 σ) (h5 : σ.1 1 ≤ 511) : CA 150 [rf 11 0, .inl y1] σ (muQ [1] σ0 σ) := by
  refine mu_phase z150s_at (Nat.le_of_ble_eq_true rfl) mu_t150 ⟨⟨rfl, rfl, rfl, by decide, by decide⟩, T0_i, trivial⟩ hK (fun b σ' hb k f c => muQ_x hI hb k f c) (fun L σA hL hb kA fA cA => ?_)
  obtain ⟨w0, e0, g0⟩ := hb _ (List.mem_cons_self ..)
  obtain ⟨w1, e1, g1⟩ := hb _ (List.mem_cons_of_mem _ (List.mem_cons_self ..))
  obtain ⟨a0, a1, a2, rfl⟩ := ls3 hL
  obtain rfl := m_ld_o (o := a0) rfl e0
  obtain rfl := m_ld_o (o := a1) rfl e1
  obtain rfl := T11_rf g0
  obtain ⟨x1, rfl, b1⟩ := Ti g1
  have IA := iv_fp hI (eqS_fr fA cA)
  have hB : nB σA (c4 (m_nu σA 1 0) (σA.1 1) 0 (Int32.ofInt 14) x1 (Int32.ofInt 0) (Int32.ofInt 0)) := nB_nus.c4
  have v0 := c4_v (σ := m_nu σA 1 0) (a := σA.1 1) (k := 0) (w := (Int32.ofInt 14)) (x := x1) (y := (Int32.ofInt 0)) (u := (Int32.ofInt 0)) (fun f _ h v => ty1 f (by omega) v)
  obtain ⟨v, σC, σD, r1, r2, kD, fD, cD, iD⟩ := mu_mid (q := fit_14) IA (by omega) (kk_c4 (kk_nu kA) (by decide)) hB (by decide) ⟨⟨_, v0.1, by decide, by decide⟩, ⟨_, v0.2.1, b1.1, b1.2⟩, trivial⟩
  refine ⟨.inl (some (.inl v.toInt32)), σD, ?_, kD, fr0_tr fA fD, by omega, iD, trivial⟩
  have h110 := (hB.2.2.2 11 0 0 (fun z => by cases z.1)).trans (iv_110 IA)
  refine er_new rfl (by decide) ⟨by decide, by decide⟩ ?_
  refine er_p rfl rfl rfl rfl ?_
  refine er_p rfl rfl rfl rfl ?_
  refine er_p rfl rfl rfl rfl ?_
  refine er_p rfl rfl rfl rfl ?_
  refine er_p rfl rfl rfl rfl ?_
  refine er_spc (as := [.inl (Int32.ofInt 0), .inl (Int32.ofInt 0), .inl x1, .inl (Int32.ofInt 14)]) (v := none) rfl (by decide) rfl rfl rfl rfl ⟨Nat.le_of_ble_eq_true rfl, by decide, by decide⟩ er_18 ?_
  refine er_p rfl rfl rfl rfl ?_
  refine er_p rfl rfl rfl rfl ?_
  refine er_p rfl rfl rfl rfl ?_
  refine er_p rfl rfl rfl rfl ?_
  refine er_get rfl rfl h110 ?_
  refine er_p rfl rfl rfl rfl ?_
  refine er_vir (as := [rf 1 (σA.1 1)]) (v := some (.inr (.inl v))) rfl rfl rfl rfl rfl ⟨Nat.le_of_ble_eq_true rfl, by decide, by decide⟩ r1 ?_
  refine er_vir (as := [.inr (.inl v), rf 1 (σA.1 1)]) (v := some (.inr (.inl v))) rfl rfl rfl rfl rfl ⟨Nat.le_of_ble_eq_true rfl, by decide, by decide⟩ r2 ?_
  refine er_p rfl rfl rfl rfl ?_
  exact er_iret rfl (by decide) (Or.inl rfl)
def z151s : mAl := ((yX11_sell, cX11_sell, 5, (some .long), { frames := 7, cells := 4, slots := 27, locals := 190 }, []), rw_X11_sell, false)
theorem z151s_at : m_alF[151]? = some z151s := rfl
theorem mu_t151 : mu_ck [0, 1, 2] 151 70 3 18 3 [(0, (2, 11, 0, 0, 1, 1)), (1, (0, 0, 0, 2, 0, 0)), (2, (0, 0, 0, 4, 0, 0)), (3, (0, 0, 1, 9999, 0, 0))] z151s = true := by decide +kernel
theorem mu_151 {σ0 σ : mS} {y1 y2 y3 : Int32} (hK : ac_KK ac_K0 σ) (hI : iv σ0 σ) (h5 : σ.1 1 ≤ 511) : CA 151 [rf 11 0, .inl y1, .inl y2, .inl y3] σ (muQ [0, 1, 2] σ0 σ) := by
  refine mu_phase z151s_at (Nat.le_of_ble_eq_true rfl) mu_t151 ⟨⟨rfl, rfl, rfl, by decide, by decide⟩, T0_i, T0_i, T0_i, trivial⟩ hK (fun b σ' hb k f c => muQ_x hI hb k f c) (fun L σA hL hb kA fA cA => ?_)
  obtain ⟨w0, e0, g0⟩ := hb _ (List.mem_cons_self ..)
  obtain ⟨w1, e1, g1⟩ := hb _ (List.mem_cons_of_mem _ (List.mem_cons_self ..))
  obtain ⟨w2, e2, g2⟩ := hb _ (List.mem_cons_of_mem _ (List.mem_cons_of_mem _ (List.mem_cons_self ..)))
  obtain ⟨w3, e3, g3⟩ := hb _ (List.mem_cons_of_mem _ (List.mem_cons_of_mem _ (List.mem_cons_of_mem _ (List.mem_cons_self ..))))
  obtain ⟨a0, a1, a2, a3, a4, rfl⟩ := ls5 hL
  obtain rfl := m_ld_o (o := a0) rfl e0
  obtain rfl := m_ld_o (o := a1) rfl e1
  obtain rfl := m_ld_o (o := a2) rfl e2
  obtain rfl := m_ld_o (o := a3) rfl e3
  obtain rfl := T11_rf g0
  obtain ⟨x1, rfl, b1⟩ := Ti g1
  obtain ⟨x2, rfl, b2⟩ := Ti g2
  obtain ⟨x3, rfl, b3⟩ := Ti g3
  have IA := iv_fp hI (eqS_fr fA cA)
  have hB : nB σA (c4 (m_nu σA 1 0) (σA.1 1) 0 (Int32.ofInt 15) x1 x2 x3) := nB_nus.c4
  have v0 := c4_v (σ := m_nu σA 1 0) (a := σA.1 1) (k := 0) (w := (Int32.ofInt 15)) (x := x1) (y := x2) (u := x3) (fun f _ h v => ty1 f (by omega) v)
  obtain ⟨v, σC, σD, r1, r2, kD, fD, cD, iD⟩ := mu_mid (q := fit_15) IA (by omega) (kk_c4 (kk_nu kA) (by decide)) hB (by decide) ⟨⟨_, v0.1, by decide, by decide⟩, ⟨_, v0.2.1, b1.1, b1.2⟩, ⟨_, v0.2.2.1, b2.1, b2.2⟩, ⟨_, v0.2.2.2, b3.1, b3.2⟩, trivial⟩
  refine ⟨.inl (some (.inr (.inl v))), σD, ?_, kD, fr0_tr fA fD, by omega, iD, trivial⟩
  have h110 := (hB.2.2.2 11 0 0 (fun z => by cases z.1)).trans (iv_110 IA)
  refine er_new rfl (by decide) ⟨by decide, by decide⟩ ?_
  refine er_p rfl rfl rfl rfl ?_
  refine er_p rfl rfl rfl rfl ?_
  refine er_p rfl rfl rfl rfl ?_
  refine er_p rfl rfl rfl rfl ?_
  refine er_p rfl rfl rfl rfl ?_
  refine er_spc (as := [.inl x3, .inl x2, .inl x1, .inl (Int32.ofInt 15)]) (v := none) rfl (by decide) rfl rfl rfl rfl ⟨Nat.le_of_ble_eq_true rfl, by decide, by decide⟩ er_18 ?_
  refine er_p rfl rfl rfl rfl ?_
  refine er_p rfl rfl rfl rfl ?_
  refine er_p rfl rfl rfl rfl ?_
  refine er_p rfl rfl rfl rfl ?_
  refine er_get rfl rfl h110 ?_
  refine er_p rfl rfl rfl rfl ?_
  refine er_vir (as := [rf 1 (σA.1 1)]) (v := some (.inr (.inl v))) rfl rfl rfl rfl rfl ⟨Nat.le_of_ble_eq_true rfl, by decide, by decide⟩ r1 ?_
  refine er_vir (as := [.inr (.inl v), rf 1 (σA.1 1)]) (v := some (.inr (.inl v))) rfl rfl rfl rfl rfl ⟨Nat.le_of_ble_eq_true rfl, by decide, by decide⟩ r2 ?_
  exact er_lret rfl (by decide) rfl
def z152s : mAl := ((yX11_settle, cX11_settle, 2, (some .long), { frames := 7, cells := 2, slots := 15, locals := 190 }, []), rw_X11_settle, false)
theorem z152s_at : m_alF[152]? = some z152s := rfl
theorem mu_t152 : mu_ck [2] 152 21 1 6 0 [(0, (2, 11, 0, 0, 1, 1))] z152s = true := by decide +kernel
theorem mu_152 {σ0 σ : mS} (hK : ac_KK ac_K0 σ) (hI : iv σ0 σ) (h5 : σ.1 1 ≤ 511) : CA 152 [rf 11 0] σ (muQ [2] σ0 σ) := by
  refine mu_phase z152s_at (Nat.le_of_ble_eq_true rfl) mu_t152 ⟨⟨rfl, rfl, rfl, by decide, by decide⟩, trivial⟩ hK (fun b σ' hb k f c => muQ_x hI hb k f c) (fun L σA hL hb kA fA cA => ?_)
  obtain ⟨w0, e0, g0⟩ := hb _ (List.mem_cons_self ..)
  obtain ⟨a0, a1, rfl⟩ := ls2 hL
  obtain rfl := m_ld_o (o := a0) rfl e0
  obtain rfl := T11_rf g0
  have IA := iv_fp hI (eqS_fr fA cA)
  have hB : nB σA (c4 (m_nu σA 1 0) (σA.1 1) 0 (Int32.ofInt 16) (Int32.ofInt 0) (Int32.ofInt 0) (Int32.ofInt 0)) := nB_nus.c4
  have v0 := c4_v (σ := m_nu σA 1 0) (a := σA.1 1) (k := 0) (w := (Int32.ofInt 16)) (x := (Int32.ofInt 0)) (y := (Int32.ofInt 0)) (u := (Int32.ofInt 0)) (fun f _ h v => ty1 f (by omega) v)
  obtain ⟨v, σC, σD, r1, r2, kD, fD, cD, iD⟩ := mu_mid (q := fit_16) IA (by omega) (kk_c4 (kk_nu kA) (by decide)) hB (by decide) ⟨⟨_, v0.1, by decide, by decide⟩, trivial⟩
  refine ⟨.inl (some (.inr (.inl v))), σD, ?_, kD, fr0_tr fA fD, by omega, iD, trivial⟩
  have h110 := (hB.2.2.2 11 0 0 (fun z => by cases z.1)).trans (iv_110 IA)
  refine er_new rfl (by decide) ⟨by decide, by decide⟩ ?_
  refine er_p rfl rfl rfl rfl ?_
  refine er_p rfl rfl rfl rfl ?_
  refine er_p rfl rfl rfl rfl ?_
  refine er_p rfl rfl rfl rfl ?_
  refine er_p rfl rfl rfl rfl ?_
  refine er_spc (as := [.inl (Int32.ofInt 0), .inl (Int32.ofInt 0), .inl (Int32.ofInt 0), .inl (Int32.ofInt 16)]) (v := none) rfl (by decide) rfl rfl rfl rfl ⟨Nat.le_of_ble_eq_true rfl, by decide, by decide⟩ er_18 ?_
  refine er_p rfl rfl rfl rfl ?_
  refine er_p rfl rfl rfl rfl ?_
  refine er_p rfl rfl rfl rfl ?_
  refine er_p rfl rfl rfl rfl ?_
  refine er_get rfl rfl h110 ?_
  refine er_p rfl rfl rfl rfl ?_
  refine er_vir (as := [rf 1 (σA.1 1)]) (v := some (.inr (.inl v))) rfl rfl rfl rfl rfl ⟨Nat.le_of_ble_eq_true rfl, by decide, by decide⟩ r1 ?_
  refine er_vir (as := [.inr (.inl v), rf 1 (σA.1 1)]) (v := some (.inr (.inl v))) rfl rfl rfl rfl rfl ⟨Nat.le_of_ble_eq_true rfl, by decide, by decide⟩ r2 ?_
  exact er_lret rfl (by decide) rfl
