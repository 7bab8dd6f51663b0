/-! the calls of the face, one by one -/
def z134s : mAl := ((yX11_band, cX11_band, 4, (some .int), { frames := 7, cells := 3, slots := 21, locals := 190 }, []), rw_X11_band, false)
theorem z134s_at : m_alF[134]? = some z134s := rfl
theorem mu_t134 : mu_ck [0, 1] 134 17 2 12 2 [(0, (2, 11, 0, 0, 1, 1)), (1, (0, 0, 0, 2, 0, 0)), (2, (0, 0, 0, 50, 0, 0))] z134s = true := by decide +kernel
theorem mu_134 {σ0 σ : mS} {y1 y2 : Int32} (hK : ac_KK ac_K0 σ) (hI : iv σ0 σ) (h5 : σ.1 1 ≤ 511) : CA 134 [rf 11 0, .inl y1, .inl y2] σ (muQ [0, 1] σ0 σ) := by
  refine mu_phase z134s_at (Nat.le_of_ble_eq_true rfl) mu_t134 ⟨⟨rfl, rfl, rfl, by decide, by decide⟩, T0_i, T0_i, trivial⟩ hK (fun b σ' hb k f c => muQ_x hI hb k f c) (fun L σA hL hb kA fA cA => ?_)
  obtain ⟨w0, e0, g0⟩ := hb _ (List.mem_cons_self ..)
  obtain ⟨w1, e1, g1⟩ := hb _ (List.mem_cons_of_mem _ (List.mem_cons_self ..))
  obtain ⟨w2, e2, g2⟩ := hb _ (List.mem_cons_of_mem _ (List.mem_cons_of_mem _ (List.mem_cons_self ..)))
  obtain ⟨a0, a1, a2, a3, rfl⟩ := ls4 hL
  obtain rfl := m_ld_o (o := a0) rfl e0
  obtain rfl := m_ld_o (o := a1) rfl e1
  obtain rfl := m_ld_o (o := a2) rfl e2
  obtain rfl := T11_rf g0
  obtain ⟨x1, rfl, b1⟩ := Ti g1
  obtain ⟨x2, rfl, b2⟩ := Ti g2
  have IA := iv_fp hI (eqS_fr fA cA)
  have hB : nB σA (c4 (m_nu σA 1 0) (σA.1 1) 0 (Int32.ofInt 7) x1 x2 (Int32.ofInt 0)) := nB_nus.c4
  have v0 := c4_v (σ := m_nu σA 1 0) (a := σA.1 1) (k := 0) (w := (Int32.ofInt 7)) (x := x1) (y := x2) (u := (Int32.ofInt 0)) (fun f _ h v => ty1 f (by omega) v)
  obtain ⟨v, σC, σD, r1, r2, kD, fD, cD, iD⟩ := mu_mid (q := fit_7) IA (by omega) (kk_c4 (kk_nu kA) (by decide)) hB (by decide) ⟨⟨_, v0.1, by decide, by decide⟩, ⟨_, v0.2.1, b1.1, b1.2⟩, ⟨_, v0.2.2.1, b2.1, b2.2⟩, trivial⟩
  refine ⟨.inl (some (.inl v.toInt32)), σD, ?_, kD, fr0_tr fA fD, by omega, iD, trivial⟩
  have h110 := (hB.2.2.2 11 0 0 (fun z => by cases z.1)).trans (iv_110 IA)
  refine er_new rfl (by decide) ⟨by decide, by decide⟩ ?_
  refine er_p rfl rfl rfl rfl ?_
  refine er_p rfl rfl rfl rfl ?_
  refine er_p rfl rfl rfl rfl ?_
  refine er_p rfl rfl rfl rfl ?_
  refine er_p rfl rfl rfl rfl ?_
  refine er_spc (as := [.inl (Int32.ofInt 0), .inl x2, .inl x1, .inl (Int32.ofInt 7)]) (v := none) rfl (by decide) rfl rfl rfl rfl ⟨Nat.le_of_ble_eq_true rfl, by decide, by decide⟩ er_18 ?_
  refine er_p rfl rfl rfl rfl ?_
  refine er_p rfl rfl rfl rfl ?_
  refine er_p rfl rfl rfl rfl ?_
  refine er_p rfl rfl rfl rfl ?_
  refine er_get rfl rfl h110 ?_
  refine er_p rfl rfl rfl rfl ?_
  refine er_vir (as := [rf 1 (σA.1 1)]) (v := some (.inr (.inl v))) rfl rfl rfl rfl rfl ⟨Nat.le_of_ble_eq_true rfl, by decide, by decide⟩ r1 ?_
  refine er_vir (as := [.inr (.inl v), rf 1 (σA.1 1)]) (v := some (.inr (.inl v))) rfl rfl rfl rfl rfl ⟨Nat.le_of_ble_eq_true rfl, by decide, by decide⟩ r2 ?_
  refine er_p rfl rfl rfl rfl ?_
  exact er_iret rfl (by decide) (Or.inl rfl)
def z135s : mAl := ((yX11_halt, cX11_halt, 3, none, { frames := 7, cells := 3, slots := 21, locals := 190 }, []), rw_X11_halt, false)
theorem z135s_at : m_alF[135]? = some z135s := rfl
theorem mu_t135 : mu_ck [0, 2] 135 21 2 12 1 [(0, (2, 11, 0, 0, 1, 1)), (1, (0, 0, 0, 2, 0, 0))] z135s = true := by decide +kernel
theorem mu_135 {σ0 σ : mS} {y1 : Int32} (hK : ac_KK ac_K0 σ) (hI : iv σ0 σ) (h5 : σ.1 1 ≤ 511) : CA 135 [rf 11 0, .inl y1] σ (muQ [0, 2] σ0 σ) := by
  refine mu_phase z135s_at (Nat.le_of_ble_eq_true rfl) mu_t135 ⟨⟨rfl, rfl, rfl, by decide, by decide⟩, T0_i, trivial⟩ hK (fun b σ' hb k f c => muQ_x hI hb k f c) (fun L σA hL hb kA fA cA => ?_)
  obtain ⟨w0, e0, g0⟩ := hb _ (List.mem_cons_self ..)
  obtain ⟨w1, e1, g1⟩ := hb _ (List.mem_cons_of_mem _ (List.mem_cons_self ..))
  obtain ⟨a0, a1, a2, rfl⟩ := ls3 hL
  obtain rfl := m_ld_o (o := a0) rfl e0
  obtain rfl := m_ld_o (o := a1) rfl e1
  obtain rfl := T11_rf g0
  obtain ⟨x1, rfl, b1⟩ := Ti g1
  have IA := iv_fp hI (eqS_fr fA cA)
  have hB : nB σA (c4 (m_nu σA 1 0) (σA.1 1) 0 (Int32.ofInt 8) x1 (Int32.ofInt 0) (Int32.ofInt 0)) := nB_nus.c4
  have v0 := c4_v (σ := m_nu σA 1 0) (a := σA.1 1) (k := 0) (w := (Int32.ofInt 8)) (x := x1) (y := (Int32.ofInt 0)) (u := (Int32.ofInt 0)) (fun f _ h v => ty1 f (by omega) v)
  obtain ⟨v, σC, σD, r1, r2, kD, fD, cD, iD⟩ := mu_mid (q := fit_8) IA (by omega) (kk_c4 (kk_nu kA) (by decide)) hB (by decide) ⟨⟨_, v0.1, by decide, by decide⟩, ⟨_, v0.2.1, b1.1, b1.2⟩, trivial⟩
  refine ⟨.inl none, σD, ?_, kD, fr0_tr fA fD, by omega, iD, trivial⟩
  have h110 := (hB.2.2.2 11 0 0 (fun z => by cases z.1)).trans (iv_110 IA)
  refine er_new rfl (by decide) ⟨by decide, by decide⟩ ?_
  refine er_p rfl rfl rfl rfl ?_
  refine er_p rfl rfl rfl rfl ?_
  refine er_p rfl rfl rfl rfl ?_
  refine er_p rfl rfl rfl rfl ?_
  refine er_p rfl rfl rfl rfl ?_
  refine er_spc (as := [.inl (Int32.ofInt 0), .inl (Int32.ofInt 0), .inl x1, .inl (Int32.ofInt 8)]) (v := none) rfl (by decide) rfl rfl rfl rfl ⟨Nat.le_of_ble_eq_true rfl, by decide, by decide⟩ er_18 ?_
  refine er_p rfl rfl rfl rfl ?_
  refine er_p rfl rfl rfl rfl ?_
  refine er_p rfl rfl rfl rfl ?_
  refine er_p rfl rfl rfl rfl ?_
  refine er_get rfl rfl h110 ?_
  refine er_p rfl rfl rfl rfl ?_
  refine er_vir (as := [rf 1 (σA.1 1)]) (v := some (.inr (.inl v))) rfl rfl rfl rfl rfl ⟨Nat.le_of_ble_eq_true rfl, by decide, by decide⟩ r1 ?_
  refine er_vir (as := [.inr (.inl v), rf 1 (σA.1 1)]) (v := some (.inr (.inl v))) rfl rfl rfl rfl rfl ⟨Nat.le_of_ble_eq_true rfl, by decide, by decide⟩ r2 ?_
  refine er_p rfl rfl rfl rfl ?_
  exact er_ret rfl (by decide) rfl
def z137s : mAl := ((yX11_open, cX11_open, 3, (some .int), { frames := 7, cells := 3, slots := 21, locals := 190 }, []), rw_X11_open, false)
theorem z137s_at : m_alF[137]? = some z137s := rfl
theorem mu_t137 : mu_ck [0, 2] 137 29 2 12 1 [(0, (2, 11, 0, 0, 1, 1)), (1, (0, 0, 0, 2, 0, 0))] z137s = true := by decide +kernel
theorem mu_137 {σ0 σ : mS} {y1 : Int32} (hK : ac_KK ac_K0 σ) (hI : iv σ0 σ) (h5 : σ.1 1 ≤ 511) : CA 137 [rf 11 0, .inl y1] σ (muQ [0, 2] σ0 σ) := by
  refine mu_phase z137s_at (Nat.le_of_ble_eq_true rfl) mu_t137 ⟨⟨rfl, rfl, rfl, by decide, by decide⟩, T0_i, trivial⟩ hK (fun b σ' hb k f c => muQ_x hI hb k f c) (fun L σA hL hb kA fA cA => ?_)
  obtain ⟨w0, e0, g0⟩ := hb _ (List.mem_cons_self ..)
  obtain ⟨w1, e1, g1⟩ := hb _ (List.mem_cons_of_mem _ (List.mem_cons_self ..))
  obtain ⟨a0, a1, a2, rfl⟩ := ls3 hL
  obtain rfl := m_ld_o (o := a0) rfl e0
  obtain rfl := m_ld_o (o := a1) rfl e1
  obtain rfl := T11_rf g0
  obtain ⟨x1, rfl, b1⟩ := Ti g1
  have IA := iv_fp hI (eqS_fr fA cA)
  have hB : nB σA (c4 (m_nu σA 1 0) (σA.1 1) 0 (Int32.ofInt 9) x1 (Int32.ofInt 0) (Int32.ofInt 0)) := nB_nus.c4
  have v0 := c4_v (σ := m_nu σA 1 0) (a := σA.1 1) (k := 0) (w := (Int32.ofInt 9)) (x := x1) (y := (Int32.ofInt 0)) (u := (Int32.ofInt 0)) (fun f _ h v => ty1 f (by omega) v)
  obtain ⟨v, σC, σD, r1, r2, kD, fD, cD, iD⟩ := mu_mid (q := fit_9) IA (by omega) (kk_c4 (kk_nu kA) (by decide)) hB (by decide) ⟨⟨_, v0.1, by decide, by decide⟩, ⟨_, v0.2.1, b1.1, b1.2⟩, trivial⟩
  refine ⟨.inl (some (.inl v.toInt32)), σD, ?_, kD, fr0_tr fA fD, by omega, iD, trivial⟩
  have h110 := (hB.2.2.2 11 0 0 (fun z => by cases z.1)).trans (iv_110 IA)
  refine er_new rfl (by decide) ⟨by decide, by decide⟩ ?_
  refine er_p rfl rfl rfl rfl ?_
  refine er_p rfl rfl rfl rfl ?_
  refine er_p rfl rfl rfl rfl ?_
  refine er_p rfl rfl rfl rfl ?_
  refine er_p rfl rfl rfl rfl ?_
  refine er_spc (as := [.inl (Int32.ofInt 0), .inl (Int32.ofInt 0), .inl x1, .inl (Int32.ofInt 9)]) (v := none) rfl (by decide) rfl rfl rfl rfl ⟨Nat.le_of_ble_eq_true rfl, by decide, by decide⟩ er_18 ?_
  refine er_p rfl rfl rfl rfl ?_
  refine er_p rfl rfl rfl rfl ?_
  refine er_p rfl rfl rfl rfl ?_
  refine er_p rfl rfl rfl rfl ?_
  refine er_get rfl rfl h110 ?_
  refine er_p rfl rfl rfl rfl ?_
  refine er_vir (as := [rf 1 (σA.1 1)]) (v := some (.inr (.inl v))) rfl rfl rfl rfl rfl ⟨Nat.le_of_ble_eq_true rfl, by decide, by decide⟩ r1 ?_
  refine er_vir (as := [.inr (.inl v), rf 1 (σA.1 1)]) (v := some (.inr (.inl v))) rfl rfl rfl rfl rfl ⟨Nat.le_of_ble_eq_true rfl, by decide, by decide⟩ r2 ?_
  refine er_p rfl rfl rfl rfl ?_
  exact er_iret rfl (by decide) (Or.inl rfl)
def z138s : mAl := ((yX11_split, cX11_split, 5, (some .int), { frames := 7, cells := 4, slots := 27, locals := 190 }, []), rw_X11_split, false)
theorem z138s_at : m_alF[138]? = some z138s := rfl
theorem mu_t138 : mu_ck [0, 1, 2] 138 51 2 12 2 [(0, (2, 11, 0, 0, 1, 1)), (1, (0, 0, 0, 2, 0, 0)), (2, (0, 0, 2, 5, 0, 0)), (3, (2, 8, 0, 2, 1, 1))] z138s = true := by decide +kernel
theorem mu_138 {σ0 σ : mS} {y1 y2 : Int32} (hK : ac_KK ac_K0 σ) (hI : iv σ0 σ) (h5 : σ.1 1 ≤ 511) : CA 138 [rf 11 0, .inl y1, .inl y2] σ (muQ [0, 1, 2] σ0 σ) := by
  refine mu_phase z138s_at (Nat.le_of_ble_eq_true rfl) mu_t138 ⟨⟨rfl, rfl, rfl, by decide, by decide⟩, T0_i, T0_i, trivial⟩ hK (fun b σ' hb k f c => muQ_x hI hb k f c) (fun L σA hL hb kA fA cA => ?_)
  obtain ⟨w0, e0, g0⟩ := hb _ (List.mem_cons_self ..)
  obtain ⟨w1, e1, g1⟩ := hb _ (List.mem_cons_of_mem _ (List.mem_cons_self ..))
  obtain ⟨w2, e2, g2⟩ := hb _ (List.mem_cons_of_mem _ (List.mem_cons_of_mem _ (List.mem_cons_self ..)))
  obtain ⟨w3, e3, g3⟩ := hb _ (List.mem_cons_of_mem _ (List.mem_cons_of_mem _ (List.mem_cons_of_mem _ (List.mem_cons_self ..))))
  obtain ⟨a0, a1, a2, a3, a4, rfl⟩ := ls5 hL
  obtain rfl := m_ld_o (o := a0) rfl e0
  obtain rfl := m_ld_o (o := a1) rfl e1
  obtain rfl := m_ld_o (o := a2) rfl e2
  obtain rfl := m_ld_o (o := a3) rfl e3
  obtain rfl := T11_rf g0
  obtain ⟨x1, rfl, b1⟩ := Ti g1
  obtain ⟨x2, rfl, b2⟩ := Ti g2
  obtain ⟨q3, rfl⟩ := Tq g3
  have IA := iv_fp hI (eqS_fr fA cA)
  have hB : nB σA (c4 (m_nu σA 1 0) (σA.1 1) 0 (Int32.ofInt 10) x1 x2 (Int32.ofInt 0)) := nB_nus.c4
  have v0 := c4_v (σ := m_nu σA 1 0) (a := σA.1 1) (k := 0) (w := (Int32.ofInt 10)) (x := x1) (y := x2) (u := (Int32.ofInt 0)) (fun f _ h v => ty1 f (by omega) v)
  obtain ⟨v, σC, σD, r1, r2, kD, fD, cD, iD⟩ := mu_mid (q := fit_10) IA (by omega) (kk_c4 (kk_nu kA) (by decide)) hB (by decide) ⟨⟨_, v0.1, by decide, by decide⟩, ⟨_, v0.2.1, b1.1, b1.2⟩, ⟨_, v0.2.2.1, b2.1, b2.2⟩, trivial⟩
  refine ⟨.inl (some (.inl v.toInt32)), σD, ?_, kD, fr0_tr fA fD, by omega, iD, trivial⟩
  have h110 := (hB.2.2.2 11 0 0 (fun z => by cases z.1)).trans (iv_110 IA)
  refine er_new rfl (by decide) ⟨by decide, by decide⟩ ?_
  refine er_p rfl rfl rfl rfl ?_
  refine er_p rfl rfl rfl rfl ?_
  refine er_p rfl rfl rfl rfl ?_
  refine er_p rfl rfl rfl rfl ?_
  refine er_p rfl rfl rfl rfl ?_
  refine er_spc (as := [.inl (Int32.ofInt 0), .inl x2, .inl x1, .inl (Int32.ofInt 10)]) (v := none) rfl (by decide) rfl rfl rfl rfl ⟨Nat.le_of_ble_eq_true rfl, by decide, by decide⟩ er_18 ?_
  refine er_p rfl rfl rfl rfl ?_
  refine er_p rfl rfl rfl rfl ?_
  refine er_p rfl rfl rfl rfl ?_
  refine er_p rfl rfl rfl rfl ?_
  refine er_get rfl rfl h110 ?_
  refine er_p rfl rfl rfl rfl ?_
  refine er_vir (as := [rf 1 (σA.1 1)]) (v := some (.inr (.inl v))) rfl rfl rfl rfl rfl ⟨Nat.le_of_ble_eq_true rfl, by decide, by decide⟩ r1 ?_
  refine er_vir (as := [.inr (.inl v), rf 1 (σA.1 1)]) (v := some (.inr (.inl v))) rfl rfl rfl rfl rfl ⟨Nat.le_of_ble_eq_true rfl, by decide, by decide⟩ r2 ?_
  refine er_p rfl rfl rfl rfl ?_
  exact er_iret rfl (by decide) (Or.inl rfl)
def z139s : mAl := ((yX11_dividend, cX11_dividend, 4, (some .long), { frames := 7, cells := 3, slots := 21, locals := 190 }, []), rw_X11_dividend, false)
theorem z139s_at : m_alF[139]? = some z139s := rfl
theorem mu_t139 : mu_ck [0, 1] 139 18 2 12 2 [(0, (2, 11, 0, 0, 1, 1)), (1, (0, 0, 0, 2, 0, 0)), (2, (0, 0, 1, 1000, 0, 0))] z139s = true := by decide +kernel
theorem mu_139 {σ0 σ : mS} {y1 y2 : Int32} (hK : ac_KK ac_K0 σ) (hI : iv σ0 σ) (h5 : σ.1 1 ≤ 511) : CA 139 [rf 11 0, .inl y1, .inl y2] σ (muQ [0, 1] σ0 σ) := by
  refine mu_phase z139s_at (Nat.le_of_ble_eq_true rfl) mu_t139 ⟨⟨rfl, rfl, rfl, by decide, by decide⟩, T0_i, T0_i, trivial⟩ hK (fun b σ' hb k f c => muQ_x hI hb k f c) (fun L σA hL hb kA fA cA => ?_)
  obtain ⟨w0, e0, g0⟩ := hb _ (List.mem_cons_self ..)
  obtain ⟨w1, e1, g1⟩ := hb _ (List.mem_cons_of_mem _ (List.mem_cons_self ..))
  obtain ⟨w2, e2, g2⟩ := hb _ (List.mem_cons_of_mem _ (List.mem_cons_of_mem _ (List.mem_cons_self ..)))
  obtain ⟨a0, a1, a2, a3, rfl⟩ := ls4 hL
  obtain rfl := m_ld_o (o := a0) rfl e0
  obtain rfl := m_ld_o (o := a1) rfl e1
  obtain rfl := m_ld_o (o := a2) rfl e2
  obtain rfl := T11_rf g0
  obtain ⟨x1, rfl, b1⟩ := Ti g1
  obtain ⟨x2, rfl, b2⟩ := Ti g2
  have IA := iv_fp hI (eqS_fr fA cA)
  have hB : nB σA (c4 (m_nu σA 1 0) (σA.1 1) 0 (Int32.ofInt 11) x1 x2 (Int32.ofInt 0)) := nB_nus.c4
  have v0 := c4_v (σ := m_nu σA 1 0) (a := σA.1 1) (k := 0) (w := (Int32.ofInt 11)) (x := x1) (y := x2) (u := (Int32.ofInt 0)) (fun f _ h v => ty1 f (by omega) v)
  obtain ⟨v, σC, σD, r1, r2, kD, fD, cD, iD⟩ := mu_mid (q := fit_11) IA (by omega) (kk_c4 (kk_nu kA) (by decide)) hB (by decide) ⟨⟨_, v0.1, by decide, by decide⟩, ⟨_, v0.2.1, b1.1, b1.2⟩, ⟨_, v0.2.2.1, b2.1, b2.2⟩, trivial⟩
  refine ⟨.inl (some (.inr (.inl v))), σD, ?_, kD, fr0_tr fA fD, by omega, iD, trivial⟩
  have h110 := (hB.2.2.2 11 0 0 (fun z => by cases z.1)).trans (iv_110 IA)
  refine er_new rfl (by decide) ⟨by decide, by decide⟩ ?_
  refine er_p rfl rfl rfl rfl ?_
  refine er_p rfl rfl rfl rfl ?_
  refine er_p rfl rfl rfl rfl ?_
  refine er_p rfl rfl rfl rfl ?_
  refine er_p rfl rfl rfl rfl ?_
  refine er_spc (as := [.inl (Int32.ofInt 0), .inl x2, .inl x1, .inl (Int32.ofInt 11)]) (v := none) rfl (by decide) rfl rfl rfl rfl ⟨Nat.le_of_ble_eq_true rfl, by decide, by decide⟩ er_18 ?_
  refine er_p rfl rfl rfl rfl ?_
  refine er_p rfl rfl rfl rfl ?_
  refine er_p rfl rfl rfl rfl ?_
  refine er_p rfl rfl rfl rfl ?_
  refine er_get rfl rfl h110 ?_
  refine er_p rfl rfl rfl rfl ?_
  refine er_vir (as := [rf 1 (σA.1 1)]) (v := some (.inr (.inl v))) rfl rfl rfl rfl rfl ⟨Nat.le_of_ble_eq_true rfl, by decide, by decide⟩ r1 ?_
  refine er_vir (as := [.inr (.inl v), rf 1 (σA.1 1)]) (v := some (.inr (.inl v))) rfl rfl rfl rfl rfl ⟨Nat.le_of_ble_eq_true rfl, by decide, by decide⟩ r2 ?_
  exact er_lret rfl (by decide) rfl
