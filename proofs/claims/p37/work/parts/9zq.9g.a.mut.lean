/-! the calls of the face, one by one -/
def z124s : mAl := ((yX11_deposit, cX11_deposit, 4, (some .long), { frames := 7, cells := 4, slots := 27, locals := 190 }, []), rw_X11_deposit, false)
theorem z124s_at : m_alF[124]? = some z124s := rfl
theorem mu_t124 : mu_ck [0, 1, 2] 124 39 3 18 2 [(0, (2, 11, 0, 0, 1, 1)), (1, (0, 0, 0, 4, 0, 0)), (2, (0, 0, 1, 1000000, 0, 0))] z124s = true := by decide +kernel
theorem mu_124 {σ0 σ : mS} {y1 y2 : Int32} (hK : ac_KK ac_K0 σ) (hI : iv σ0 σ) (h5 : σ.1 1 ≤ 511) : CA 124 [rf 11 0, .inl y1, .inl y2] σ (muQ [0, 1, 2] σ0 σ) := by
  refine mu_phase z124s_at (Nat.le_of_ble_eq_true rfl) mu_t124 ⟨⟨rfl, rfl, rfl, by decide, by decide⟩, T0_i, T0_i, trivial⟩ hK (fun b σ' hb k f c => muQ_x hI hb k f c) (fun L σA hL hb kA fA cA => ?_)
  obtain ⟨w0, e0, g0⟩ := hb _ (List.mem_cons_self ..)
  obtain ⟨w1, e1, g1⟩ := hb _ (List.mem_cons_of_mem _ (List.mem_cons_self ..))
  obtain ⟨w2, e2, g2⟩ := hb _ (List.mem_cons_of_mem _ (List.mem_cons_of_mem _ (List.mem_cons_self ..)))
  obtain ⟨a0, a1, a2, a3, rfl⟩ := ls4 hL
  obtain rfl := m_ld_o (o := a0) rfl e0
  obtain rfl := m_ld_o (o := a1) rfl e1
  obtain rfl := m_ld_o (o := a2) rfl e2
  obtain rfl := T11_rf g0
  obtain ⟨x1, rfl, b1⟩ := Ti g1
  obtain ⟨x2, rfl, b2⟩ := Ti g2
  have IA := iv_fp hI (eqS_fr fA cA)
  have hB : nB σA (c4 (m_nu σA 1 0) (σA.1 1) 0 (Int32.ofInt 0) x1 x2 (Int32.ofInt 0)) := nB_nus.c4
  have v0 := c4_v (σ := m_nu σA 1 0) (a := σA.1 1) (k := 0) (w := (Int32.ofInt 0)) (x := x1) (y := x2) (u := (Int32.ofInt 0)) (fun f _ h v => ty1 f (by omega) v)
  obtain ⟨v, σC, σD, r1, r2, kD, fD, cD, iD⟩ := mu_mid (q := fit_0) IA (by omega) (kk_c4 (kk_nu kA) (by decide)) hB (by decide) ⟨⟨_, v0.1, by decide, by decide⟩, ⟨_, v0.2.1, b1.1, b1.2⟩, ⟨_, v0.2.2.1, b2.1, b2.2⟩, trivial⟩
  refine ⟨.inl (some (.inr (.inl v))), σD, ?_, kD, fr0_tr fA fD, by omega, iD, trivial⟩
  have h110 := (hB.2.2.2 11 0 0 (fun z => by cases z.1)).trans (iv_110 IA)
  refine er_new rfl (by decide) ⟨by decide, by decide⟩ ?_
  refine er_p rfl rfl rfl rfl ?_
  refine er_p rfl rfl rfl rfl ?_
  refine er_p rfl rfl rfl rfl ?_
  refine er_p rfl rfl rfl rfl ?_
  refine er_p rfl rfl rfl rfl ?_
  refine er_spc (as := [.inl (Int32.ofInt 0), .inl x2, .inl x1, .inl (Int32.ofInt 0)]) (v := none) rfl (by decide) rfl rfl rfl rfl ⟨Nat.le_of_ble_eq_true rfl, by decide, by decide⟩ er_18 ?_
  refine er_p rfl rfl rfl rfl ?_
  refine er_p rfl rfl rfl rfl ?_
  refine er_p rfl rfl rfl rfl ?_
  refine er_p rfl rfl rfl rfl ?_
  refine er_get rfl rfl h110 ?_
  refine er_p rfl rfl rfl rfl ?_
  refine er_vir (as := [rf 1 (σA.1 1)]) (v := some (.inr (.inl v))) rfl rfl rfl rfl rfl ⟨Nat.le_of_ble_eq_true rfl, by decide, by decide⟩ r1 ?_
  refine er_vir (as := [.inr (.inl v), rf 1 (σA.1 1)]) (v := some (.inr (.inl v))) rfl rfl rfl rfl rfl ⟨Nat.le_of_ble_eq_true rfl, by decide, by decide⟩ r2 ?_
  exact er_lret rfl (by decide) rfl
def z125s : mAl := ((yX11_fund, cX11_fund, 4, (some .long), { frames := 7, cells := 4, slots := 27, locals := 190 }, []), rw_X11_fund, false)
theorem z125s_at : m_alF[125]? = some z125s := rfl
theorem mu_t125 : mu_ck [0, 1, 2] 125 39 3 18 2 [(0, (2, 11, 0, 0, 1, 1)), (1, (0, 0, (-1), 4, 0, 0)), (2, (0, 0, 1, 1000000, 0, 0))] z125s = true := by decide +kernel
theorem mu_125 {σ0 σ : mS} {y1 y2 : Int32} (hK : ac_KK ac_K0 σ) (hI : iv σ0 σ) (h5 : σ.1 1 ≤ 511) : CA 125 [rf 11 0, .inl y1, .inl y2] σ (muQ [0, 1, 2] σ0 σ) := by
  refine mu_phase z125s_at (Nat.le_of_ble_eq_true rfl) mu_t125 ⟨⟨rfl, rfl, rfl, by decide, by decide⟩, T0_i, T0_i, trivial⟩ hK (fun b σ' hb k f c => muQ_x hI hb k f c) (fun L σA hL hb kA fA cA => ?_)
  obtain ⟨w0, e0, g0⟩ := hb _ (List.mem_cons_self ..)
  obtain ⟨w1, e1, g1⟩ := hb _ (List.mem_cons_of_mem _ (List.mem_cons_self ..))
  obtain ⟨w2, e2, g2⟩ := hb _ (List.mem_cons_of_mem _ (List.mem_cons_of_mem _ (List.mem_cons_self ..)))
  obtain ⟨a0, a1, a2, a3, rfl⟩ := ls4 hL
  obtain rfl := m_ld_o (o := a0) rfl e0
  obtain rfl := m_ld_o (o := a1) rfl e1
  obtain rfl := m_ld_o (o := a2) rfl e2
  obtain rfl := T11_rf g0
  obtain ⟨x1, rfl, b1⟩ := Ti g1
  obtain ⟨x2, rfl, b2⟩ := Ti g2
  have IA := iv_fp hI (eqS_fr fA cA)
  have hB : nB σA (c4 (m_nu σA 1 0) (σA.1 1) 0 (Int32.ofInt 1) x1 x2 (Int32.ofInt 0)) := nB_nus.c4
  have v0 := c4_v (σ := m_nu σA 1 0) (a := σA.1 1) (k := 0) (w := (Int32.ofInt 1)) (x := x1) (y := x2) (u := (Int32.ofInt 0)) (fun f _ h v => ty1 f (by omega) v)
  obtain ⟨v, σC, σD, r1, r2, kD, fD, cD, iD⟩ := mu_mid (q := fit_1) IA (by omega) (kk_c4 (kk_nu kA) (by decide)) hB (by decide) ⟨⟨_, v0.1, by decide, by decide⟩, ⟨_, v0.2.1, b1.1, b1.2⟩, ⟨_, v0.2.2.1, b2.1, b2.2⟩, trivial⟩
  refine ⟨.inl (some (.inr (.inl v))), σD, ?_, kD, fr0_tr fA fD, by omega, iD, trivial⟩
  have h110 := (hB.2.2.2 11 0 0 (fun z => by cases z.1)).trans (iv_110 IA)
  refine er_new rfl (by decide) ⟨by decide, by decide⟩ ?_
  refine er_p rfl rfl rfl rfl ?_
  refine er_p rfl rfl rfl rfl ?_
  refine er_p rfl rfl rfl rfl ?_
  refine er_p rfl rfl rfl rfl ?_
  refine er_p rfl rfl rfl rfl ?_
  refine er_spc (as := [.inl (Int32.ofInt 0), .inl x2, .inl x1, .inl (Int32.ofInt 1)]) (v := none) rfl (by decide) rfl rfl rfl rfl ⟨Nat.le_of_ble_eq_true rfl, by decide, by decide⟩ er_18 ?_
  refine er_p rfl rfl rfl rfl ?_
  refine er_p rfl rfl rfl rfl ?_
  refine er_p rfl rfl rfl rfl ?_
  refine er_p rfl rfl rfl rfl ?_
  refine er_get rfl rfl h110 ?_
  refine er_p rfl rfl rfl rfl ?_
  refine er_vir (as := [rf 1 (σA.1 1)]) (v := some (.inr (.inl v))) rfl rfl rfl rfl rfl ⟨Nat.le_of_ble_eq_true rfl, by decide, by decide⟩ r1 ?_
  refine er_vir (as := [.inr (.inl v), rf 1 (σA.1 1)]) (v := some (.inr (.inl v))) rfl rfl rfl rfl rfl ⟨Nat.le_of_ble_eq_true rfl, by decide, by decide⟩ r2 ?_
  exact er_lret rfl (by decide) rfl
def z126s : mAl := ((yX11_order, cX11_order, 9, (some .int), { frames := 7, cells := 5, slots := 33, locals := 190 }, []), rw_X11_order, false)
theorem z126s_at : m_alF[126]? = some z126s := rfl
theorem mu_t126 : mu_ck [0, 1, 2] 126 130 4 24 7 [(0, (2, 11, 0, 0, 1, 1)), (1, (0, 0, 0, 4, 0, 0)), (2, (0, 0, 0, 2, 0, 0)), (3, (0, 0, 0, 1, 0, 0)), (4, (0, 0, 1, 9999, 0, 0)), (5, (0, 0, 1, 1000, 0, 0)), (6, (0, 0, 0, 1000, 0, 0)), (7, (0, 0, 0, 3, 0, 0))] z126s = true := by decide +kernel
theorem mu_126 {σ0 σ : mS} {y1 y2 y3 y4 y5 y6 y7 : Int32} (hK : ac_KK ac_K0 σ) (hI : iv σ0 σ) (h5 : σ.1 1 ≤ 511) : CA 126 [rf 11 0, .inl y1, .inl y2, .inl y3, .inl y4, .inl y5, .inl y6, .inl y7] σ (muQ [0, 1, 2] σ0 σ) := by
  refine mu_phase z126s_at (Nat.le_of_ble_eq_true rfl) mu_t126 ⟨⟨rfl, rfl, rfl, by decide, by decide⟩, T0_i, T0_i, T0_i, T0_i, T0_i, T0_i, T0_i, trivial⟩ hK (fun b σ' hb k f c => muQ_x hI hb k f c) (fun L σA hL hb kA fA cA => ?_)
  obtain ⟨w0, e0, g0⟩ := hb _ (List.mem_cons_self ..)
  obtain ⟨w1, e1, g1⟩ := hb _ (List.mem_cons_of_mem _ (List.mem_cons_self ..))
  obtain ⟨w2, e2, g2⟩ := hb _ (List.mem_cons_of_mem _ (List.mem_cons_of_mem _ (List.mem_cons_self ..)))
  obtain ⟨w3, e3, g3⟩ := hb _ (List.mem_cons_of_mem _ (List.mem_cons_of_mem _ (List.mem_cons_of_mem _ (List.mem_cons_self ..))))
  obtain ⟨w4s, e4, g4⟩ := hb _ (List.mem_cons_of_mem _ (List.mem_cons_of_mem _ (List.mem_cons_of_mem _ (List.mem_cons_of_mem _ (List.mem_cons_self ..)))))
  obtain ⟨w5, e5, g5⟩ := hb _ (List.mem_cons_of_mem _ (List.mem_cons_of_mem _ (List.mem_cons_of_mem _ (List.mem_cons_of_mem _ (List.mem_cons_of_mem _ (List.mem_cons_self ..))))))
  obtain ⟨w6, e6, g6⟩ := hb _ (List.mem_cons_of_mem _ (List.mem_cons_of_mem _ (List.mem_cons_of_mem _ (List.mem_cons_of_mem _ (List.mem_cons_of_mem _ (List.mem_cons_of_mem _ (List.mem_cons_self ..)))))))
  obtain ⟨w7, e7, g7⟩ := hb _ (List.mem_cons_of_mem _ (List.mem_cons_of_mem _ (List.mem_cons_of_mem _ (List.mem_cons_of_mem _ (List.mem_cons_of_mem _ (List.mem_cons_of_mem _ (List.mem_cons_of_mem _ (List.mem_cons_self ..))))))))
  obtain ⟨a0, a1, a2, a3, a4, a5, a6, a7, a8, rfl⟩ := ls9 hL
  obtain rfl := m_ld_o (o := a0) rfl e0
  obtain rfl := m_ld_o (o := a1) rfl e1
  obtain rfl := m_ld_o (o := a2) rfl e2
  obtain rfl := m_ld_o (o := a3) rfl e3
  obtain rfl := m_ld_o (o := a4) rfl e4
  obtain rfl := m_ld_o (o := a5) rfl e5
  obtain rfl := m_ld_o (o := a6) rfl e6
  obtain rfl := m_ld_o (o := a7) rfl e7
  obtain rfl := T11_rf g0
  obtain ⟨x1, rfl, b1⟩ := Ti g1
  obtain ⟨x2, rfl, b2⟩ := Ti g2
  obtain ⟨x3, rfl, b3⟩ := Ti g3
  obtain ⟨x4, rfl, b4⟩ := Ti g4
  obtain ⟨x5, rfl, b5⟩ := Ti g5
  obtain ⟨x6, rfl, b6⟩ := Ti g6
  obtain ⟨x7, rfl, b7⟩ := Ti g7
  have IA := iv_fp hI (eqS_fr fA cA)
  have hB : nB σA (c4 (c4 (m_nu σA 1 0) (σA.1 1) 0 (Int32.ofInt 2) x1 x2 x3) (σA.1 1) 4 x4 x5 x6 x7) := nB_nus.c4.c4
  have v0 := c4_v (σ := m_nu σA 1 0) (a := σA.1 1) (k := 0) (w := (Int32.ofInt 2)) (x := x1) (y := x2) (u := x3) (fun f _ h v => ty1 f (by omega) v)
  have v4 := c4_v (σ := c4 (m_nu σA 1 0) (σA.1 1) 0 (Int32.ofInt 2) x1 x2 x3) (a := σA.1 1) (k := 4) (w := x4) (x := x5) (y := x6) (u := x7) (fun f _ h v => ty1 f (by omega) v)
  obtain ⟨v, σC, σD, r1, r2, kD, fD, cD, iD⟩ := mu_mid (q := fit_2) IA (by omega) (kk_c4 (kk_c4 (kk_nu kA) (by decide)) (by decide)) hB (by decide) ⟨⟨_, (c4_ne (fun z => by omega)).trans v0.1, by decide, by decide⟩, ⟨_, (c4_ne (fun z => by omega)).trans v0.2.1, b1.1, b1.2⟩, ⟨_, (c4_ne (fun z => by omega)).trans v0.2.2.1, b2.1, b2.2⟩, ⟨_, (c4_ne (fun z => by omega)).trans v0.2.2.2, b3.1, b3.2⟩, ⟨_, v4.1, b4.1, b4.2⟩, ⟨_, v4.2.1, b5.1, b5.2⟩, ⟨_, v4.2.2.1, b6.1, b6.2⟩, ⟨_, v4.2.2.2, b7.1, b7.2⟩, trivial⟩
  refine ⟨.inl (some (.inl v.toInt32)), σD, ?_, kD, fr0_tr fA fD, by omega, iD, trivial⟩
  have h110 := (hB.2.2.2 11 0 0 (fun z => by cases z.1)).trans (iv_110 IA)
  refine er_new rfl (by decide) ⟨by decide, by decide⟩ ?_
  refine er_p rfl rfl rfl rfl ?_
  refine er_p rfl rfl rfl rfl ?_
  refine er_p rfl rfl rfl rfl ?_
  refine er_p rfl rfl rfl rfl ?_
  refine er_p rfl rfl rfl rfl ?_
  refine er_spc (as := [.inl x3, .inl x2, .inl x1, .inl (Int32.ofInt 2)]) (v := none) rfl (by decide) rfl rfl rfl rfl ⟨Nat.le_of_ble_eq_true rfl, by decide, by decide⟩ er_18 ?_
  refine er_p rfl rfl rfl rfl ?_
  refine er_p rfl rfl rfl rfl ?_
  refine er_p rfl rfl rfl rfl ?_
  refine er_p rfl rfl rfl rfl ?_
  refine er_vir (as := [.inl x7, .inl x6, .inl x5, .inl x4]) (v := some (rf 1 (σA.1 1))) rfl rfl rfl rfl rfl ⟨Nat.le_of_ble_eq_true rfl, by decide, by decide⟩ er_19 ?_
  refine er_p rfl rfl rfl rfl ?_
  refine er_p rfl rfl rfl rfl ?_
  refine er_p rfl rfl rfl rfl ?_
  refine er_p rfl rfl rfl rfl ?_
  refine er_get rfl rfl h110 ?_
  refine er_p rfl rfl rfl rfl ?_
  refine er_vir (as := [rf 1 (σA.1 1)]) (v := some (.inr (.inl v))) rfl rfl rfl rfl rfl ⟨Nat.le_of_ble_eq_true rfl, by decide, by decide⟩ r1 ?_
  refine er_vir (as := [.inr (.inl v), rf 1 (σA.1 1)]) (v := some (.inr (.inl v))) rfl rfl rfl rfl rfl ⟨Nat.le_of_ble_eq_true rfl, by decide, by decide⟩ r2 ?_
  refine er_p rfl rfl rfl rfl ?_
  exact er_iret rfl (by decide) (Or.inl rfl)
def z127s : mAl := ((yX11_stop, cX11_stop, 8, (some .int), { frames := 7, cells := 4, slots := 27, locals := 190 }, []), rw_X11_stop, false)
theorem z127s_at : m_alF[127]? = some z127s := rfl
theorem mu_t127 : mu_ck [0, 1, 2] 127 84 3 18 6 [(0, (2, 11, 0, 0, 1, 1)), (1, (0, 0, 0, 4, 0, 0)), (2, (0, 0, 0, 2, 0, 0)), (3, (0, 0, 0, 1, 0, 0)), (4, (0, 0, 1, 9999, 0, 0)), (5, (0, 0, 1, 1000, 0, 0)), (6, (0, 0, 1, 9999, 0, 0))] z127s = true := by decide +kernel
theorem mu_127 {σ0 σ : mS} {y1 y2 y3 y4 y5 y6 : Int32} (hK : ac_KK ac_K0 σ) (hI : iv σ0 σ) (h5 : σ.1 1 ≤ 511) : CA 127 [rf 11 0, .inl y1, .inl y2, .inl y3, .inl y4, .inl y5, .inl y6] σ (muQ [0, 1, 2] σ0 σ) := by
  refine mu_phase z127s_at (Nat.le_of_ble_eq_true rfl) mu_t127 ⟨⟨rfl, rfl, rfl, by decide, by decide⟩, T0_i, T0_i, T0_i, T0_i, T0_i, T0_i, trivial⟩ hK (fun b σ' hb k f c => muQ_x hI hb k f c) (fun L σA hL hb kA fA cA => ?_)
  obtain ⟨w0, e0, g0⟩ := hb _ (List.mem_cons_self ..)
  obtain ⟨w1, e1, g1⟩ := hb _ (List.mem_cons_of_mem _ (List.mem_cons_self ..))
  obtain ⟨w2, e2, g2⟩ := hb _ (List.mem_cons_of_mem _ (List.mem_cons_of_mem _ (List.mem_cons_self ..)))
  obtain ⟨w3, e3, g3⟩ := hb _ (List.mem_cons_of_mem _ (List.mem_cons_of_mem _ (List.mem_cons_of_mem _ (List.mem_cons_self ..))))
  obtain ⟨w4s, e4, g4⟩ := hb _ (List.mem_cons_of_mem _ (List.mem_cons_of_mem _ (List.mem_cons_of_mem _ (List.mem_cons_of_mem _ (List.mem_cons_self ..)))))
  obtain ⟨w5, e5, g5⟩ := hb _ (List.mem_cons_of_mem _ (List.mem_cons_of_mem _ (List.mem_cons_of_mem _ (List.mem_cons_of_mem _ (List.mem_cons_of_mem _ (List.mem_cons_self ..))))))
  obtain ⟨w6, e6, g6⟩ := hb _ (List.mem_cons_of_mem _ (List.mem_cons_of_mem _ (List.mem_cons_of_mem _ (List.mem_cons_of_mem _ (List.mem_cons_of_mem _ (List.mem_cons_of_mem _ (List.mem_cons_self ..)))))))
  obtain ⟨a0, a1, a2, a3, a4, a5, a6, a7, rfl⟩ := ls8 hL
  obtain rfl := m_ld_o (o := a0) rfl e0
  obtain rfl := m_ld_o (o := a1) rfl e1
  obtain rfl := m_ld_o (o := a2) rfl e2
  obtain rfl := m_ld_o (o := a3) rfl e3
  obtain rfl := m_ld_o (o := a4) rfl e4
  obtain rfl := m_ld_o (o := a5) rfl e5
  obtain rfl := m_ld_o (o := a6) rfl e6
  obtain rfl := T11_rf g0
  obtain ⟨x1, rfl, b1⟩ := Ti g1
  obtain ⟨x2, rfl, b2⟩ := Ti g2
  obtain ⟨x3, rfl, b3⟩ := Ti g3
  obtain ⟨x4, rfl, b4⟩ := Ti g4
  obtain ⟨x5, rfl, b5⟩ := Ti g5
  obtain ⟨x6, rfl, b6⟩ := Ti g6
  have IA := iv_fp hI (eqS_fr fA cA)
  have hB : nB σA (c4 (c4 (m_nu σA 1 0) (σA.1 1) 0 (Int32.ofInt 3) x1 x2 x3) (σA.1 1) 4 x4 x5 x6 (Int32.ofInt 0)) := nB_nus.c4.c4
  have v0 := c4_v (σ := m_nu σA 1 0) (a := σA.1 1) (k := 0) (w := (Int32.ofInt 3)) (x := x1) (y := x2) (u := x3) (fun f _ h v => ty1 f (by omega) v)
  have v4 := c4_v (σ := c4 (m_nu σA 1 0) (σA.1 1) 0 (Int32.ofInt 3) x1 x2 x3) (a := σA.1 1) (k := 4) (w := x4) (x := x5) (y := x6) (u := (Int32.ofInt 0)) (fun f _ h v => ty1 f (by omega) v)
  obtain ⟨v, σC, σD, r1, r2, kD, fD, cD, iD⟩ := mu_mid (q := fit_3) IA (by omega) (kk_c4 (kk_c4 (kk_nu kA) (by decide)) (by decide)) hB (by decide) ⟨⟨_, (c4_ne (fun z => by omega)).trans v0.1, by decide, by decide⟩, ⟨_, (c4_ne (fun z => by omega)).trans v0.2.1, b1.1, b1.2⟩, ⟨_, (c4_ne (fun z => by omega)).trans v0.2.2.1, b2.1, b2.2⟩, ⟨_, (c4_ne (fun z => by omega)).trans v0.2.2.2, b3.1, b3.2⟩, ⟨_, v4.1, b4.1, b4.2⟩, ⟨_, v4.2.1, b5.1, b5.2⟩, ⟨_, v4.2.2.1, b6.1, b6.2⟩, trivial⟩
  refine ⟨.inl (some (.inl v.toInt32)), σD, ?_, kD, fr0_tr fA fD, by omega, iD, trivial⟩
  have h110 := (hB.2.2.2 11 0 0 (fun z => by cases z.1)).trans (iv_110 IA)
  refine er_new rfl (by decide) ⟨by decide, by decide⟩ ?_
  refine er_p rfl rfl rfl rfl ?_
  refine er_p rfl rfl rfl rfl ?_
  refine er_p rfl rfl rfl rfl ?_
  refine er_p rfl rfl rfl rfl ?_
  refine er_p rfl rfl rfl rfl ?_
  refine er_spc (as := [.inl x3, .inl x2, .inl x1, .inl (Int32.ofInt 3)]) (v := none) rfl (by decide) rfl rfl rfl rfl ⟨Nat.le_of_ble_eq_true rfl, by decide, by decide⟩ er_18 ?_
  refine er_p rfl rfl rfl rfl ?_
  refine er_p rfl rfl rfl rfl ?_
  refine er_p rfl rfl rfl rfl ?_
  refine er_p rfl rfl rfl rfl ?_
  refine er_vir (as := [.inl (Int32.ofInt 0), .inl x6, .inl x5, .inl x4]) (v := some (rf 1 (σA.1 1))) rfl rfl rfl rfl rfl ⟨Nat.le_of_ble_eq_true rfl, by decide, by decide⟩ er_19 ?_
  refine er_p rfl rfl rfl rfl ?_
  refine er_p rfl rfl rfl rfl ?_
  refine er_p rfl rfl rfl rfl ?_
  refine er_p rfl rfl rfl rfl ?_
  refine er_get rfl rfl h110 ?_
  refine er_p rfl rfl rfl rfl ?_
  refine er_vir (as := [rf 1 (σA.1 1)]) (v := some (.inr (.inl v))) rfl rfl rfl rfl rfl ⟨Nat.le_of_ble_eq_true rfl, by decide, by decide⟩ r1 ?_
  refine er_vir (as := [.inr (.inl v), rf 1 (σA.1 1)]) (v := some (.inr (.inl v))) rfl rfl rfl rfl rfl ⟨Nat.le_of_ble_eq_true rfl, by decide, by decide⟩ r2 ?_
  refine er_p rfl rfl rfl rfl ?_
  exact er_iret rfl (by decide) (Or.inl rfl)
