/-! the calls of the face, one by one -/
def z128s : mAl := ((yX11_tie, cX11_tie, 6, none, { frames := 7, cells := 4, slots := 27, locals := 190 }, []), rw_X11_tie, false)
theorem z128s_at : m_alF[128]? = some z128s := rfl
theorem mu_t128 : mu_ck [0, 1, 2] 128 92 2 12 2 [(0, (2, 11, 0, 0, 1, 1)), (1, (0, 0, 0, 119, 0, 0)), (2, (0, 0, 0, 119, 0, 0)), (3, (2, 7, 0, 119, 1, 1)), (4, (2, 7, 0, 119, 1, 1))] z128s = true := by decide +kernel
theorem mu_128 {σ0 σ : mS} {y1 y2 : Int32} (hK : ac_KK ac_K0 σ) (hI : iv σ0 σ) (h5 : σ.1 1 ≤ 511) : CA 128 [rf 11 0, .inl y1, .inl y2] σ (muQ [0, 1, 2] σ0 σ) := by
  refine mu_phase z128s_at (Nat.le_of_ble_eq_true rfl) mu_t128 ⟨⟨rfl, rfl, rfl, by decide, by decide⟩, T0_i, T0_i, trivial⟩ hK (fun b σ' hb k f c => muQ_x hI hb k f c) (fun L σA hL hb kA fA cA => ?_)
  obtain ⟨w0, e0, g0⟩ := hb _ (List.mem_cons_self ..)
  obtain ⟨w1, e1, g1⟩ := hb _ (List.mem_cons_of_mem _ (List.mem_cons_self ..))
  obtain ⟨w2, e2, g2⟩ := hb _ (List.mem_cons_of_mem _ (List.mem_cons_of_mem _ (List.mem_cons_self ..)))
  obtain ⟨w3, e3, g3⟩ := hb _ (List.mem_cons_of_mem _ (List.mem_cons_of_mem _ (List.mem_cons_of_mem _ (List.mem_cons_self ..))))
  obtain ⟨w4s, e4, g4⟩ := hb _ (List.mem_cons_of_mem _ (List.mem_cons_of_mem _ (List.mem_cons_of_mem _ (List.mem_cons_of_mem _ (List.mem_cons_self ..)))))
  obtain ⟨a0, a1, a2, a3, a4, a5, rfl⟩ := ls6 hL
  obtain rfl := m_ld_o (o := a0) rfl e0
  obtain rfl := m_ld_o (o := a1) rfl e1
  obtain rfl := m_ld_o (o := a2) rfl e2
  obtain rfl := m_ld_o (o := a3) rfl e3
  obtain rfl := m_ld_o (o := a4) rfl e4
  obtain rfl := T11_rf g0
  obtain ⟨x1, rfl, b1⟩ := Ti g1
  obtain ⟨x2, rfl, b2⟩ := Ti g2
  obtain ⟨q3, rfl⟩ := Tq g3
  obtain ⟨q4, rfl⟩ := Tq g4
  have IA := iv_fp hI (eqS_fr fA cA)
  have hB : nB σA (c4 (m_nu σA 1 0) (σA.1 1) 0 (Int32.ofInt 4) x1 x2 (Int32.ofInt 0)) := nB_nus.c4
  have v0 := c4_v (σ := m_nu σA 1 0) (a := σA.1 1) (k := 0) (w := (Int32.ofInt 4)) (x := x1) (y := x2) (u := (Int32.ofInt 0)) (fun f _ h v => ty1 f (by omega) v)
  obtain ⟨v, σC, σD, r1, r2, kD, fD, cD, iD⟩ := mu_mid (q := fit_4) IA (by omega) (kk_c4 (kk_nu kA) (by decide)) hB (by decide) ⟨⟨_, v0.1, by decide, by decide⟩, ⟨_, v0.2.1, b1.1, b1.2⟩, ⟨_, v0.2.2.1, b2.1, b2.2⟩, trivial⟩
  refine ⟨.inl none, σD, ?_, kD, fr0_tr fA fD, by omega, iD, trivial⟩
  have h110 := (hB.2.2.2 11 0 0 (fun z => by cases z.1)).trans (iv_110 IA)
  refine er_new rfl (by decide) ⟨by decide, by decide⟩ ?_
  refine er_p rfl rfl rfl rfl ?_
  refine er_p rfl rfl rfl rfl ?_
  refine er_p rfl rfl rfl rfl ?_
  refine er_p rfl rfl rfl rfl ?_
  refine er_p rfl rfl rfl rfl ?_
  refine er_spc (as := [.inl (Int32.ofInt 0), .inl x2, .inl x1, .inl (Int32.ofInt 4)]) (v := none) rfl (by decide) rfl rfl rfl rfl ⟨Nat.le_of_ble_eq_true rfl, by decide, by decide⟩ er_18 ?_
  refine er_p rfl rfl rfl rfl ?_
  refine er_p rfl rfl rfl rfl ?_
  refine er_p rfl rfl rfl rfl ?_
  refine er_p rfl rfl rfl rfl ?_
  refine er_get rfl rfl h110 ?_
  refine er_p rfl rfl rfl rfl ?_
  refine er_vir (as := [rf 1 (σA.1 1)]) (v := some (.inr (.inl v))) rfl rfl rfl rfl rfl ⟨Nat.le_of_ble_eq_true rfl, by decide, by decide⟩ r1 ?_
  refine er_vir (as := [.inr (.inl v), rf 1 (σA.1 1)]) (v := some (.inr (.inl v))) rfl rfl rfl rfl rfl ⟨Nat.le_of_ble_eq_true rfl, by decide, by decide⟩ r2 ?_
  refine er_p rfl rfl rfl rfl ?_
  exact er_ret rfl (by decide) rfl
def z129s : mAl := ((yX11_cancel, cX11_cancel, 4, (some .int), { frames := 7, cells := 3, slots := 21, locals := 190 }, []), rw_X11_cancel, false)
theorem z129s_at : m_alF[129]? = some z129s := rfl
theorem mu_t129 : mu_ck [0, 2] 129 41 1 6 1 [(0, (2, 11, 0, 0, 1, 1)), (1, (0, 0, 0, 119, 0, 0)), (2, (2, 7, 0, 119, 1, 1))] z129s = true := by decide +kernel
theorem mu_129 {σ0 σ : mS} {y1 : Int32} (hK : ac_KK ac_K0 σ) (hI : iv σ0 σ) (h5 : σ.1 1 ≤ 511) : CA 129 [rf 11 0, .inl y1] σ (muQ [0, 2] σ0 σ) := by
  refine mu_phase z129s_at (Nat.le_of_ble_eq_true rfl) mu_t129 ⟨⟨rfl, rfl, rfl, by decide, by decide⟩, T0_i, trivial⟩ hK (fun b σ' hb k f c => muQ_x hI hb k f c) (fun L σA hL hb kA fA cA => ?_)
  obtain ⟨w0, e0, g0⟩ := hb _ (List.mem_cons_self ..)
  obtain ⟨w1, e1, g1⟩ := hb _ (List.mem_cons_of_mem _ (List.mem_cons_self ..))
  obtain ⟨w2, e2, g2⟩ := hb _ (List.mem_cons_of_mem _ (List.mem_cons_of_mem _ (List.mem_cons_self ..)))
  obtain ⟨a0, a1, a2, a3, rfl⟩ := ls4 hL
  obtain rfl := m_ld_o (o := a0) rfl e0
  obtain rfl := m_ld_o (o := a1) rfl e1
  obtain rfl := m_ld_o (o := a2) rfl e2
  obtain rfl := T11_rf g0
  obtain ⟨x1, rfl, b1⟩ := Ti g1
  obtain ⟨q2, rfl⟩ := Tq g2
  have IA := iv_fp hI (eqS_fr fA cA)
  have hB : nB σA (c4 (m_nu σA 1 0) (σA.1 1) 0 (Int32.ofInt 5) x1 (Int32.ofInt 0) (Int32.ofInt 0)) := nB_nus.c4
  have v0 := c4_v (σ := m_nu σA 1 0) (a := σA.1 1) (k := 0) (w := (Int32.ofInt 5)) (x := x1) (y := (Int32.ofInt 0)) (u := (Int32.ofInt 0)) (fun f _ h v => ty1 f (by omega) v)
  obtain ⟨v, σC, σD, r1, r2, kD, fD, cD, iD⟩ := mu_mid (q := fit_5) IA (by omega) (kk_c4 (kk_nu kA) (by decide)) hB (by decide) ⟨⟨_, v0.1, by decide, by decide⟩, ⟨_, v0.2.1, b1.1, b1.2⟩, trivial⟩
  refine ⟨.inl (some (.inl v.toInt32)), σD, ?_, kD, fr0_tr fA fD, by omega, iD, trivial⟩
  have h110 := (hB.2.2.2 11 0 0 (fun z => by cases z.1)).trans (iv_110 IA)
  refine er_new rfl (by decide) ⟨by decide, by decide⟩ ?_
  refine er_p rfl rfl rfl rfl ?_
  refine er_p rfl rfl rfl rfl ?_
  refine er_p rfl rfl rfl rfl ?_
  refine er_p rfl rfl rfl rfl ?_
  refine er_p rfl rfl rfl rfl ?_
  refine er_spc (as := [.inl (Int32.ofInt 0), .inl (Int32.ofInt 0), .inl x1, .inl (Int32.ofInt 5)]) (v := none) rfl (by decide) rfl rfl rfl rfl ⟨Nat.le_of_ble_eq_true rfl, by decide, by decide⟩ er_18 ?_
  refine er_p rfl rfl rfl rfl ?_
  refine er_p rfl rfl rfl rfl ?_
  refine er_p rfl rfl rfl rfl ?_
  refine er_p rfl rfl rfl rfl ?_
  refine er_get rfl rfl h110 ?_
  refine er_p rfl rfl rfl rfl ?_
  refine er_vir (as := [rf 1 (σA.1 1)]) (v := some (.inr (.inl v))) rfl rfl rfl rfl rfl ⟨Nat.le_of_ble_eq_true rfl, by decide, by decide⟩ r1 ?_
  refine er_vir (as := [.inr (.inl v), rf 1 (σA.1 1)]) (v := some (.inr (.inl v))) rfl rfl rfl rfl rfl ⟨Nat.le_of_ble_eq_true rfl, by decide, by decide⟩ r2 ?_
  refine er_p rfl rfl rfl rfl ?_
  exact er_iret rfl (by decide) (Or.inl rfl)
def z130s : mAl := ((yX11_spread, cX11_spread, 7, (some .int), { frames := 7, cells := 6, slots := 39, locals := 190 }, []), rw_X11_spread, false)
theorem z130s_at : m_alF[130]? = some z130s := rfl
theorem mu_t130 : mu_ck [0, 1, 2] 130 126 5 30 5 [(0, (2, 11, 0, 0, 1, 1)), (1, (0, 0, 0, 4, 0, 0)), (2, (0, 0, 0, 2, 0, 0)), (3, (0, 0, 0, 2, 0, 0)), (4, (0, 0, 1, 1000, 0, 0)), (5, (0, 0, (-9998), 9998, 0, 0))] z130s = true := by decide +kernel
theorem mu_130 {σ0 σ : mS} {y1 y2 y3 y4 y5 : Int32} (hK : ac_KK ac_K0 σ) (hI : iv σ0 σ) (h5 : σ.1 1 ≤ 511) : CA 130 [rf 11 0, .inl y1, .inl y2, .inl y3, .inl y4, .inl y5] σ (muQ [0, 1, 2] σ0 σ) := by
  refine mu_phase z130s_at (Nat.le_of_ble_eq_true rfl) mu_t130 ⟨⟨rfl, rfl, rfl, by decide, by decide⟩, T0_i, T0_i, T0_i, T0_i, T0_i, trivial⟩ hK (fun b σ' hb k f c => muQ_x hI hb k f c) (fun L σA hL hb kA fA cA => ?_)
  obtain ⟨w0, e0, g0⟩ := hb _ (List.mem_cons_self ..)
  obtain ⟨w1, e1, g1⟩ := hb _ (List.mem_cons_of_mem _ (List.mem_cons_self ..))
  obtain ⟨w2, e2, g2⟩ := hb _ (List.mem_cons_of_mem _ (List.mem_cons_of_mem _ (List.mem_cons_self ..)))
  obtain ⟨w3, e3, g3⟩ := hb _ (List.mem_cons_of_mem _ (List.mem_cons_of_mem _ (List.mem_cons_of_mem _ (List.mem_cons_self ..))))
  obtain ⟨w4s, e4, g4⟩ := hb _ (List.mem_cons_of_mem _ (List.mem_cons_of_mem _ (List.mem_cons_of_mem _ (List.mem_cons_of_mem _ (List.mem_cons_self ..)))))
  obtain ⟨w5, e5, g5⟩ := hb _ (List.mem_cons_of_mem _ (List.mem_cons_of_mem _ (List.mem_cons_of_mem _ (List.mem_cons_of_mem _ (List.mem_cons_of_mem _ (List.mem_cons_self ..))))))
  obtain ⟨a0, a1, a2, a3, a4, a5, a6, rfl⟩ := ls7 hL
  obtain rfl := m_ld_o (o := a0) rfl e0
  obtain rfl := m_ld_o (o := a1) rfl e1
  obtain rfl := m_ld_o (o := a2) rfl e2
  obtain rfl := m_ld_o (o := a3) rfl e3
  obtain rfl := m_ld_o (o := a4) rfl e4
  obtain rfl := m_ld_o (o := a5) rfl e5
  obtain rfl := T11_rf g0
  obtain ⟨x1, rfl, b1⟩ := Ti g1
  obtain ⟨x2, rfl, b2⟩ := Ti g2
  obtain ⟨x3, rfl, b3⟩ := Ti g3
  obtain ⟨x4, rfl, b4⟩ := Ti g4
  obtain ⟨x5, rfl, b5⟩ := Ti g5
  have IA := iv_fp hI (eqS_fr fA cA)
  have hB : nB σA (c4 (c4 (m_nu σA 1 0) (σA.1 1) 0 (Int32.ofInt 6) x1 x2 x3) (σA.1 1) 4 x4 x5 (Int32.ofInt 0) (Int32.ofInt 0)) := nB_nus.c4.c4
  have v0 := c4_v (σ := m_nu σA 1 0) (a := σA.1 1) (k := 0) (w := (Int32.ofInt 6)) (x := x1) (y := x2) (u := x3) (fun f _ h v => ty1 f (by omega) v)
  have v4 := c4_v (σ := c4 (m_nu σA 1 0) (σA.1 1) 0 (Int32.ofInt 6) x1 x2 x3) (a := σA.1 1) (k := 4) (w := x4) (x := x5) (y := (Int32.ofInt 0)) (u := (Int32.ofInt 0)) (fun f _ h v => ty1 f (by omega) v)
  obtain ⟨v, σC, σD, r1, r2, kD, fD, cD, iD⟩ := mu_mid (q := fit_6) IA (by omega) (kk_c4 (kk_c4 (kk_nu kA) (by decide)) (by decide)) hB (by decide) ⟨⟨_, (c4_ne (fun z => by omega)).trans v0.1, by decide, by decide⟩, ⟨_, (c4_ne (fun z => by omega)).trans v0.2.1, b1.1, b1.2⟩, ⟨_, (c4_ne (fun z => by omega)).trans v0.2.2.1, b2.1, b2.2⟩, ⟨_, (c4_ne (fun z => by omega)).trans v0.2.2.2, b3.1, b3.2⟩, ⟨_, v4.1, b4.1, b4.2⟩, ⟨_, v4.2.1, b5.1, b5.2⟩, trivial⟩
  refine ⟨.inl (some (.inl v.toInt32)), σD, ?_, kD, fr0_tr fA fD, by omega, iD, trivial⟩
  have h110 := (hB.2.2.2 11 0 0 (fun z => by cases z.1)).trans (iv_110 IA)
  refine er_new rfl (by decide) ⟨by decide, by decide⟩ ?_
  refine er_p rfl rfl rfl rfl ?_
  refine er_p rfl rfl rfl rfl ?_
  refine er_p rfl rfl rfl rfl ?_
  refine er_p rfl rfl rfl rfl ?_
  refine er_p rfl rfl rfl rfl ?_
  refine er_spc (as := [.inl x3, .inl x2, .inl x1, .inl (Int32.ofInt 6)]) (v := none) rfl (by decide) rfl rfl rfl rfl ⟨Nat.le_of_ble_eq_true rfl, by decide, by decide⟩ er_18 ?_
  refine er_p rfl rfl rfl rfl ?_
  refine er_p rfl rfl rfl rfl ?_
  refine er_p rfl rfl rfl rfl ?_
  refine er_p rfl rfl rfl rfl ?_
  refine er_vir (as := [.inl (Int32.ofInt 0), .inl (Int32.ofInt 0), .inl x5, .inl x4]) (v := some (rf 1 (σA.1 1))) rfl rfl rfl rfl rfl ⟨Nat.le_of_ble_eq_true rfl, by decide, by decide⟩ er_19 ?_
  refine er_p rfl rfl rfl rfl ?_
  refine er_p rfl rfl rfl rfl ?_
  refine er_p rfl rfl rfl rfl ?_
  refine er_p rfl rfl rfl rfl ?_
  refine er_get rfl rfl h110 ?_
  refine er_p rfl rfl rfl rfl ?_
  refine er_vir (as := [rf 1 (σA.1 1)]) (v := some (.inr (.inl v))) rfl rfl rfl rfl rfl ⟨Nat.le_of_ble_eq_true rfl, by decide, by decide⟩ r1 ?_
  refine er_vir (as := [.inr (.inl v), rf 1 (σA.1 1)]) (v := some (.inr (.inl v))) rfl rfl rfl rfl rfl ⟨Nat.le_of_ble_eq_true rfl, by decide, by decide⟩ r2 ?_
  refine er_p rfl rfl rfl rfl ?_
  exact er_iret rfl (by decide) (Or.inl rfl)
