/-! how much a trade moves -/
theorem i64 (x : Int32) : x.toInt64.toInt = x.toInt := Int32.toInt_toInt64 x
theorem p95 {σ : mS} {m : Nat} {w : Int32} (h : P95 σ m w) : 0 ≤ w.toInt ∧ w.toInt ≤ 10 := by
  have e5 : (Int32.ofInt 5).toInt = 5 := by decide
  have e8 : (Int32.ofInt 8).toInt = 8 := by decide
  have e10 : (Int32.ofInt 10).toInt = 10 := by decide
  rcases h with ⟨_, ⟨_, h⟩ | ⟨_, h⟩⟩ | ⟨_, h⟩ <;> rw [h] <;> omega
theorem ld {x : Int64} (h0 : 0 ≤ x.toInt) : (x / Int64.ofInt 10000).toInt = x.toInt / 10000 := by
  have e : (Int64.ofInt 10000).toInt = 10000 := by decide
  have b := Int64.toInt_lt x
  rw [Int64.toInt_div, e, Int.tdiv_eq_ediv_of_nonneg h0]
  exact bmod64 (by omega) (by omega)
theorem j203_b {τ σ' : mS} {ip b s t : Nat} {u2 u3 : Int32} {u10 t0 : Int64} (hs : HS τ) (hip : ip < 3) (hb : b < 6) (hsm : s < 6) (h3 : 0 ≤ u3.toInt ∧ u3.toInt ≤ 125000) (h10 : 0 ≤ u10.toInt ∧ u10.toInt ≤ 1300000000) (h0 : -2000000 ≤ t0.toInt ∧ t0.toInt ≤ 2000000) (h7 : -2000000 ≤ (m_l τ 10 t 7).toInt ∧ (m_l τ 10 t 7).toInt ≤ 2000000) (hC : CS τ ≤ 1000000000000000000) (hP : ∀ j, j < 3 → SP τ j ≤ 1000000000000) (h : J32_203 (some (8, ip)) u2 u3 (some (6, b)) (some (6, s)) (some (10, t)) u10 t0 (some (10, t)) τ σ') : CS σ' ≤ CS τ + 3000000000 ∧ (∀ j, j < 3 → SP σ' j ≤ SP τ j + if j = ip then 2 * u3.toInt else 0) ∧ (∀ i j, j < 3 → i ≠ b → i ≠ s → m_l σ' 14 i j = m_l τ 14 i j) ∧ m_l σ' 10 t 8 = t0 ∧ (∀ t' k, t' ≠ t ∨ k ≠ 8 → m_l σ' 10 t' k = m_l τ 10 t' k) := by
  obtain ⟨i1, e1, σ4, e4, i6, e6, i8, e8, i10, e10, σ13, F13, p13, i16, e16, σ19, F19, p19, σ23, e23, σ26, e26, σ29, e29, σ32, F32, p32, rfl⟩ := h
  cases e1; cases e6; cases e8; cases e10; cases e16
  have F4 : fw_e (wl [(10, 8)]) τ σ4 := by rw [e4]; exact fw_set rfl
  have hs4 := HS_w hs F4 (by decide)
  have in3 : (Int32.ofNat ip).toInt = ip := i_ofNat (by omega)
  have ipn : (Int32.ofNat ip).toNatClampNeg = ip := by have := i_nat (a := Int32.ofNat ip) (by omega); omega
  have n4 : m_i σ4 8 ip 0 = Int32.ofNat ip := pn hs4 hip
  have l4 : ∀ t' k, m_l σ4 10 t' k = if t' = t ∧ k = 8 then t0 else m_l τ 10 t' k := fun t' k => by rw [e4, ml_sl]; simp only [true_and]
  have bf : m_l σ4 10 t 7 = m_l τ 10 t 7 := by rw [l4, if_neg (fun z => by cases z.2)]
  have c4 : CS σ4 = CS τ := CS_fw F4 rfl
  have s4 : ∀ j, SP σ4 j = SP τ j := fun j => SP_fw F4 rfl
  have q10 : (-u10).toInt = -u10.toInt := l_neg (by omega) (by omega)
  have qb : ((-u10) - m_l σ4 10 t 7).toInt = -u10.toInt - (m_l τ 10 t 7).toInt := by rw [l_sub (by rw [q10, bf]; omega) (by rw [q10, bf]; omega), q10, bf]
  have n13 : m_i σ13 8 ip 0 = Int32.ofNat ip := pn (HS_w hs4 F13 (by decide)) hip
  have f8 : m_l σ13 10 t 8 = t0 := by rw [(F13.2 10 t 8 rfl).2.1, l4, if_pos ⟨rfl, rfl⟩]
  have qs : (u10 - m_l σ13 10 t 8).toInt = u10.toInt - t0.toInt := by rw [f8]; exact l_sub (by omega) (by omega)
  have x3 := i64 u3
  have nu3 : (-u3).toInt = -u3.toInt := i_neg (by omega)
  have x3n := i64 (-u3)
  have b1 : ia ((-u10) - m_l σ4 10 t 7).toInt ≤ 1400000000 := le_ia (by omega) (by omega)
  have b2 : ia (u10 - m_l σ13 10 t 8).toInt ≤ 1400000000 := le_ia (by omega) (by omega)
  have b3 : ia u3.toInt64.toInt = u3.toInt := by rw [x3]; rcases ia_c u3.toInt with k | k <;> omega
  have b4 : ia (-u3).toInt64.toInt = u3.toInt := by rw [x3n, nu3, ia_neg]; rcases ia_c u3.toInt with k | k <;> omega
  have P1 := hP ip hip
  obtain ⟨A1, A2, A3, A4⟩ := t91_b hs4 hb (by rw [n4, in3]; omega) (by have := CS_m (σ := σ4) hb; omega) (by rw [n4, ipn, b3]; have := SP_m (σ := σ4) (j := ip) hb; rw [s4] at this; omega) p13
  have hs13 := HS_w hs4 F13 (by decide)
  rw [n4, ipn] at A2 A3
  obtain ⟨B1, B2, B3, B4⟩ := t91_b hs13 hsm (by rw [n13, in3]; omega) (by have := CS_m (σ := σ13) hsm; omega) (by rw [n13, ipn, b4]; have := SP_m (σ := σ13) (j := ip) hsm; have := A2 ip; rw [if_pos rfl, b3, s4] at this; omega) p19
  rw [n13, ipn] at B2 B3
  have f7' : m_l σ19 10 t 7 = m_l τ 10 t 7 := ((F19.2 10 t 7 rfl).2.1).trans ((F13.2 10 t 7 rfl).2.1.trans bf)
  have f8' : m_l σ19 10 t 8 = t0 := ((F19.2 10 t 8 rfl).2.1).trans f8
  rw [f7', f8'] at e23
  have qh : (m_l τ 10 t 7 + t0).toInt = (m_l τ 10 t 7).toInt + t0.toInt := l_add (by omega) (by omega)
  have bh := ia_le (CS_m (σ := σ19) (m := 0) (by decide))
  have qh2 : (m_l σ19 6 0 2 + (m_l τ 10 t 7 + t0)).toInt = cI σ19 0 + ((m_l τ 10 t 7).toInt + t0.toInt) := by
    rw [l_add (by show _ ≤ cI σ19 0 + _; omega) (by show cI σ19 0 + _ < _; omega), qh]
  have C23 : CS σ23 ≤ CS σ19 + 4000000 := by
    rw [e23, CS_set (by decide), qh2]
    have := ia_add (cI σ19 0) ((m_l τ 10 t 7).toInt + t0.toInt)
    have : ia ((m_l τ 10 t 7).toInt + t0.toInt) ≤ 4000000 := le_ia (by omega) (by omega)
    omega
  have F23 : fw_e (wl [(6, 2)]) σ19 σ23 := by rw [e23]; exact fw_set rfl
  have F26 : fw_e (wl [(6, 5)]) σ23 σ26 := by rw [e26]; exact fw_set rfl
  have F29 : fw_e (wl [(6, 5)]) σ26 σ29 := by rw [e29]; exact fw_set rfl
  have G : fw_e (wl [(6, 5), (8, 2), (8, 3), (8, 7)]) σ23 σ' := ((wl_mono F26 (by decide)).tr (wl_mono F29 (by decide))).tr (wl_mono F32 (by decide))
  have H : fw_e (wl [(6, 2), (6, 5), (8, 2), (8, 3), (8, 7)]) σ19 σ' := (wl_mono F23 (by decide)).tr (wl_mono G (by decide))
  have h14 : ∀ i j, m_l σ' 14 i j = m_l σ19 14 i j := fun i j => (H.2 14 i j (by unfold fwh; rw [if_neg (by decide)]; rfl)).2.1
  refine ⟨?_, fun j hj => ?_, fun i j hj h1 h2 => ?_, ?_, fun t' k hk => ?_⟩
  · rw [CS_fw G rfl]
    omega
  · rw [SP_fw H rfl]
    have a := A2 j
    have b := B2 j
    rw [s4] at a
    by_cases c : j = ip
    · rw [if_pos c] at a b ⊢
      omega
    · rw [if_neg c] at a b ⊢
      omega
  · rw [h14, B3, if_neg (fun z => h2 z.1), A3, if_neg (fun z => h1 z.1), e4, ml_sl, if_neg (fun z => by cases z.1)]
  · rw [(H.2 10 t 8 rfl).2.1]; exact f8'
  · have x : ∀ L : List (Nat × Nat), (List.range 16).all (fun k => fwh (wl L) 10 k) = true → ∀ {σ σ' : mS}, fw_e (wl L) σ σ' → m_l σ' 10 t' k = m_l σ 10 t' k := by
      intro L hL σ σ' F
      refine (F.2 10 t' k ?_).2.1
      by_cases c : k < 16
      · exact List.all_eq_true.mp hL k (List.mem_range.mpr c)
      · have e : fwh (wl L) 10 k = fwh (wl L) 10 0 := by unfold fwh; simp [c]
        rw [e]
        exact List.all_eq_true.mp hL 0 (List.mem_range.mpr (by decide))
    rw [x _ (by decide) H, x _ (by decide) F19, x _ (by decide) F13, l4, if_neg (fun z => by omega)]
/-- fees that were agreed are small -/
def fB (σ : mS) (t : Nat) : Prop := (-2000000 ≤ (m_l σ 10 t 7).toInt ∧ (m_l σ 10 t 7).toInt ≤ 2000000) ∧ -2000000 ≤ (m_l σ 10 t 8).toInt ∧ (m_l σ 10 t 8).toInt ≤ 2000000
theorem j185_b {τ σ' : mS} {ip b s t : Nat} {u2 u3 u6 : Int32} {u10 u12 u14 t0 : Int64} (hs : HS τ) (hip : ip < 3) (hb : b < 6) (hsm : s < 6) (h3 : 0 ≤ u3.toInt ∧ u3.toInt ≤ 125000) (h10 : 0 ≤ u10.toInt ∧ u10.toInt ≤ 1300000000) (h12 : 0 ≤ u12.toInt ∧ u12.toInt ≤ 1400000) (h14 : 0 ≤ u14.toInt ∧ u14.toInt ≤ 1400000) (h0 : -1400000 ≤ t0.toInt ∧ t0.toInt ≤ 1400000) (hC : CS τ ≤ 1000000000000000000) (hP : ∀ j, j < 3 → SP τ j ≤ 1000000000000) (h : J32_185 (some (8, ip)) u2 u3 u6 (some (6, b)) (some (6, s)) (some (10, t)) u10 u12 u14 t0 (some (10, t)) τ σ') : CS σ' ≤ CS τ + 3000000000 ∧ (∀ j, j < 3 → SP σ' j ≤ SP τ j + if j = ip then 2 * u3.toInt else 0) ∧ (∀ i j, j < 3 → i ≠ b → i ≠ s → m_l σ' 14 i j = m_l τ 14 i j) ∧ fB σ' t ∧ (∀ t' k, t' ≠ t → m_l σ' 10 t' k = m_l τ 10 t' k) := by
  obtain ⟨i1, e1, σ4, e4, h⟩ := h
  cases e1
  have F4 : fw_e (wl [(10, 7)]) τ σ4 := by rw [e4]; exact fw_set rfl
  have hs4 := HS_w hs F4 (by decide)
  have c4 : CS σ4 = CS τ := CS_fw F4 rfl
  have s4 : ∀ j, SP σ4 j = SP τ j := fun j => SP_fw F4 rfl
  have l7 : m_l σ4 10 t 7 = t0 := by rw [e4, ml_sl, if_pos ⟨rfl, rfl, rfl⟩]
  have lo : ∀ t' k, t' ≠ t → m_l σ4 10 t' k = m_l τ 10 t' k := fun t' k ht => by rw [e4, ml_sl, if_neg (fun z => ht z.2.1)]
  have l14 : ∀ i j, m_l σ4 14 i j = m_l τ 14 i j := fun i j => by rw [e4, ml_sl, if_neg (fun z => by cases z.1)]
  have n14 : (-u14).toInt = -u14.toInt := l_neg (by omega) (by omega)
  have go : ∀ v : Int64, -1400000 ≤ v.toInt ∧ v.toInt ≤ 1400000 → J32_203 (some (8, ip)) u2 u3 (some (6, b)) (some (6, s)) (some (10, t)) u10 v (some (10, t)) σ4 σ' → CS σ' ≤ CS τ + 3000000000 ∧ (∀ j, j < 3 → SP σ' j ≤ SP τ j + if j = ip then 2 * u3.toInt else 0) ∧ (∀ i j, j < 3 → i ≠ b → i ≠ s → m_l σ' 14 i j = m_l τ 14 i j) ∧ fB σ' t ∧ (∀ t' k, t' ≠ t → m_l σ' 10 t' k = m_l τ 10 t' k) := by
    intro v hv h
    obtain ⟨g1, g2, g3, g4, g5⟩ := j203_b hs4 hip hb hsm h3 h10 (by omega) (by rw [l7]; omega) (by omega) (fun j hj => by rw [s4]; exact hP j hj) h
    refine ⟨by omega, fun j hj => by rw [← s4]; exact g2 j hj, fun i j hj h1 h2 => (g3 i j hj h1 h2).trans (l14 i j), ⟨?_, ?_⟩, fun t' k ht => (g5 t' k (Or.inl ht)).trans (lo t' k ht)⟩
    · rw [g5 t 7 (Or.inr (by decide)), l7]; omega
    · rw [g4]; omega
  rcases h with ⟨_, h⟩ | ⟨_, h⟩
  · exact go _ (by omega) h
  · exact go _ (by omega) h
theorem j147_b {τ σ' : mS} {ip b s t : Nat} {u2 u3 u6 : Int32} {u10 : Int64} {r : mR} (hs : HS τ) (hip : ip < 3) (hb : b < 6) (hsm : s < 6) (h3 : 0 ≤ u3.toInt ∧ u3.toInt ≤ 125000) (h10 : 0 ≤ u10.toInt ∧ u10.toInt ≤ 1300000000) (hC : CS τ ≤ 1000000000000000000) (hP : ∀ j, j < 3 → SP τ j ≤ 1000000000000) (h : J32_147 (some (8, ip)) u2 u3 u6 (some (6, b)) (some (6, s)) (some (10, t)) u10 r u10 τ σ') : CS σ' ≤ CS τ + 3000000000 ∧ (∀ j, j < 3 → SP σ' j ≤ SP τ j + if j = ip then 2 * u3.toInt else 0) ∧ (∀ i j, j < 3 → i ≠ b → i ≠ s → m_l σ' 14 i j = m_l τ 14 i j) ∧ fB σ' t ∧ (∀ t' k, t' ≠ t → m_l σ' 10 t' k = m_l τ 10 t' k) := by
  obtain ⟨i1, e1, v3, p, n8, e8, n11, e11, h⟩ := h
  have r3 := p95 p
  have x3 := i64 v3
  have m0 : 0 ≤ u10.toInt * v3.toInt := Int.mul_nonneg h10.1 r3.1
  have m1 : u10.toInt * v3.toInt ≤ 1300000000 * 10 := Int.mul_le_mul h10.2 r3.2 r3.1 (by omega)
  have e2 : (Int64.ofInt 2).toInt = 2 := by decide
  have a8 : (u10 * v3.toInt64).toInt = u10.toInt * v3.toInt := by rw [l_mul (by rw [x3]; omega) (by rw [x3]; omega), x3]
  have a11 : (u10 * Int64.ofInt 2).toInt = u10.toInt * 2 := by rw [l_mul (by rw [e2]; omega) (by rw [e2]; omega), e2]
  have f8 : n8.toInt = u10.toInt * v3.toInt / 10000 := by rw [e8, ld (by omega), a8]
  have f11 : n11.toInt = u10.toInt * 2 / 10000 := by rw [e11, ld (by omega), a11]
  have nn : (-n11).toInt = -n11.toInt := l_neg (by omega) (by omega)
  rcases h with ⟨_, h⟩ | ⟨_, h⟩
  · exact j185_b hs hip hb hsm h3 h10 (by omega) (by omega) (by omega) hC hP h
  · exact j185_b hs hip hb hsm h3 h10 (by omega) (by omega) (by omega) hC hP h
/-- a trade moves little, and of its two members alone -/
theorem ts_b {σ σ' : mS} (h : TS σ σ') (hT : 0 ≤ (m_i σ 2 0 5).toInt) (hf : ∀ i, i < 3 → 1 ≤ pv σ i 6 ∧ pv σ i 6 ≤ 125) (hC : CS σ ≤ 1000000000000000000) (hP : ∀ j, j < 3 → SP σ j ≤ 1000000000000) : σ' = σ ∨ (CS σ' ≤ CS σ + 3000000000 ∧ (∀ j, j < 3 → SP σ' j ≤ SP σ j + 2000 * pv σ j 6) ∧ (∀ i j, j < 3 → i < 6 → i ≠ 0 → (m_i σ 6 i 9).toInt ≠ 0 → m_l σ' 14 i j = m_l σ 14 i j) ∧ fB σ' (m_i σ 2 0 5).toNatClampNeg ∧ (∀ t' k, t' ≠ (m_i σ 2 0 5).toNatClampNeg → m_l σ' 10 t' k = m_l σ 10 t' k)) := by
  obtain ⟨ip, x2, x3, x4, x5, x6, hs, hip, h2, h3, h4, h5, hne, ⟨nf4, nf5⟩, F, v1, p1, v5, p5, h⟩ := h
  rw [p22 p1 h4, p22 p5 h5] at h
  rcases h with ⟨z, _⟩ | ⟨q10, e10, ⟨z, _⟩ | ⟨q14, e14, ⟨z, _⟩ | ⟨_, ⟨hl, _, h⟩ | ⟨_, h⟩⟩⟩⟩
  · cases z
  · cases z
  · omega
  · refine Or.inr ?_
    obtain ⟨σ21, e21, i23, e23, σ26, e26, σ29, e29, σ32, e32, σ35, e35, σ38, e38, σ41, e41, σ44, e44, σ47, e47, h⟩ := h
    cases e10; cases e14; cases e23
    have n4 := i_nat h4.1
    have n5 := i_nat h5.1
    generalize hm : m_i σ 2 0 5 = T at *
    have F47 : fw_e (wl [(2, 5), (10, 0), (10, 1), (10, 2), (10, 3), (10, 4), (10, 5), (10, 6), (10, 9)]) σ σ47 := by
      rw [e47, e44, e41, e38, e35, e32, e29, e26, e21]
      exact (((((((fw_e.tr (fw_set rfl) (fw_set rfl)).tr (fw_set rfl)).tr (fw_set rfl)).tr (fw_set rfl)).tr (fw_set rfl)).tr (fw_set rfl)).tr (fw_set rfl)).tr (fw_set rfl)
    have hs47 := HS_w hs F47 (by decide)
    have c47 : CS σ47 = CS σ := CS_fw F47 rfl
    have s47 : ∀ j, SP σ47 j = SP σ j := fun j => SP_fw F47 rfl
    have l47 : ∀ c i k, m_l σ47 c i k = m_l σ c i k := fun c i k => by rw [e47, e44, e41, e38, e35, e32, e29, e26, e21]; rfl
    have fip := hf ip hip
    have x2' := i64 x2
    have x3' := i64 x3
    have m0 : 0 ≤ x2.toInt * x3.toInt := Int.mul_nonneg (by omega) (by omega)
    have m1 : x2.toInt * x3.toInt ≤ 9999 * 125000 := Int.mul_le_mul h2.2 (by omega) (by omega) (by omega)
    have a49 : (x2.toInt64 * x3.toInt64).toInt = x2.toInt * x3.toInt := by rw [l_mul (by rw [x2', x3']; omega) (by rw [x2', x3']; omega), x2', x3']
    have fin : CS σ' ≤ CS σ47 + 3000000000 ∧ (∀ j, j < 3 → SP σ' j ≤ SP σ47 j + if j = ip then 2 * x3.toInt else 0) ∧ (∀ i j, j < 3 → i ≠ x4.toNatClampNeg + 1 → i ≠ x5.toNatClampNeg + 1 → m_l σ' 14 i j = m_l σ47 14 i j) ∧ fB σ' T.toNatClampNeg ∧ (∀ t' k, t' ≠ T.toNatClampNeg → m_l σ' 10 t' k = m_l σ47 10 t' k) := by
      obtain ⟨n49, e49, h⟩ := h
      have b49 : 0 ≤ n49.toInt ∧ n49.toInt ≤ 1300000000 := by rw [e49, a49]; omega
      rcases h with ⟨_, h⟩ | ⟨_, h⟩
      · exact j147_b hs47 hip (by omega) (by omega) ⟨by omega, by omega⟩ b49 (by omega) (fun j hj => by rw [s47]; exact hP j hj) h
      · exact j147_b hs47 hip (by omega) (by omega) ⟨by omega, by omega⟩ b49 (by omega) (fun j hj => by rw [s47]; exact hP j hj) h
    clear h
    obtain ⟨g1, g2, g3, g4, g5⟩ := fin
    refine ⟨by omega, fun j hj => ?_, fun i j hj hi6 hi0 hf9 => ?_, g4, fun t' k ht => (g5 t' k ht).trans (l47 10 t' k)⟩
    · have g := g2 j hj
      rw [s47] at g
      have fj := hf j hj
      by_cases c : j = ip
      · rw [if_pos c] at g
        rw [c] at g ⊢
        omega
      · rw [if_neg c] at g
        omega
    · refine (g3 i j hj (fun z => ?_) (fun z => ?_)).trans (l47 14 i j)
      · unfold nfl at nf4
        rw [← z] at nf4
        exact hf9 nf4
      · unfold nfl at nf5
        rw [← z] at nf5
        exact hf9 nf5
  · exact Or.inl h
