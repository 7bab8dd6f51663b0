/-! a member fails -/
def fI (β : mS) (m i : Nat) (τ : mS) : Prop := fw_e (wl [(6, 2), (8, 8), (14, 0)]) β τ ∧ sm τ = sm β ∧ (∀ j, ps τ j = ps β j) ∧ CS τ ≤ CS β + 3000000000000 * i ∧ (∀ j, j < 3 → SP τ j ≤ SP β j) ∧ (∀ j, j < i → j < 3 → pI τ m j = 0) ∧ (∀ i' j, i' ≠ m → i' ≠ 0 → m_l τ 14 i' j = m_l β 14 i' j) ∧ ∀ j, j < 3 → ia (m_l τ 8 j 8).toInt ≤ ia (m_l β 8 j 8).toInt + if j < i then 1500000000000 else 0
theorem q44_s {β : mS} {m : Nat} (h1 : 1 ≤ m) (h6 : m < 6) (hsβ : HS β) (hP : ∀ j, j < 3 → SP β j ≤ 130000000) (hC : CS β ≤ 50000000000000000) (hL : ∀ j, j < 3 → 0 ≤ pv β j 2 ∧ pv β j 2 ≤ 9999) (hK : ∀ j, j < 3 → ia (m_l β 8 j 8).toInt ≤ 1000000000000000000) : ∀ n (u4 : Int32) (τ σ' : mS), Q44_31 m (Int32.ofInt 3) n u4 τ σ' → 0 ≤ u4.toInt → u4.toInt ≤ 3 → fI β m u4.toNatClampNeg τ → ∃ ρ, fI β m 3 ρ ∧ ∃ σ3, σ3 = m_set ρ 2 0 9 (rf 6 m) ∧ ∃ σ6, σ6 = m_set σ3 2 0 10 (.inr (.inl (Int64.ofNat 0))) ∧ (σ' = σ6 ∨ ∃ v, P46 σ6 v σ') := by
  intro n
  induction n with
  | zero => intro u4 τ σ' h; exact h.elim
  | succ n IH =>
    intro u4 τ σ' h p0 p3 hI
    have h : B44_31 m (Int32.ofInt 3) (Q44_31 m (Int32.ofInt 3) n) u4 τ σ' := h
    have n4 := i_nat p0
    have e3 := i_3
    rcases h with ⟨h1', σ3, e, σ6, e6, v8, _, ⟨_, rfl⟩ | ⟨_, v13, σ14, _, p14, rfl⟩⟩ | ⟨h1', hr, h⟩
    · have : u4.toNatClampNeg = 3 := by omega
      rw [this] at hI
      exact ⟨τ, hI, σ3, e, _, e6, Or.inl rfl⟩
    · have : u4.toNatClampNeg = 3 := by omega
      rw [this] at hI
      exact ⟨τ, hI, σ3, e, σ6, e6, Or.inr ⟨v13, p14⟩⟩
    · obtain ⟨I1, I2, I3, I4, I5, I6, I7, I8⟩ := hI
      have hsτ := HS_w hsβ I1 (by decide)
      have hk : u4.toNatClampNeg < 3 := by omega
      have num := pn hsτ hk
      have in3 : (Int32.ofNat u4.toNatClampNeg).toInt = u4.toNatClampNeg := i_ofNat (by omega)
      have ic : (Int32.ofNat u4.toNatClampNeg).toNatClampNeg = u4.toNatClampNeg := by have := i_nat (a := Int32.ofNat u4.toNatClampNeg) (by omega); omega
      have core : ∀ (v18 : Int64) (u : Int64) (σ23 σ27 : mS) (c : Int64), P90 τ m (m_i τ 8 u4.toNatClampNeg 0) v18 → u = v18 * (m_i τ 8 u4.toNatClampNeg 2).toInt64 → fw_e w91 τ σ23 → P91 τ m (m_i τ 8 u4.toNatClampNeg 0) (-v18) u σ23 → fw_e w91 σ23 σ27 → P91 σ23 0 (m_i σ23 8 u4.toNatClampNeg 0) v18 (-u) σ27 → Q44_31 m (Int32.ofInt 3) n (u4 + Int32.ofInt 1) (m_set σ27 8 u4.toNatClampNeg 8 (.inr (.inl (m_l σ27 8 u4.toNatClampNeg 8 + u)))) σ' → ∃ ρ, fI β m 3 ρ ∧ ∃ σ3, σ3 = m_set ρ 2 0 9 (rf 6 m) ∧ ∃ σ6, σ6 = m_set σ3 2 0 10 (.inr (.inl (Int64.ofNat 0))) ∧ (σ' = σ6 ∨ ∃ v, P46 σ6 v σ') := by
        intro v18 u σ23 σ27 _ p90' hu F23 p23 F27 p27 h
        have ev := p90 hsτ h6 (by rw [num, in3]; omega) p90'
        rw [num, ic] at ev
        have spm := SP_m (σ := τ) (j := u4.toNatClampNeg) h6
        have sp5 := I5 u4.toNatClampNeg hk
        have spb := hP u4.toNatClampNeg hk
        have vI : v18.toInt = pI τ m u4.toNatClampNeg := by rw [ev]
        have lastv : (m_i τ 8 u4.toNatClampNeg 2).toInt64.toInt = pv β u4.toNatClampNeg 2 := by rw [i64, (I1.2 8 u4.toNatClampNeg 2 rfl).1]
        have hl := hL u4.toNatClampNeg hk
        have im : ia (v18.toInt * (m_i τ 8 u4.toNatClampNeg 2).toInt64.toInt) ≤ 130000000 * 9999 := ia_mul_le (by rw [vI]; omega) (by rw [lastv]; exact le_ia (by omega) (by omega))
        have ib := ia_le im
        have uI : u.toInt = v18.toInt * (m_i τ 8 u4.toNatClampNeg 2).toInt64.toInt := by rw [hu]; exact l_mul (by omega) (by omega)
        have iu : ia u.toInt ≤ 1299870000000 := by rw [uI]; omega
        have hs23 := HS_w hsτ F23 (by decide)
        have num2 := pn hs23 hk
        have CSτ : CS τ ≤ 50000000000000000 + 9000000000000 := by omega
        obtain ⟨M1, M2, M3, M4, ⟨M5, _⟩, M6, M7, M8⟩ := mv_2 hsτ h6 (by decide) (by omega) hk num num2 ev (fun j hj => by have := I5 j hj; have := hP j hj; omega) (by omega) (by omega) F23 p23 F27 p27
        have F28 : fw_e (wl [(8, 8)]) σ27 (m_set σ27 8 u4.toNatClampNeg 8 (.inr (.inl (m_l σ27 8 u4.toNatClampNeg 8 + u)))) := fw_set rfl
        have e1 : (u4 + Int32.ofInt 1).toInt = u4.toInt + 1 := i_inc p0 (by omega)
        have n5 := i_nat (a := u4 + Int32.ofInt 1) (by omega)
        have ek : (u4 + Int32.ofInt 1).toNatClampNeg = u4.toNatClampNeg + 1 := by omega
        have l14 : ∀ i j, m_l (m_set σ27 8 u4.toNatClampNeg 8 (.inr (.inl (m_l σ27 8 u4.toNatClampNeg 8 + u)))) 14 i j = m_l σ27 14 i j := fun i j => by rw [ml_sl, if_neg (fun z => by cases z.1)]
        have c88 : ∀ j, m_l σ27 8 j 8 = m_l τ 8 j 8 := fun j => (M8.2 8 j 8 rfl).2.1
        refine IH _ _ σ' h (by omega) (by omega) ?_
        rw [ek]
        refine ⟨(I1.tr (wl_mono M8 (by decide))).tr (wl_mono F28 (by decide)), by rw [sm_fw F28 rfl, M1]; exact I2, fun j => by rw [ps_fw F28 rfl, M2]; exact I3 j, by rw [CS_fw F28 rfl]; omega, fun j hj => by rw [SP_fw F28 rfl]; exact Int.le_trans (M4 j hj) (I5 j hj), fun j hj hj3 => ?_, fun i' j a b => ?_, fun j hj => ?_⟩
        · show (m_l _ 14 m j).toInt = 0
          rw [l14]
          by_cases q : j = u4.toNatClampNeg
          · rw [q]; exact M5
          · rw [M6 m j (Or.inl q)]; exact I6 j (by omega) hj3
        · rw [l14, M6 i' j (Or.inr ⟨a, b⟩)]; exact I7 i' j a b
        · have x := I8 j hj
          by_cases q : j = u4.toNatClampNeg
          · rw [q, if_pos (by omega), ml_sl, if_pos ⟨rfl, rfl, rfl⟩, c88]
            rw [q, if_neg (by omega)] at x
            have y := hK u4.toNatClampNeg hk
            have z1 := ia_le (x := (m_l τ 8 u4.toNatClampNeg 8).toInt) (b := 1000000000000000000) (by omega)
            have z2 := ia_le iu
            rw [l_add (by omega) (by omega)]
            have := ia_add (m_l τ 8 u4.toNatClampNeg 8).toInt u.toInt
            omega
          · rw [ml_sl, if_neg (fun z => q z.2.1), c88]
            by_cases y : j < u4.toNatClampNeg
            · rw [if_pos y] at x
              rw [if_pos (by omega)]; exact x
            · rw [if_neg y] at x
              rw [if_neg (by omega)]; exact x
      first
        | (obtain ⟨v18, pv', σ23, F23, p23, σ27, F27, p27, σ31, rfl, h⟩ := h; exact core v18 _ σ23 σ27 0 pv' rfl F23 p23 F27 p27 h)
        | (obtain ⟨v18, pv', u, eu, σ23, F23, p23, σ27, F27, p27, σ31, rfl, h⟩ := h; exact core v18 u σ23 σ27 0 pv' eu F23 p23 F27 p27 h)
theorem f44 {n : Int} {σ σ' : mS} {m : Nat} (hs : HS σ) (h : CI n σ) (hn : n + 2 ≤ 300) (h1 : 1 ≤ m) (h6 : m < 6) (ht : m_r σ 2 0 9 = none) (hf : mi6 σ m 9 = 0) (p : P44 σ (some (6, m)) σ') : CI (n + 2) σ' ∧ sm σ' = sm σ ∧ (∀ j, ps σ' j = ps σ j) ∧ (m_i σ' 2 0 8).toInt = (m_i σ 2 0 8).toInt + 1 ∧ mi6 σ' m 9 = 1 ∧ (∀ i, i ≠ m → m_i σ' 6 i 9 = m_i σ 6 i 9) := by
  obtain ⟨i1, e1, σ4, e4, σ7, e7, σ10, e10, k, hq⟩ := p
  cases e1
  have h' := h
  obtain ⟨n1, k2, k3, k4, k5, k6, a1, a2, a3, a4, a5, a6, a7, a8, a9⟩ := h'
  have FB : fw_e (wl [(2, 8), (6, 7), (6, 9)]) σ σ10 := by rw [e10, e7, e4]; exact (fw_e.tr (fw_set rfl) (fw_set rfl)).tr (fw_set rfl)
  have hs10 := HS_w hs FB (by decide)
  have b9 : ∀ i, m_i σ10 6 i 9 = if i = m then Int32.ofInt 1 else m_i σ 6 i 9 := fun i => by rw [e10, e7, e4]; simp only [mi_si, true_and, and_true]; grind
  have b7 : ∀ i, m_i σ10 6 i 7 = if i = m then Int32.ofInt 0 else m_i σ 6 i 7 := fun i => by rw [e10, e7, e4]; simp only [mi_si, true_and, and_true]; grind
  have b8 : m_i σ10 2 0 8 = m_i σ 2 0 8 + Int32.ofInt 1 := by rw [e10, e7, e4]; simp [mi_si]
  have nFb : 0 ≤ nF σ ∧ nF σ ≤ 4 := by
    have q1 := (k4 1 (by decide) (by decide)).2.1
    have q2 := (k4 2 (by decide) (by decide)).2.1
    have q3 := (k4 3 (by decide) (by decide)).2.1
    have q4 := (k4 4 (by decide) (by decide)).2.1
    have q5 := (k4 5 (by decide) (by decide)).2.1
    have c : m = 1 ∨ m = 2 ∨ m = 3 ∨ m = 4 ∨ m = 5 := by omega
    unfold nF
    rcases c with rfl | rfl | rfl | rfl | rfl <;> omega
  have v8 : (m_i σ10 2 0 8).toInt = (m_i σ 2 0 8).toInt + 1 := by rw [b8]; exact i_inc (by omega) (by omega)
  have zc : (Int32.ofInt 0).toNatClampNeg = 0 := by decide
  have sp := fun {j} (hj : j < 3) => NB_sp h hj
  have cs := NB_cs h
  obtain ⟨ρ, ⟨I1, I2, I3, I4, I5, I6, I7, I8⟩, σ3, e3, σ6, e6, hend⟩ := q44_s (β := σ10) h1 h6 hs10 (fun j hj => by rw [SP_fw FB rfl]; exact sp hj) (by rw [CS_fw FB rfl]; omega) (fun j hj => by have := (k3 j hj).2.1; unfold pv at this ⊢; rw [(FB.2 8 j 2 rfl).1]; exact this) (fun j hj => by rw [(FB.2 8 j 8 rfl).2.1]; have := a3 j hj; omega) k _ σ10 σ' hq (by rw [i_0]; omega) (by rw [i_0]; omega) (by
    rw [zc]
    exact ⟨fw_e.rf', rfl, fun _ => rfl, by omega, fun _ _ => Int.le_refl _, fun j hj => by omega, fun _ _ _ _ => rfl, fun j hj => by rw [if_neg (by omega)]; omega⟩)
  have F6 : fw_e (wl [(2, 9), (2, 10)]) ρ σ6 := by rw [e6, e3]; exact fw_e.tr (fw_set rfl) (fw_set rfl)
  have F : fw_e (wl [(2, 8), (2, 9), (2, 10), (6, 2), (6, 7), (6, 9), (8, 8), (14, 0)]) σ σ6 := ((wl_mono FB (by decide)).tr (wl_mono I1 (by decide))).tr (wl_mono F6 (by decide))
  have G : fw_e (wl [(2, 9), (2, 10), (6, 2), (8, 8), (14, 0)]) σ10 σ6 := (wl_mono I1 (by decide)).tr (wl_mono F6 (by decide))
  have one := i_1
  have zer := i_0
  have v9 : ∀ i, m_i σ6 6 i 9 = if i = m then Int32.ofInt 1 else m_i σ 6 i 9 := fun i => by rw [(G.2 6 i 9 rfl).1, b9]
  have v7 : ∀ i, m_i σ6 6 i 7 = if i = m then Int32.ofInt 0 else m_i σ 6 i 7 := fun i => by rw [(G.2 6 i 7 rfl).1, b7]
  have w9 : ∀ i, mi6 σ6 i 9 = if i = m then 1 else mi6 σ i 9 := fun i => by
    show (m_i σ6 6 i 9).toInt = _
    rw [v9]
    by_cases q : i = m
    · rw [if_pos q, if_pos q, one]
    · rw [if_neg q, if_neg q]
  have w7 : ∀ i, mi6 σ6 i 7 = if i = m then 0 else mi6 σ i 7 := fun i => by
    show (m_i σ6 6 i 7).toInt = _
    rw [v7]
    by_cases q : i = m
    · rw [if_pos q, if_pos q, zer]
    · rw [if_neg q, if_neg q]
  have w10 : ∀ i, mi6 σ6 i 10 = mi6 σ i 10 := fun i => congrArg Int32.toInt (F.2 6 i 10 rfl).1
  have ee : ∀ {c i k : Nat}, fwh (wl [(2, 8), (2, 9), (2, 10), (6, 2), (6, 7), (6, 9), (8, 8), (14, 0)]) c k = true → m_i σ6 c i k = m_i σ c i k ∧ m_l σ6 c i k = m_l σ c i k ∧ m_r σ6 c i k = m_r σ c i k := fun h => F.2 _ _ _ h
  have r9 : m_r σ6 2 0 9 = some (6, m) := by
    rw [e6, mr_sl, e3]
    show m_r (m_set ρ 2 0 9 (.inr (.inr (some (6, m))))) 2 0 9 = _
    rw [mr_sr, if_pos ⟨rfl, rfl, rfl⟩]
  have L10 : (m_l σ6 2 0 10).toInt = 0 := by rw [e6, ml_sl, if_pos ⟨rfl, rfl, rfl⟩]; exact l_0
  have m10 : mi6 σ m 10 = 0 := by
    have q := k4 m h1 h6
    have := q.2.2.2.1
    have := q.2.2.1
    omega
  have allset : ∀ i, 1 ≤ i → i < 6 → mi6 σ i 9 = 1 → mi6 σ i 10 = 1 := by
    rcases k5 with ⟨_, z⟩ | ⟨m', _, _, z, _⟩
    · exact z
    · rw [ht] at z; cases z
  have tce : tc σ6 = tc σ := congrArg Int32.toInt (ee rfl).1
  have nF6 : nF σ6 = nF σ + 1 := by
    unfold nF
    rw [w9, w9, w9, w9, w9]
    have c : m = 1 ∨ m = 2 ∨ m = 3 ∨ m = 4 ∨ m = 5 := by omega
    rcases c with rfl | rfl | rfl | rfl | rfl <;> (simp <;> omega)
  have p14 : ∀ i j, m_l σ6 14 i j = m_l ρ 14 i j := fun i j => (F6.2 14 i j (by unfold fwh; rw [if_neg (by decide)]; rfl)).2.1
  have q14 : ∀ i j, m_l σ10 14 i j = m_l σ 14 i j := fun i j => (FB.2 14 i j (by unfold fwh; rw [if_neg (by decide)]; rfl)).2.1
  have C6 : CI (n + 1) σ6 := by
    refine ⟨⟨by omega, by omega⟩, tO_fw F k2 rfl, pO_fw F k3 rfl, fun i b1 b2 => ?_, Or.inr ⟨m, h1, h6, r9, by rw [w9, if_pos rfl], by rw [w10]; exact m10, fun i b1 b2 q z => by rw [w9, if_neg q] at z; rw [w10]; exact allset i b1 b2 z⟩, ?_, fun j hj => ?_, ?_, fun i hi => ?_, by
      have x0 := I8 0 (by decide)
      have x1 := I8 1 (by decide)
      have x2 := I8 2 (by decide)
      rw [if_pos (by decide), (FB.2 8 _ 8 rfl).2.1] at x0 x1 x2
      have z : ia (0 : Int) = 0 := rfl
      have l := ia_0 (m_l σ 2 0 10).toInt
      rw [L10, z]
      unfold cc at a4 ⊢
      rw [(F6.2 8 0 8 rfl).2.1, (F6.2 8 1 8 rfl).2.1, (F6.2 8 2 8 rfl).2.1]
      omega, fun i hi => by rw [(ee rfl).2.1]; have := a5 i hi; omega, fun i b1 hi => by rw [(ee rfl).2.1]; have := a6 i b1 hi; omega, by rw [(ee rfl).2.1, nSt_of (fun i => (ee rfl).1)]; exact a7, fun t ht' => ?_, fun i b1 b2 => ?_⟩
    · obtain ⟨f1, f2, f3, f4, f5, f6, f7⟩ := k4 i b1 b2
      unfold fl1
      rw [w7, w9, w10, (ee rfl).2.1]
      by_cases q : i = m
      · subst q
        rw [if_pos rfl, if_pos rfl]
        refine ⟨Or.inl rfl, Or.inr rfl, f3, fun _ => rfl, fun _ => rfl, fun _ j hj => ?_, f7⟩
        show (m_l σ6 14 i j).toInt = 0
        rw [p14]; exact I6 j (by omega) hj
      · rw [if_neg q, if_neg q]
        refine ⟨f1, f2, f3, f4, f5, fun z j hj => ?_, f7⟩
        show (m_l σ6 14 i j).toInt = 0
        rw [p14, I7 i j q (by omega), q14]; exact f6 z j hj
    · rw [nF6, (G.2 2 0 8 rfl).1, v8, k6]
    · have x := a1 j hj
      have y : pv σ6 j 6 = pv σ j 6 := congrArg Int32.toInt (ee rfl).1
      have z := I5 j hj
      rw [SP_fw FB rfl] at z
      rw [SP_fw F6 rfl, y, tce]
      have f1 := (k3 j hj).2.2.2.2.1
      exact Int.le_trans (Int.le_trans z x) (Int.mul_le_mul_of_nonneg_left (by omega) (by omega))
    · rw [CS_fw F6 rfl, tce]
      rw [CS_fw FB rfl] at I4
      omega
    · have x := I8 i hi
      rw [if_pos hi, (FB.2 8 i 8 rfl).2.1] at x
      rw [(F6.2 8 i 8 rfl).2.1]
      have := a3 i hi
      omega
    · rw [tce] at ht'
      have x := a8 t ht'
      unfold fB at x ⊢
      rw [(ee rfl).2.1, (ee rfl).2.1]; exact x
    · have x : mi6 σ6 i 6 = mi6 σ i 6 := congrArg Int32.toInt (ee rfl).1
      rw [x]; have := a9 i b1 b2; omega
  have S6 : sm σ6 = sm σ := by rw [sm_fw F6 rfl, I2, sm_fw FB rfl]
  have P6 : ∀ j, ps σ6 j = ps σ j := fun j => by rw [ps_fw F6 rfl, I3, ps_fw FB rfl]
  have V8 : (m_i σ6 2 0 8).toInt = (m_i σ 2 0 8).toInt + 1 := by rw [(G.2 2 0 8 rfl).1]; exact v8
  rcases hend with rfl | ⟨v, p46⟩
  · exact ⟨C6.up (by omega) (by omega), S6, P6, V8, by rw [w9, if_pos rfl], fun i q => by rw [v9, if_neg q]⟩
  · obtain ⟨g1, g2, g3, _, _, _, _, g8⟩ := s46 C6 (by omega) h1 h6 r9 p46
    refine ⟨by have e : n + 2 = n + 1 + 1 := by omega
               rw [e]; exact g1, g2.trans S6, fun j => (g3 j).trans (P6 j), by rw [(g8.2 2 0 8 rfl).1]; exact V8, ?_, fun i q => by rw [(g8.2 6 i 9 rfl).1, v9, if_neg q]⟩
    show (m_i σ' 6 m 9).toInt = 1
    rw [(g8.2 6 m 9 rfl).1]
    have := w9 m
    rw [if_pos rfl] at this
    exact this
