/-! a failed member is settled -/
theorem cs_fin {c o g h T S : Int} (hS : 0 ≤ S) (hT : T = o + S) (hA : 0 ≤ c → g = 0 ∧ 0 ≤ o ∧ o ≤ c) (hB : c < 0 → o = 0 ∧ 0 ≤ g ∧ g ≤ -c ∧ g ≤ T) : ia (c - o + g) + ia (h + (T - g)) ≤ ia c + ia h + S := by
  have a := ia_add h (T - g)
  by_cases z : 0 ≤ c
  · obtain ⟨h1, h2, h3⟩ := hA z
    rcases ia_c (c - o + g) with k | k <;> rcases ia_c (T - g) with l | l <;> rcases ia_c c with n | n <;> omega
  · obtain ⟨h1, h2, h3, h4⟩ := hB (by omega)
    rcases ia_c (c - o + g) with k | k <;> rcases ia_c (T - g) with l | l <;> rcases ia_c c with n | n <;> omega
theorem cs_pre {c n19 n21 n23 mn n42 T : Int} (q19 : (n19 = 0 ∧ -c ≤ 0) ∨ (n19 = -c ∧ 0 ≤ -c)) (qm : (mn = c ∧ c ≤ n21) ∨ (mn = n21 ∧ n21 ≤ c)) (q23 : (n23 = 0 ∧ mn ≤ 0) ∨ (n23 = mn ∧ 0 ≤ mn)) (q42 : (n42 = T ∧ T ≤ n19) ∨ (n42 = n19 ∧ n19 ≤ T)) (hT : 0 ≤ T) (h21 : 0 ≤ n21) : (0 ≤ c → n42 = 0 ∧ 0 ≤ n23 ∧ n23 ≤ c) ∧ (c < 0 → n23 = 0 ∧ 0 ≤ n42 ∧ n42 ≤ -c ∧ n42 ≤ T) := by
  omega
/-- what a failed member leaves: the numbers before a settling are small -/
def smB (B : Int) (σ : mS) : Prop := shB B σ ∧ (∀ m, 1 ≤ m → m < 6 → 0 ≤ (m_l σ 6 m 3).toInt ∧ (m_l σ 6 m 3).toInt ≤ 1000000000) ∧ (∀ m, m < 6 → -100000000000000000 ≤ (m_l σ 6 m 2).toInt ∧ (m_l σ 6 m 2).toInt ≤ 100000000000000000) ∧ (-100000000000000000 ≤ (m_l σ 2 0 10).toInt ∧ (m_l σ 2 0 10).toInt ≤ 100000000000000000) ∧ 0 ≤ (m_l σ 6 0 3).toInt ∧ (m_l σ 6 0 3).toInt ≤ 1000000000000000000
theorem lo46 {B : Int} {σ σ' : mS} {m : Nat} {w : Int64} (h1 : 1 ≤ m) (h6 : m < 6) (hB : smB B σ) (ht : m_r σ 2 0 9 = some (6, m)) (h : P46 σ w σ') : sm σ' = sm σ ∧ (∀ j, ps σ' j = ps σ j) ∧ m_r σ' 2 0 9 = none ∧ (∀ i, m_i σ' 6 i 10 = if i = m then Int32.ofInt 1 else m_i σ 6 i 10) ∧ shB B σ' ∧ (∀ i, 1 ≤ i → m_l σ' 6 i 3 = if i = m then Int64.ofNat 0 else m_l σ 6 i 3) ∧ (0 ≤ w.toInt ∧ w.toInt ≤ 300000000000000000 ∧ m_l σ' 6 0 3 = m_l σ 6 0 3 + w) ∧ (0 < w.toInt → (m_l σ' 6 m 2).toInt ≤ 0) ∧ fw_e (wl [(2, 9), (6, 2), (6, 3), (6, 4), (6, 10)]) σ σ' ∧ w.toInt ≤ ia (cI σ m) + 1000000000 + ia (m_l σ 2 0 10).toInt ∧ CS σ' ≤ CS σ + 8000000000 := by
  obtain ⟨b1, b2, b3, b4, b5⟩ := hB
  rcases h with ⟨z, _⟩ | ⟨q2, e2, σ6, e6, i8, e8, σ11, e11, σ14, e14, σ17, e17, n19, e19, n21, e21, n23, e23, σ26, e26, v28, σ29, F29, p29, v32, σ33, F33, p33, n36, e36, v38, σ39, F39, p39, n42, e42, σ45, e45, σ48, e48, σ51, e51, hw, rfl⟩
  · rw [ht] at z; cases z
  rw [ht] at e2
  cases e2; cases e8
  have d3 := b2 m h1 h6
  have c2 := b3 m h6
  have l14 : ∀ i k, m_l σ14 6 i k = if i = m ∧ k = 2 then m_l σ 6 m 2 + m_l σ 6 m 3 else m_l σ 6 i k := fun i k => by
    rw [e14, e11, e6]; simp only [ml_sl, ml_si, ml_sr, true_and]
  have F17 : fw_e (wl [(2, 9), (6, 2), (6, 3), (6, 10)]) σ σ17 := by
    rw [e17, e14, e11, e6]
    exact ((fw_e.tr (fw_set rfl) (fw_set rfl)).tr (fw_set rfl)).tr (fw_set rfl)
  have l17 : ∀ i k, m_l σ17 6 i k = if i = m ∧ k = 3 then Int64.ofNat 0 else if i = m ∧ k = 2 then m_l σ 6 m 2 + m_l σ 6 m 3 else m_l σ 6 i k := fun i k => by
    rw [e17, ml_sl, l14]; simp only [true_and]
  have s17 : sm σ17 = sm σ := by
    have s6 : sm σ6 = sm σ := by rw [e6]; exact sm_ne (Or.inl (by decide))
    have s11 : sm σ11 = sm σ6 := by rw [e11]; exact sm_ne (Or.inr ⟨by decide, by decide, by decide⟩)
    have s14 : sm σ14 = sm σ11 + m_l σ11 6 m 3 := by rw [e14]; exact sm_set h6 (Or.inl rfl)
    have x3 : m_l σ14 6 m 3 - m_l σ14 6 m 3 = Int64.ofNat 0 := by have z : (Int64.ofNat 0) = 0 := by decide
                                                                  rw [z]; grind
    have s17 : sm σ17 = sm σ14 - m_l σ14 6 m 3 := by rw [e17, ← x3]; exact sm_sub h6 (Or.inr (Or.inr ⟨rfl, h1⟩))
    have x : m_l σ14 6 m 3 = m_l σ11 6 m 3 := by rw [e14, ml_sl, if_neg (fun z => by cases z.2.2)]
    rw [s17, s14, x, s11, s6]
    grind
  have C : m_l σ17 6 m 2 = m_l σ 6 m 2 + m_l σ 6 m 3 := by rw [l17, if_neg (fun z => by cases z.2), if_pos ⟨rfl, rfl⟩]
  have Ci : (m_l σ17 6 m 2).toInt = (m_l σ 6 m 2).toInt + (m_l σ 6 m 3).toInt := by rw [C]; exact l_add (by omega) (by omega)
  have Ls : m_l σ17 2 0 10 = m_l σ 2 0 10 := (F17.2 2 0 10 rfl).2.1
  have z0 := l_0
  generalize hc : m_l σ17 6 m 2 = c at *
  have nc : (-c).toInt = -c.toInt := l_neg (by omega) (by omega)
  have q19 := lmax_c (Int64.ofNat 0) (-c)
  rw [← e19] at q19
  have qL := lmax_c (Int64.ofNat 0) (m_l σ17 2 0 10)
  rw [Ls] at qL
  rw [Ls] at e21
  have i21 : n21.toInt = n19.toInt + (lmax (Int64.ofNat 0) (m_l σ 2 0 10)).toInt := by rw [e21]; exact l_add (by omega) (by omega)
  have qm := lmin_c n21 c
  have q23 := lmax_c (Int64.ofNat 0) (lmin n21 c)
  rw [← e23] at q23
  have i26 : (c - n23).toInt = c.toInt - n23.toInt := l_sub (by omega) (by omega)
  have F26 : fw_e (wl [(6, 2)]) σ17 σ26 := by rw [e26]; exact fw_set rfl
  have s26 : sm σ26 = sm σ17 - n23 := by rw [e26, ← hc]; exact sm_sub h6 (Or.inl rfl)
  have B26 : shB B σ26 := ⟨b1.1, fun i hi => by
    rw [(F26.2 6 i 4 rfl).2.1, l17, if_neg (fun z => by cases z.2), if_neg (fun z => by cases z.2)]; exact b1.2 i hi⟩
  have i28 : (n21 - n23).toInt = n21.toInt - n23.toInt := l_sub (by omega) (by omega)
  obtain ⟨g1, g2, g3, _, g5⟩ := j47 h6 B26 (by omega) p29
  have i32 : ((n21 - n23) - v28).toInt = n21.toInt - n23.toInt - v28.toInt := by rw [l_sub (by omega) (by omega), i28]
  obtain ⟨f1, f2, f3, _, f5⟩ := j47 (by decide) g2 (by omega) p33
  have i36 : n36.toInt = n21.toInt - n23.toInt - v28.toInt - v32.toInt := by rw [e36, l_sub (by omega) (by omega), i32]
  obtain ⟨k1, k2, k3, k5⟩ := j48 f2 (by omega) p39
  have iw : (n36 - v38).toInt = n36.toInt - v38.toInt := l_sub (by omega) (by omega)
  have it : (n21 - (n36 - v38)).toInt = n21.toInt - (n36.toInt - v38.toInt) := by rw [l_sub (by omega) (by omega), iw]
  have q42 := lmin_c n19 (n21 - (n36 - v38))
  rw [← e42] at q42
  have cash39 : m_l σ39 6 m 2 = c - n23 := by
    rw [(k5.2 6 m 2 rfl).2.1, (f5.2 6 m 2 rfl).2.1, (g5.2 6 m 2 rfl).2.1, e26, ml_sl, if_pos ⟨rfl, rfl, rfl⟩]
  have s45 : sm σ45 = sm σ39 + n42 := by rw [e45]; exact sm_set h6 (Or.inl rfl)
  have s48 : sm σ48 = sm σ45 + ((n21 - (n36 - v38)) - n42) := by rw [e48]; exact sm_set (by decide) (Or.inl rfl)
  have s51 : sm σ' = sm σ48 := by rw [e51]; exact sm_03
  have F45 : fw_e (wl [(6, 2)]) σ39 σ45 := by rw [e45]; exact fw_set rfl
  have F48 : fw_e (wl [(6, 2)]) σ45 σ48 := by rw [e48]; exact fw_set rfl
  have F51 : fw_e (wl [(6, 3)]) σ48 σ' := by rw [e51]; exact fw_set rfl
  have F39' : fw_e (wl [(6, 2), (6, 4)]) σ17 σ39 := ((wl_mono F26 (by decide)).tr (wl_mono g5 (by decide))).tr ((wl_mono f5 (by decide)).tr (wl_mono k5 (by decide)))
  have F48' : fw_e (wl [(6, 2), (6, 4)]) σ17 σ48 := F39'.tr ((wl_mono F45 (by decide)).tr (wl_mono F48 (by decide)))
  have F : fw_e (wl [(2, 9), (6, 2), (6, 3), (6, 4), (6, 10)]) σ σ' := ((wl_mono F17 (by decide)).tr (wl_mono F48' (by decide))).tr (wl_mono F51 (by decide))
  have u48 : m_l σ48 6 0 3 = m_l σ 6 0 3 := by
    rw [(F48'.2 6 0 3 rfl).2.1, l17, if_neg (fun z => by omega), if_neg (fun z => by omega)]
  refine ⟨?_, fun j => ps_fw F rfl, ?_, fun i => ?_, ⟨b1.1, fun i hi => ?_⟩, fun i hi => ?_, ⟨by rw [hw, iw]; omega, by rw [hw, iw]; omega, ?_⟩, fun hpos => ?_, F, ?_, ?_⟩
  · rw [s51, s48, s45, ← s17]
    have a1 : sm σ17 = sm σ26 + n23 := by rw [s26]; grind
    rw [a1, ← g1, ← f1, ← k1, e36]
    grind
  · rw [(F51.2 2 0 9 rfl).2.2, (F48'.2 2 0 9 rfl).2.2, e17, mr_sl, e14, mr_sl, e11, mr_si, e6, mr_sr, if_pos ⟨rfl, rfl, rfl⟩]
  · rw [(F51.2 6 i 10 rfl).1, (F48'.2 6 i 10 rfl).1, e17, mi_sl, e14, mi_sl, e11, mi_si]
    simp only [true_and, and_true]
    rw [e6, mi_sr]
  · rw [(F51.2 6 i 4 rfl).2.1, (F48.2 6 i 4 rfl).2.1, (F45.2 6 i 4 rfl).2.1]; exact k2.2 i hi
  · rw [e51, ml_sl, if_neg (fun z => by omega), (F48'.2 6 i 3 rfl).2.1, l17]
    by_cases e : i = m
    · rw [if_pos ⟨e, rfl⟩, if_pos e]
    · rw [if_neg (fun z => e z.1), if_neg (fun z => e z.1), if_neg e]
  · rw [e51, ml_sl, if_pos ⟨rfl, rfl, rfl⟩, u48, hw]
  · rw [hw, iw] at hpos
    have fin : m_l σ' 6 m 2 = (c - n23) + n42 := by
      rw [(F51.2 6 m 2 rfl).2.1, e48, ml_sl, if_neg (fun z => by omega), e45, ml_sl, if_pos ⟨rfl, rfl, rfl⟩, cash39]
    rw [fin, l_add (by omega) (by omega), i26]
    omega
  · rw [hw, iw]
    have k1 := ia_c (cI σ m)
    have k2 := ia_c (m_l σ 2 0 10).toInt
    have k3 : cI σ m = (m_l σ 6 m 2).toInt := rfl
    omega
  · have hne : m ≠ 0 := by omega
    have fin : m_l σ45 6 m 2 = (c - n23) + n42 := by rw [e45, ml_sl, if_pos ⟨rfl, rfl, rfl⟩, cash39]
    have i45 : (m_l σ45 6 m 2).toInt = c.toInt - n23.toInt + n42.toInt := by rw [fin, l_add (by omega) (by omega), i26]
    have h0 : m_l σ45 6 0 2 = m_l σ 6 0 2 := by
      rw [e45, ml_sl, if_neg (fun z => hne z.2.1.symm), (k5.2 6 0 2 rfl).2.1, (f5.2 6 0 2 rfl).2.1, (g5.2 6 0 2 rfl).2.1, e26, ml_sl, if_neg (fun z => hne z.2.1.symm), l17, if_neg (fun z => by cases z.2), if_neg (fun z => hne z.1.symm)]
    have b30 := b3 0 (by decide)
    have iG : ((n21 - (n36 - v38)) - n42).toInt = n21.toInt - (n36.toInt - v38.toInt) - n42.toInt := by rw [l_sub (by omega) (by omega), it]
    have iH : (m_l σ45 6 0 2 + ((n21 - (n36 - v38)) - n42)).toInt = (m_l σ 6 0 2).toInt + (n21.toInt - (n36.toInt - v38.toInt) - n42.toInt) := by rw [l_add (by rw [h0, iG]; omega) (by rw [h0, iG]; omega), h0, iG]
    have C14 : CS σ17 = CS σ - ia (cI σ m) + ia c.toInt := by
      have a : CS σ17 = CS σ14 := by rw [e17]; exact CS_of (fun i => by rw [ml_sl, if_neg (fun z => by cases z.2.2)])
      have b : CS σ11 = CS σ := by rw [e11, e6]; exact CS_of (fun i => by rw [ml_si, ml_sr])
      have d : cI σ11 m = cI σ m := by show (m_l σ11 6 m 2).toInt = _; rw [e11, ml_si, e6, ml_sr]
      have e : m_l σ11 6 m 2 + m_l σ11 6 m 3 = c := by rw [C, e11, ml_si, ml_si, e6, ml_sr, ml_sr]
      rw [a, e14, CS_set h6, b, d, e]
    have C26 : CS σ26 = CS σ17 - ia c.toInt + ia (c.toInt - n23.toInt) := by
      rw [e26, CS_set h6, i26]
      have : cI σ17 m = c.toInt := congrArg Int64.toInt hc
      rw [this]
    have C39 : CS σ39 = CS σ26 := by rw [CS_fw k5 rfl, CS_fw f5 rfl, CS_fw g5 rfl]
    have C45 : CS σ45 = CS σ39 - ia (c.toInt - n23.toInt) + ia (c.toInt - n23.toInt + n42.toInt) := by
      have q : (m_l σ39 6 m 2 + n42).toInt = c.toInt - n23.toInt + n42.toInt := by rw [cash39, l_add (by omega) (by omega), i26]
      rw [e45, CS_set h6, q]
      have : cI σ39 m = c.toInt - n23.toInt := by show (m_l σ39 6 m 2).toInt = _; rw [cash39, i26]
      rw [this]
    have C48 : CS σ48 = CS σ45 - ia (cI σ 0) + ia (cI σ 0 + (n21.toInt - (n36.toInt - v38.toInt) - n42.toInt)) := by
      rw [e48, CS_set (by decide), iH]
      have : cI σ45 0 = cI σ 0 := congrArg Int64.toInt h0
      rw [this]
    have C51 : CS σ' = CS σ48 := CS_fw F51 rfl
    have s28 : v28.toInt ≤ 1000000000 := by have := B26.2 m h6; have := b1.1; omega
    have s32 : v32.toInt ≤ 1000000000 := by have := g2.2 0 (by decide); have := b1.1; omega
    rw [C51, C48, C45, C39, C26, C14]
    have q19' := q19
    have q23' := q23
    have q42' := q42
    rw [z0, nc] at q19'
    rw [z0] at q23'
    rw [it] at q42'
    have eT : n21.toInt - (n36.toInt - v38.toInt) = n23.toInt + (v28.toInt + v32.toInt + v38.toInt) := by
      clear q19 q23 qL qm q42 q19' q23' q42'
      omega
    have p23 : 0 ≤ n23.toInt := by
      clear q19 qL qm q42 q19' q42' e36 e42 e19 e21
      rcases q23' with z | z <;> omega
    have p21 : 0 ≤ n21.toInt := by
      clear q23 qm q42 q23' q42' q19
      rw [z0] at qL
      rcases qL with z | z <;> rcases q19' with y | y <;> omega
    have p28 := g3.1
    have p32' := f3.1
    have p38 := k3.1
    have hT0 : 0 ≤ n21.toInt - (n36.toInt - v38.toInt) := by
      rw [eT]
      clear q19 q23 qL qm q42 q19' q23' q42'
      omega
    have kS : v28.toInt + v32.toInt + v38.toInt ≤ 7000000000 := by
      have := k3.2.2
      clear q19 q23 qL qm q42 q19' q23' q42'
      omega
    have pre := cs_pre (c := c.toInt) (n19 := n19.toInt) (n21 := n21.toInt) (n23 := n23.toInt) (mn := (lmin n21 c).toInt) (n42 := n42.toInt) (T := n21.toInt - (n36.toInt - v38.toInt)) q19' qm q23' q42' hT0 p21
    have hS0 : 0 ≤ v28.toInt + v32.toInt + v38.toInt := by
      clear q19 q23 qL qm q42 q19' q23' q42'
      omega
    have key := cs_fin (c := c.toInt) (o := n23.toInt) (g := n42.toInt) (h := cI σ 0) (T := n21.toInt - (n36.toInt - v38.toInt)) (S := v28.toInt + v32.toInt + v38.toInt) hS0 eT pre.1 pre.2
    have kc := ia_add (cI σ m) (m_l σ 6 m 3).toInt
    have k3 : ia (m_l σ 6 m 3).toInt ≤ 1000000000 := le_ia (by omega) (by omega)
    have kC : c.toInt = cI σ m + (m_l σ 6 m 3).toInt := Ci
    rw [← kC] at kc
    clear C51 C48 C45 C39 C26 C14 iH iG i45 e36 e42 e19 e21 e23 q19 qL qm q23 q42 q19' q23' q42' pre
    omega
