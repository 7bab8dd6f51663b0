/-! main's loop forwards -/
section NL
variable {C : ec_C} {σ0 σ00 : mS}
def n_L0 : List (Option mV) := [some (rf 98 0), none, none, none, none, none, none, none, none, none, none, none, none, none, none, none, none, none]
def n_s0 (σ00 : mS) : ev_T := (0, n_L0, [], σ00, 0, 0)
/-- at a turn's head all is held -/
theorem n_held (hC : ∀ τ, CK (n_D C (n_Dh τ))) (c0 : ∀ c, c ≠ 98 → σ00.1 c = 0) (r0 : ∀ c i k, m_r σ00 c i k = none) {u7 u8 : Int32} {y9 y10 y11 y12 y13 y14 y15 y16 y17 : Option mV} {τ : mS} {k n : Nat} (hk : m_rm ab_main.1.2.2.2.2.1 k n) (h7 : u7.toInt ≠ 0) (h8 : ¬ 62 ≤ u8.toInt) (hR : REACH C (n_s0 σ00) (162, [some (rf 98 0), some (rf 11 0), some (rf 13 14), some (rf 13 15), some (rf 13 16), some (rf 13 17), some (rf 14 6), some (.inl u7), some (.inl u8), y9, y10, y11, y12, y13, y14, y15, y16, y17], [], τ, k, n)) : ∃ t : Int, 0 ≤ t ∧ t ≤ 61 ∧ PS IVt t τ := by
  obtain ⟨q', ⟨f, r'⟩, e'⟩ := hR (n_Dh τ) (fun _ _ z => by cases z.1) _ (n_stop hk h7 h8)
  have eq : q' = (.inr 7, τ) := by
    rcases e' with e' | ⟨_, avs, σ2, ⟨_, hσ, _⟩, e'⟩
    · exact e'
    · rw [e', hσ]
  subst eq
  rcases b_all (hC τ) c0 r0 (f := f) ⟨0, 0, r'⟩ with ⟨v, e, _⟩ | h
  · cases e
  · exact h
theorem n_loc {T : v_Tm} {σ1 σ : mS} {Lc : List (Option mV)} {y : Int32} (hin : v_In (ac_K0, n_WX) σ1 18 T Lc σ) (hy : m_ld Lc 8 = some (.inl y)) (hs : ∀ b ∈ n_T162.2, b.1 ≠ 8 → b ∈ T.2) : ∃ (y7 : Int32) (a9 a10 a11 a12 a13 a14 a15 a16 a17 : Option mV), Lc = [some (rf 98 0), some (rf 11 0), some (rf 13 14), some (rf 13 15), some (rf 13 16), some (rf 13 17), some (rf 14 6), some (.inl y7), some (.inl y), a9, a10, a11, a12, a13, a14, a15, a16, a17] := by
  obtain ⟨a0, a1, a2, a3, a4, a5, a6, a7, a8, a9, a10, a11, a12, a13, a14, a15, a16, a17, eL⟩ := ls18 hin.1
  obtain ⟨x7, e7, t7⟩ := hin.2.1 (7, (0, 0, 0, 1, 0, 0)) (hs _ (by decide) (by decide))
  obtain ⟨y7, rfl, -, -⟩ := v_Ti t7
  obtain ⟨x0, e0, t0⟩ := hin.2.1 (0, (2, 98, 0, 0, 1, 1)) (hs _ (by decide) (by decide))
  obtain ⟨x1, e1, t1⟩ := hin.2.1 (1, (2, 11, 0, 0, 1, 1)) (hs _ (by decide) (by decide))
  obtain ⟨x2, e2, t2⟩ := hin.2.1 (2, (2, 13, 14, 14, 1, 1)) (hs _ (by decide) (by decide))
  obtain ⟨x3, e3, t3⟩ := hin.2.1 (3, (2, 13, 15, 15, 1, 1)) (hs _ (by decide) (by decide))
  obtain ⟨x4, e4, t4⟩ := hin.2.1 (4, (2, 13, 16, 16, 1, 1)) (hs _ (by decide) (by decide))
  obtain ⟨x5, e5, t5⟩ := hin.2.1 (5, (2, 13, 17, 17, 1, 1)) (hs _ (by decide) (by decide))
  obtain ⟨x6, e6, t6⟩ := hin.2.1 (6, (2, 14, 6, 6, 1, 1)) (hs _ (by decide) (by decide))
  have t0 := n_rf (c := 98) (i := 0) t0
  have t1 := n_rf (c := 11) (i := 0) t1
  have t2 := n_rf (c := 13) (i := 14) t2
  have t3 := n_rf (c := 13) (i := 15) t3
  have t4 := n_rf (c := 13) (i := 16) t4
  have t5 := n_rf (c := 13) (i := 17) t5
  have t6 := n_rf (c := 14) (i := 6) t6
  subst t0 t1 t2 t3 t4 t5 t6 eL
  obtain rfl := m_ld_o (o := a0) rfl e0
  obtain rfl := m_ld_o (o := a1) rfl e1
  obtain rfl := m_ld_o (o := a2) rfl e2
  obtain rfl := m_ld_o (o := a3) rfl e3
  obtain rfl := m_ld_o (o := a4) rfl e4
  obtain rfl := m_ld_o (o := a5) rfl e5
  obtain rfl := m_ld_o (o := a6) rfl e6
  obtain rfl := m_ld_o (o := a7) rfl e7
  obtain rfl := m_ld_o (o := a8) rfl hy
  exact ⟨y7, a9, a10, a11, a12, a13, a14, a15, a16, a17, rfl⟩
/-- the loop's way out -/
theorem n_out (hF : n_F C σ0) (h7 : n_F7 C σ0) {s0 : ev_T} {σ1 σ : mS} {Lc : List (Option mV)} {b n : Nat} {y y7 : Int32} {a9 a10 a11 a12 a13 a14 a15 a16 a17 : Option mV} (eL : Lc = [some (rf 98 0), some (rf 11 0), some (rf 13 14), some (rf 13 15), some (rf 13 16), some (rf 13 17), some (rf 14 6), some (.inl y7), some (.inl y), a9, a10, a11, a12, a13, a14, a15, a16, a17]) (hin : v_In (ac_K0, n_WX) σ1 18 n_T162 Lc σ) (hy : m_ld Lc 8 = some (.inl y)) (hc : σ.1 1 + 8 ≤ 512) (hb : b ≤ 300000) (hn : n ≤ 3000000) (ho : 62 ≤ y.toInt ∨ y7.toInt = 0) : n_J C σ0 s0 162 Lc [] σ b n := by
  have hJ := n_J_cl (C := C) (σ0 := σ0) (s0 := s0)
  have hfin : n_J C σ0 s0 1091 Lc [] σ b n := n_c1091 hF h7 (σ1 := σ) ⟨hin.1, hin.2.1, hin.2.2.1, ac_fr.rf⟩ hy hc hb hn
  clear hin hy
  subst eL
  refine nj_p hJ ⟨rfl, Or.inl rfl⟩ rfl rfl rfl rfl ?_
  show n_J C σ0 s0 164 [some (rf 98 0), some (rf 11 0), some (rf 13 14), some (rf 13 15), some (rf 13 16), some (rf 13 17), some (rf 14 6), some (.inl y7), some (.inl y), a9, a10, a11, a12, a13, a14, a15, a16, a17] [.inl y] σ b n
  refine nj_p hJ ⟨rfl, Or.inl rfl⟩ rfl rfl rfl rfl ?_
  show n_J C σ0 s0 166 [some (rf 98 0), some (rf 11 0), some (rf 13 14), some (rf 13 15), some (rf 13 16), some (rf 13 17), some (rf 14 6), some (.inl y7), some (.inl y), a9, a10, a11, a12, a13, a14, a15, a16, a17] [.inl (Int32.ofInt 62), .inl y] σ b n
  refine nj_c hJ ⟨rfl, Or.inl rfl⟩ rfl rfl rfl (fun _ => hfin) (fun z => ?_)
  show n_J C σ0 s0 169 [some (rf 98 0), some (rf 11 0), some (rf 13 14), some (rf 13 15), some (rf 13 16), some (rf 13 17), some (rf 14 6), some (.inl y7), some (.inl y), a9, a10, a11, a12, a13, a14, a15, a16, a17] [] σ b n
  refine nj_p hJ ⟨rfl, Or.inl rfl⟩ rfl rfl rfl rfl ?_
  show n_J C σ0 s0 171 [some (rf 98 0), some (rf 11 0), some (rf 13 14), some (rf 13 15), some (rf 13 16), some (rf 13 17), some (rf 14 6), some (.inl y7), some (.inl y), a9, a10, a11, a12, a13, a14, a15, a16, a17] [.inl y7] σ b n
  refine nj_c hJ ⟨rfl, Or.inl rfl⟩ rfl rfl rfl (fun _ => hfin) (fun z2 => ?_)
  rcases ho with ho | ho
  · exact absurd (ic_ge.mpr (by have e : (Int32.ofInt 62).toInt = 62 := by decide
                                rw [e]; exact ho)) z
  · exact absurd (ic_eq.mpr (ho.trans (by decide))) z2
theorem n_c162 (hF : n_F C σ0) (h7 : n_F7 C σ0) (hC : ∀ τ, CK (n_D C (n_Dh τ))) (c0 : ∀ c, c ≠ 98 → σ00.1 c = 0) (r0 : ∀ c i k, m_r σ00 c i k = none) {m : Nat} (hm : m ≤ 61) (h : n_Cl C σ0 (n_s0 σ00) n_T162 (m + 1) (2 * (m + 1)) 0 0) : n_Cl C σ0 (n_s0 σ00) n_T162 m (2 * m) 0 0 := by
  intro Lc σ b n y hin hy hym hc hb hn
  have q := n_cells
  have e1 : n_bk m = 2000 + 3000 * m := rfl
  have e2 : n_bn m = 30000 + 27000 * m := rfl
  obtain ⟨y7, a9, a10, a11, a12, a13, a14, a15, a16, a17, eL⟩ := n_loc hin hy (fun b hb _ => hb)
  by_cases h0 : y7.toInt = 0
  · exact n_out hF h7 eL hin hy (by omega) (by omega) (by omega) (Or.inr h0)
  intro hI hR
  have hP : ∃ t : Int, 0 ≤ t ∧ t ≤ 61 ∧ PS IVt t σ := by
    rw [eL] at hR
    exact n_held hC c0 r0 ⟨by omega, by omega⟩ h0 (by omega) hR
  obtain ⟨t, t0, t1, hP⟩ := hP
  refine (n_seg n_rule2 n_CC2m n_gd2_ok n_hG2 (n_part_ok2 hF) n_k162 rfl (n_J2_cl (C := C) (σ0 := σ0) (s0 := n_s0 σ00) (τ := σ)) hin hy (by omega) (fun _ _ _ _ o ho => by cases ho) (by omega) (by omega) (fun p hp Lc' σ' b' n' y' hin' hy' ey hc' hb' hn' => ?_) : n_J2 C σ0 (n_s0 σ00) σ 162 Lc [] σ b n) rfl hI hR
  intro eσ
  have eσ : σ' = σ := eσ
  subst eσ
  have hinr : v_In (ac_K0, n_WX) σ' 18 p.1 Lc' σ' := ⟨hin'.1, hin'.2.1, hin'.2.2.1, ac_fr.rf⟩
  unfold n_ts162 at hp
  rcases List.mem_cons.mp hp with rfl | hp
  · exact n_c221 hF hm h Lc' σ' b' n' y' hinr hy' (by have ey : y'.toInt = y.toInt + 0 := ey; omega) hc (by omega) (by omega)
  rcases List.mem_cons.mp hp with rfl | hp
  · exact n_c245 hF hm h Lc' σ' b' n' y' hinr hy' (by have ey : y'.toInt = y.toInt + 0 := ey; omega) hc (by omega) (by omega)
  rcases List.mem_cons.mp hp with rfl | hp
  · exact n_c269 hF hm h Lc' σ' b' n' y' hinr hy' (by have ey : y'.toInt = y.toInt + 0 := ey; omega) hc (by omega) (by omega)
  rcases List.mem_cons.mp hp with rfl | hp
  · exact n_c304 hF hm h Lc' σ' b' n' y' hinr hy' (by have ey : y'.toInt = y.toInt + 0 := ey; omega) hc (by omega) (by omega)
  rcases List.mem_cons.mp hp with rfl | hp
  · exact n_c355 hF hm h Lc' σ' b' n' y' hinr hy' (by have ey : y'.toInt = y.toInt + 0 := ey; omega) hc (by omega) (by omega)
  rcases List.mem_cons.mp hp with rfl | hp
  · exact n_c382 hF hm h Lc' σ' b' n' y' hinr hy' (by have ey : y'.toInt = y.toInt + 0 := ey; omega) hc (by omega) (by omega)
  rcases List.mem_cons.mp hp with rfl | hp
  · exact n_c426 hF hm h t1 hP hinr hy' (by have ey : y'.toInt = y.toInt + 0 := ey; omega) hc (by omega) (by omega)
  rcases List.mem_cons.mp hp with rfl | hp
  · exact n_c595 hF hm h Lc' σ' b' n' y' hinr hy' (by have ey : y'.toInt = y.toInt + 0 := ey; omega) hc (by omega) (by omega)
  rcases List.mem_cons.mp hp with rfl | hp
  · exact n_c1091 hF h7 hinr hy' (by omega) (by omega) (by omega)
  cases hp
theorem n_all162 (hF : n_F C σ0) (h7 : n_F7 C σ0) (hC : ∀ τ, CK (n_D C (n_Dh τ))) (c0 : ∀ c, c ≠ 98 → σ00.1 c = 0) (r0 : ∀ c i k, m_r σ00 c i k = none) : ∀ d m : Nat, m + d = 62 → n_Cl C σ0 (n_s0 σ00) n_T162 m (2 * m) 0 0
  | 0, m, hd => by
    intro Lc σ b n y hin hy hym hc hb hn
    have e1 : n_bk m = 2000 + 3000 * m := rfl
    have e2 : n_bn m = 30000 + 27000 * m := rfl
    obtain ⟨y7, a9, a10, a11, a12, a13, a14, a15, a16, a17, eL⟩ := n_loc hin hy (fun b hb _ => hb)
    exact n_out hF h7 eL hin hy (by omega) (by omega) (by omega) (Or.inl (by omega))
  | d + 1, m, hd => n_c162 hF h7 hC c0 r0 (by omega) (n_all162 hF h7 hC c0 r0 d (m + 1) (by omega))
end NL
