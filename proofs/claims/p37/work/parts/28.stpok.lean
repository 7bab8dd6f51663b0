/-! one step of the analysis holds of the model's step -/
section ABC
variable {xs : ab_X} {C : ab_C} {ν : ab_N} {H : ab_H} {σ : mS} {L : List (Option ab_V)} {Lc : List (Option mV)} {st : List ab_V} {sc : List mV} {pc k n : Nat} {r : mRow} {o : ab_W} {K : Nat → List (Option mV) → List mV → mS → Nat → Nat → Prop} {Q : mX → mS → Prop} {CP : Nat → List mV → List mV → Prop} {R : Room}
theorem ab_iast_ok (h : ab_cx xs C ν) (hL : ab_Ls C.1.length ν L Lc) (hst : ab_Vs C.1.length ν st sc) (hp : ab_hp C.1.length ν H σ) (hh : ab_ast 13 pc C L st H k n = some o) (hs : ab_sem xs C ν K Q CP o) : m_s_iast σ sc (fun st σ => K (pc + 1) Lc st σ k n) := by
  obtain ⟨v, x, p, s', rfl, h1, h2, h3, h4⟩ := ab_ast_ok (by decide) h hL hst hp hh hs
  rcases v with w | w | w
  · exact ⟨h1, h3, h4⟩
  · exact absurd (show (0 : Nat) = 1 from h2) (by decide)
  · exact absurd (show (0 : Nat) = 2 from h2) (by decide)
theorem ab_last_ok (h : ab_cx xs C ν) (hL : ab_Ls C.1.length ν L Lc) (hst : ab_Vs C.1.length ν st sc) (hp : ab_hp C.1.length ν H σ) (hh : ab_ast 14 pc C L st H k n = some o) (hs : ab_sem xs C ν K Q CP o) : m_s_last σ sc (fun st σ => K (pc + 1) Lc st σ k n) := by
  obtain ⟨v, x, p, s', rfl, h1, h2, h3, h4⟩ := ab_ast_ok (by decide) h hL hst hp hh hs
  rcases v with w | w | w
  · have h2' : (1 : Nat) = 0 ∨ ((1 : Nat) = 3 ∧ _) := h2
    rcases h2' with h2' | h2'
    · cases h2'
    · exact absurd h2'.1 (by decide)
  · exact ⟨h1, h3, h4⟩
  · exact absurd (show (1 : Nat) = 2 from h2) (by decide)
theorem ab_astq_ok (h : ab_cx xs C ν) (hL : ab_Ls C.1.length ν L Lc) (hst : ab_Vs C.1.length ν st sc) (hp : ab_hp C.1.length ν H σ) (hh : ab_astq pc C L st H k n = some o) (hs : ab_sem xs C ν K Q CP o) : m_s_astq σ sc (fun st σ => K (pc + 1) Lc st σ k n) := by
  unfold ab_astq at hh
  split at hh
  · rename_i d e z st'
    cases hb : (Nat.ble 16 z.1 && (Nat.ble z.1 20 && (ab_nn C d && Nat.beq d.1 (m_el z.1)))) with
    | false => rw [hb] at hh; cases hh
    | true =>
    rw [hb] at hh
    rw [Bool.and_eq_true, Bool.and_eq_true, Bool.and_eq_true, Nat.ble_eq, Nat.ble_eq] at hb
    obtain ⟨b1, b2, b3, b4⟩ := hb
    obtain ⟨v, x, p, s', e0, h1, h2, h3, h4⟩ := ab_ast_ok (by omega) h hL hst hp hh hs
    obtain ⟨w, s1, rfl, g1, g2⟩ := ab_Vs_a hst
    obtain ⟨q, rfl, g3, g4⟩ := ab_R_some h g1 b3
    cases e0
    have e2 := Nat.eq_of_beq_eq_true b4
    rw [← h1] at b1 b2 h3 h4 e2
    exact ⟨g3.trans e2, ⟨b1, b2⟩, h3, h4⟩
  · cases hh
theorem ab_newo_ok {nL mc ms : Nat} (h : ab_cx xs C ν) (hL : ab_Ls C.1.length ν L Lc) (hst : ab_Vs C.1.length ν st sc) (hp : ab_hp C.1.length ν H σ) (hh : ab_newo R nL mc ms r pc C L st H k n = some o) (hs : ab_sem xs C ν K Q CP o) :
    if r.2.2.1 < 13 then m_rm R (k + 1) (n + m_nf r.2.2.1) ∧ K (pc + 3) Lc (.inr (.inr (some (r.2.2.1, σ.1 r.2.2.1))) :: sc) (m_nu σ r.2.2.1 0) (k + 1) (n + m_nf r.2.2.1)
      else Lc.length = nL ∧ 5 < R.frames ∧ (sc.map m_cat).sum + 82 ≤ R.locals ∧ m_rm R (k + 1) (n + 6) ∧ k + 1 ≤ mc ∧ n + 6 ≤ ms ∧ Q (.inr (r.2.2.1 - 100)) σ := by
  unfold ab_newo at hh
  cases hb : Nat.blt r.2.2.1 13 with
  | true =>
    rw [hb] at hh
    rw [Nat.blt_eq] at hb
    rw [if_pos hb]
    dsimp only [cond_true] at hh
    cases hc : ab_cnt H r.2.2.1 with
    | none => rw [hc] at hh; cases hh
    | some e =>
      rw [hc] at hh
      dsimp only at hh
      cases hd : ab_rm R (k + 1) (n + m_nf r.2.2.1) with
      | false => rw [hd] at hh; cases hh
      | true =>
        rw [hd] at hh
        have g := ab_cnt_ok hp hc
        have hz : ab_R C.1.length ν (r.2.2.1, e, (0, 1)) (some (r.2.2.1, σ.1 r.2.2.1)) := ⟨g.1, h.2.1, by show ν 0 + 1 = 1; rw [h.1.1]; rfl, rfl, g.2⟩
        exact ⟨ab_rm_ok hd, ab_1_ok hh hs (ab_up.rf h) hL ⟨hz, hst⟩ (ab_nw_ok h hp g (fun z => by cases z))⟩
  | false =>
    rw [hb] at hh
    have hb' : ¬ r.2.2.1 < 13 := fun z => by rw [Nat.blt_eq.mpr z] at hb; cases hb
    rw [if_neg hb']
    dsimp only [cond_false] at hh
    cases hc : (Nat.beq L.length nL && (Nat.blt 5 R.frames && (Nat.ble (ab_sum st + 82) R.locals && (ab_rm R (k + 1) (n + 6) && (Nat.ble (k + 1) mc && Nat.ble (n + 6) ms))))) with
    | false => rw [hc] at hh; cases hh
    | true =>
      rw [hc] at hh
      cases hh
      simp only [Bool.and_eq_true, Nat.ble_eq, Nat.blt_eq] at hc
      obtain ⟨c1, c2, c3, c4, c5, c6⟩ := hc
      exact ⟨hL.1.trans (Nat.eq_of_beq_eq_true c1), c2, by rw [ab_sum_ok hst]; exact c3, ab_rm_ok c4, c5, c6, hs ν _ σ (ab_up.rf h) rfl hp⟩
theorem ab_newa_ok {d : Nat} (h : ab_cx xs C ν) (hL : ab_Ls C.1.length ν L Lc) (hst : ab_Vs C.1.length ν st sc) (hp : ab_hp C.1.length ν H σ) (hh : ab_newa R r d pc C L st H k n = some o) (hs : ab_sem xs C ν K Q CP o) :
    m_s_newa R r σ sc k n (fun st σ n => K (pc + d) Lc st σ (k + 1) n) := by
  unfold ab_newa at hh
  split at hh
  · rename_i e st'
    cases hb : (Nat.beq e.1 0 && (ab_le 0 e.2 && (ab_le e.2 1000000 && (ab_rm R (k + 1) (n + e.2.toNat) && Nat.ble 13 r.2.2.1)))) with
    | false => rw [hb] at hh; cases hh
    | true =>
    rw [hb] at hh
    simp only [Bool.and_eq_true, ab_le_ok, Nat.ble_eq] at hb
    obtain ⟨b1, b2, b3, b4, b5⟩ := hb
    dsimp only [cond_true] at hh
    cases hc : ab_cnt H r.2.2.1 with
    | none => rw [hc] at hh; cases hh
    | some f =>
      rw [hc] at hh
      obtain ⟨x, s', rfl, g1, g2⟩ := ab_Vs_i hst
      have e0 := Nat.eq_of_beq_eq_true b1
      have hx : x.toInt = e.2 := by rw [g1.2, e0, h.1.1]; omega
      have hn : ¬ x < 0 := by
        rw [Int32.lt_iff_toInt_lt]
        show ¬ x.toInt < 0
        omega
      have hcl : x.toNatClampNeg = e.2.toNat := by
        show x.toInt.toNat = _
        rw [hx]
      have g := ab_cnt_ok hp hc
      have hz : ab_R C.1.length ν (r.2.2.1, f, (0, 1)) (some (r.2.2.1, σ.1 r.2.2.1)) := ⟨g.1, h.2.1, by show ν 0 + 1 = 1; rw [h.1.1]; rfl, rfl, g.2⟩
      refine ⟨hn, by rw [hcl]; omega, by rw [hcl]; exact ab_rm_ok b4, ?_⟩
      show K (pc + d) Lc (.inr (.inr (some (r.2.2.1, σ.1 r.2.2.1))) :: s') (m_nu σ r.2.2.1 x.toNatClampNeg) (k + 1) (n + x.toNatClampNeg)
      rw [hcl]
      exact ab_1_ok hh hs (ab_up.rf h) hL ⟨hz, g2⟩ (ab_nw_ok h hp g (fun _ => m_ty_c b5))
  · cases hh
theorem ab_mnB_ok {x o c hi i : Nat} (hb : ab_mnB x o c hi = true) (hi2 : i ≤ hi) : ¬ (c = 13 ∧ x ≤ i) ∧ ¬ (c = 21 ∧ i = o) := by
  unfold ab_mnB at hb
  rw [Bool.and_eq_true, Bool.not_eq_true', Bool.not_eq_true'] at hb
  refine ⟨fun z => ?_, fun z => ?_⟩
  · have : (Nat.beq c 13 && Nat.ble x hi) = true := by
      rw [Bool.and_eq_true, Nat.ble_eq]
      exact ⟨by rw [z.1]; rfl, by omega⟩
    rw [this] at hb
    cases hb.1
  · have : (Nat.beq c 21 && Nat.ble o hi) = true := by
      rw [Bool.and_eq_true, Nat.ble_eq]
      exact ⟨by rw [z.1]; rfl, by omega⟩
    rw [this] at hb
    cases hb.2
theorem m_mn_old (σ : mS) {c i k : Nat} (h1 : ¬ (c = 13 ∧ σ.1 13 ≤ i)) (h2 : ¬ (c = 21 ∧ i = σ.1 21)) : m_get (m_mn σ) c i k = m_get σ c i k := by
  have e1 : (m_mn σ).2.2.1 c i k = σ.2.2.1 c i k := if_neg h1
  have e2 : (m_mn σ).2.2.2.2 c i k = σ.2.2.2.2 c i k := if_neg h2
  unfold m_get m_i m_l m_r
  rw [e1, e2]
  rfl
theorem m_mn_len (σ : mS) {c i : Nat} (h1 : ¬ (c = 13 ∧ σ.1 13 ≤ i)) (h2 : ¬ (c = 21 ∧ i = σ.1 21)) : (m_mn σ).2.1 c i = σ.2.1 c i := by
  show (if c = 13 ∧ σ.1 13 ≤ i then 3 else if c = 21 ∧ i = σ.1 21 then 4 else σ.2.1 c i) = _
  rw [if_neg h1, if_neg h2]
theorem m_mn_r (σ : mS) (k : Nat) : m_get (m_mn σ) 21 (σ.1 21) k = .inr (.inr (some (13, σ.1 13 + k))) := by
  show Sum.inr (Sum.inr (if (21 : Nat) = 21 ∧ σ.1 21 = σ.1 21 then some (13, σ.1 13 + k) else σ.2.2.2.2 21 (σ.1 21) k)) = _
  rw [if_pos ⟨rfl, rfl⟩]
theorem ab_mna_ok (h : ab_cx xs C ν) (hL : ab_Ls C.1.length ν L Lc) (hst : ab_Vs C.1.length ν st sc) (hp : ab_hp C.1.length ν H σ) (hh : ab_mna R pc C L st H k n = some o) (hs : ab_sem xs C ν K Q CP o) :
    m_s_mna R σ sc k n (fun st σ => K (pc + 4) Lc st σ (k + 5) (n + 16)) := by
  unfold ab_mna at hh
  split at hh
  · rename_i f e st'
    cases hb : (ab_eE f (0, 3) && (ab_eE e (0, 4) && ab_rm R (k + 5) (n + 16))) with
    | false => rw [hb] at hh; cases hh
    | true =>
    rw [hb] at hh
    rw [Bool.and_eq_true, Bool.and_eq_true] at hb
    obtain ⟨b1, b2, b3⟩ := hb
    have b1 := ab_eE_ok b1
    have b2 := ab_eE_ok b2
    subst b1
    subst b2
    dsimp only [cond_true] at hh
    obtain ⟨y, s1, rfl, g1, g2⟩ := ab_Vs_i hst
    obtain ⟨x, s', rfl, g3, g4⟩ := ab_Vs_i g2
    have hy : y = 3 := Int32.toInt_inj.mp (by rw [g1.2]; show ν 0 + 3 = 3; rw [h.1.1]; rfl)
    have hx : x = 4 := Int32.toInt_inj.mp (by rw [g3.2]; show ν 0 + 4 = 4; rw [h.1.1]; rfl)
    cases hc : ab_cnt H 13 with
    | none => rw [hc] at hh; cases hh
    | some b =>
    cases hd : ab_cnt H 21 with
    | none => rw [hc, hd] at hh; cases hh
    | some o9 =>
    rw [hc, hd] at hh
    dsimp only at hh
    cases hz : (Nat.beq b.1 0 && (Nat.beq o9.1 0 && (H.2.1.all (fun q => ab_mnB b.2.toNat o9.2.toNat q.1 q.2.2.1) && (H.2.2.1.all (fun g => ab_mnB b.2.toNat o9.2.toNat g.1 g.2.2.1) && H.2.2.2.all (fun q => ab_mnB b.2.toNat o9.2.toNat q.1 q.2.1))))) with
    | false => rw [hz] at hh; cases hh
    | true =>
    rw [hz] at hh
    simp only [Bool.and_eq_true] at hz
    obtain ⟨z1, z2, z3, z4, z5⟩ := hz
    have c1 := ab_cnt_ok hp hc
    have c2 := ab_cnt_ok hp hd
    have e1 := ab_con_e h c1 z1
    have e2 := ab_con_e h c2 z2
    have hr : ab_R C.1.length ν (21, o9, (0, 1)) (some (21, σ.1 21)) := ⟨c2.1, h.2.1, by show ν 0 + 1 = 1; rw [h.1.1]; rfl, rfl, c2.2⟩
    refine ⟨hy, hx, ab_rm_ok b3, ab_1_ok hh hs (ab_up.rf h) hL ⟨hr, g4⟩ ?_⟩
    rw [e1, e2] at z3 z4 z5 ⊢
    have rf : ∀ (m : Nat) (lo hi : Int), lo ≤ ((σ.1 13 + m : Nat) : Int) → ((σ.1 13 + m : Nat) : Int) ≤ hi → ab_Tr (2, 13, lo, hi, 1, 1) (m_get (m_mn σ) 21 (σ.1 21) m) := fun m lo hi q1 q2 => by
      rw [m_mn_r]
      exact ⟨rfl, rfl, rfl, q1, q2⟩
    refine ⟨fun q hq => ?_, fun q hq i h1 h2 => ?_, fun g hg i k' h1 h2 h3 h4 => ?_, fun q hq => ?_⟩
    · obtain ⟨q0, q1, rfl⟩ := List.mem_map.mp hq
      have g := hp.1 q0 q1
      cases ha : Nat.beq q0.1 13 with
      | true =>
        have ea := Nat.eq_of_beq_eq_true ha
        dsimp only [cond_true]
        refine ⟨g.1, ?_⟩
        show ((if q0.1 = 13 then σ.1 13 + 4 else if q0.1 = 21 then σ.1 21 + 1 else σ.1 q0.1 : Nat) : Int) = ν q0.2.1 + (q0.2.2 + 4)
        rw [if_pos ea]
        have := g.2
        rw [ea] at this
        omega
      | false =>
        have na : ¬ q0.1 = 13 := fun z => by rw [z] at ha; cases ha
        dsimp only [cond_false]
        cases hb2 : Nat.beq q0.1 21 with
        | true =>
          have ea := Nat.eq_of_beq_eq_true hb2
          dsimp only [cond_true]
          refine ⟨g.1, ?_⟩
          show ((if q0.1 = 13 then σ.1 13 + 4 else if q0.1 = 21 then σ.1 21 + 1 else σ.1 q0.1 : Nat) : Int) = ν q0.2.1 + (q0.2.2 + 1)
          rw [if_neg na, if_pos ea]
          have := g.2
          rw [ea] at this
          omega
        | false =>
          have nb : ¬ q0.1 = 21 := fun z => by rw [z] at hb2; cases hb2
          dsimp only [cond_false]
          refine ⟨g.1, ?_⟩
          show ((if q0.1 = 13 then σ.1 13 + 4 else if q0.1 = 21 then σ.1 21 + 1 else σ.1 q0.1 : Nat) : Int) = _
          rw [if_neg na, if_neg nb]
          exact g.2
    · rcases List.mem_cons.mp hq with rfl | hq
      · have h1' : σ.1 13 ≤ i := h1
        show (if (13 : Nat) = 13 ∧ σ.1 13 ≤ i then 3 else _) = 3
        rw [if_pos ⟨rfl, h1'⟩]
      rcases List.mem_cons.mp hq with rfl | hq
      · have h1' : σ.1 21 ≤ i := h1
        have h2' : i ≤ σ.1 21 := h2
        have e : i = σ.1 21 := by omega
        subst e
        show (if (21 : Nat) = 13 ∧ σ.1 13 ≤ σ.1 21 then 3 else if (21 : Nat) = 21 ∧ σ.1 21 = σ.1 21 then 4 else _) = 4
        rw [if_neg (fun z => by cases z.1), if_pos ⟨rfl, rfl⟩]
      · obtain ⟨n1, n2⟩ := ab_mnB_ok (List.all_eq_true.mp z3 q hq) h2
        rw [m_mn_len σ n1 n2]
        exact hp.2.1 q hq i h1 h2
    · have arr : ∀ {a m : Nat} {T : ab_T}, g = (21, σ.1 21, σ.1 21, a, m, T) → i = σ.1 21 ∧ a ≤ k' ∧ k' ≤ m := fun e => by
        subst e
        have h1' : σ.1 21 ≤ i := h1
        have h2' : i ≤ σ.1 21 := h2
        exact ⟨by omega, h3, h4⟩
      rcases List.mem_cons.mp hg with rfl | hg
      · have h1' : σ.1 13 ≤ i := h1
        show ab_Tr (0, 0, 0, 0, 0, 0) (Sum.inl (if (13 : Nat) = 13 ∧ σ.1 13 ≤ i then 0 else σ.2.2.1 13 i k'))
        rw [if_pos ⟨rfl, h1'⟩]
        exact ⟨rfl, Int.le_refl _, Int.le_refl _⟩
      rcases List.mem_cons.mp hg with e | hg
      · obtain ⟨a1, a2, a3⟩ := arr e
        subst e
        subst a1
        have e9 : k' = 0 := by omega
        subst e9
        exact rf 0 _ _ (Int.le_refl _) (Int.le_refl _)
      rcases List.mem_cons.mp hg with e | hg
      · obtain ⟨a1, a2, a3⟩ := arr e
        subst e
        subst a1
        have e9 : k' = 1 := by omega
        subst e9
        exact rf 1 _ _ (Int.le_refl _) (Int.le_refl _)
      rcases List.mem_cons.mp hg with e | hg
      · obtain ⟨a1, a2, a3⟩ := arr e
        subst e
        subst a1
        have e9 : k' = 2 := by omega
        subst e9
        exact rf 2 _ _ (Int.le_refl _) (Int.le_refl _)
      rcases List.mem_cons.mp hg with e | hg
      · obtain ⟨a1, a2, a3⟩ := arr e
        subst e
        subst a1
        have e9 : k' = 3 := by omega
        subst e9
        exact rf 3 _ _ (Int.le_refl _) (Int.le_refl _)
      rcases List.mem_cons.mp hg with e | hg
      · obtain ⟨a1, a2, a3⟩ := arr e
        subst e
        subst a1
        exact rf k' _ _ (by omega) (by omega)
      · obtain ⟨n1, n2⟩ := ab_mnB_ok (List.all_eq_true.mp z4 g hg) h2
        rw [m_mn_old σ n1 n2]
        exact hp.2.2.1 g hg i k' h1 h2 h3 h4
    · obtain ⟨n1, n2⟩ := ab_mnB_ok (List.all_eq_true.mp z5 q hq) (Nat.le_refl _)
      rw [m_mn_old σ n1 n2]
      exact hp.2.2.2 q hq
  · cases hh
theorem ab_Vs_drop {n : Nat} : ∀ {i : Nat} {vs : List ab_V} {sc : List mV}, ab_Vs n ν vs sc → ab_Vs n ν (vs.drop i) (sc.drop i)
  | 0, _, _, h => h
  | _ + 1, [], [], _ => trivial
  | i + 1, _ :: _, _ :: _, ⟨_, h2⟩ => ab_Vs_drop (i := i) h2
  | _ + 1, [], _ :: _, h => h.elim
  | _ + 1, _ :: _, [], h => h.elim
theorem ab_Vs_take {n : Nat} : ∀ {i : Nat} {vs : List ab_V} {sc : List mV}, ab_Vs n ν vs sc → ab_Vs n ν (vs.take i) (sc.take i)
  | 0, _, _, _ => trivial
  | _ + 1, [], [], _ => trivial
  | i + 1, _ :: _, _ :: _, ⟨h1, h2⟩ => ⟨h1, ab_Vs_take (i := i) h2⟩
  | _ + 1, [], _ :: _, h => h.elim
  | _ + 1, _ :: _, [], h => h.elim
theorem ab_Vs_app {n : Nat} : ∀ {vs ws : List ab_V} {sc sd : List mV}, ab_Vs n ν vs sc → ab_Vs n ν ws sd → ab_Vs n ν (vs ++ ws) (sc ++ sd)
  | [], _, [], _, _, h => h
  | _ :: _, _, _ :: _, _, ⟨h1, h2⟩, h => ⟨h1, ab_Vs_app h2 h⟩
  | [], _, _ :: _, _, h, _ => h.elim
  | _ :: _, _, [], _, h, _ => h.elim
theorem ab_Vs_rev {n : Nat} : ∀ {vs : List ab_V} {sc : List mV}, ab_Vs n ν vs sc → ab_Vs n ν vs.reverse sc.reverse
  | [], [], _ => trivial
  | v :: vs, x :: xs, ⟨h1, h2⟩ => by
    rw [List.reverse_cons, List.reverse_cons]
    exact ab_Vs_app (ab_Vs_rev h2) ⟨h1, trivial⟩
  | [], _ :: _, h => h.elim
  | _ :: _, [], h => h.elim
theorem ab_callV_ok {y : mMt} {CC : Nat → List mV → mS → (mX → mS → Prop) → Prop} {T : mS → Nat → Nat → Nat → Prop} {F : List mV → mS → Nat → Nat → Prop} (h : ab_cx xs C ν) (hst : ab_Vs C.1.length ν st sc) (hh : ab_callV R y r C st k n = some o)
    (hs : ∀ c, o = .inr (.inr c) → ∀ avs sc', ab_Vs C.1.length ν c.2.1 avs → ab_Vs C.1.length ν c.2.2 sc' → CC c.1 avs σ (m_s_end T F sc' k n y)) : m_s_callV CC R T y r σ sc k n F := by
  unfold ab_callV at hh
  split at hh
  · rename_i z st' hd
    cases hb : (Nat.beq z.1 (m_p r 5) && (ab_nn C z && (Nat.beq (st.take r.2.2.2.1).length r.2.2.2.1 && (Nat.ble (ab_sum st') 8 && ab_rm R (k + y.2.2.2.2.1.cells) (n + y.2.2.2.2.1.slots))))) with
    | false => rw [hb] at hh; cases hh
    | true =>
    rw [hb] at hh
    cases hh
    simp only [Bool.and_eq_true, Nat.ble_eq] at hb
    obtain ⟨b1, b2, b3, b4, b5⟩ := hb
    have g := ab_Vs_drop (i := r.2.2.2.1) hst
    rw [hd] at g
    obtain ⟨w, s', e0, g1, g2⟩ := ab_Vs_a g
    obtain ⟨p, rfl, g3, g4⟩ := ab_R_some h g1 b2
    have gt := ab_Vs_take (i := r.2.2.2.1) hst
    have e1 := Nat.eq_of_beq_eq_true b1
    unfold m_s_callV
    rw [e0]
    refine ⟨g3.trans e1, (ab_Vs_len gt).trans (Nat.eq_of_beq_eq_true b3), by rw [ab_sum_ok g2]; exact b4, ab_rm_ok b5, hs _ rfl _ _ ⟨?_, ab_Vs_rev gt⟩ g2⟩
    have e2 : (some (m_p r 5, p.2) : mR) = some p := congrArg some (Prod.ext (by show m_p r 5 = p.1; rw [g3, e1]) rfl)
    rw [e2]
    exact g1
  · cases hh
theorem ab_callS_ok {y : mMt} {CC : Nat → List mV → mS → (mX → mS → Prop) → Prop} {T : mS → Nat → Nat → Nat → Prop} {F : List mV → mS → Nat → Nat → Prop} (hst : ab_Vs C.1.length ν st sc) (hh : ab_callS R y r st k n = some o)
    (hs : ∀ c, o = .inr (.inr c) → ∀ avs sc', ab_Vs C.1.length ν c.2.1 avs → ab_Vs C.1.length ν c.2.2 sc' → CC c.1 avs σ (m_s_end T F sc' k n y)) : m_s_callS CC R T y r σ sc k n F := by
  unfold ab_callS at hh
  cases hb : (Nat.beq (st.take r.2.2.2.1).length r.2.2.2.1 && (Nat.ble (ab_sum (st.drop r.2.2.2.1)) 8 && ab_rm R (k + y.2.2.2.2.1.cells) (n + y.2.2.2.2.1.slots))) with
  | false => rw [hb] at hh; cases hh
  | true =>
    rw [hb] at hh
    cases hh
    simp only [Bool.and_eq_true, Nat.ble_eq] at hb
    obtain ⟨b3, b4, b5⟩ := hb
    have gt := ab_Vs_take (i := r.2.2.2.1) hst
    have gd := ab_Vs_drop (i := r.2.2.2.1) hst
    exact ⟨(ab_Vs_len gt).trans (Nat.eq_of_beq_eq_true b3), by rw [ab_sum_ok gd]; exact b4, ab_rm_ok b5, hs _ rfl _ _ (ab_Vs_rev gt) gd⟩
theorem ab_sumle {vs : List ab_V} {s' : List mV} {d : Nat} {n' : Nat} (g : ab_Vs n' ν vs s') (hb : Nat.ble (ab_sum vs + d) R.locals = true) : (s'.map m_cat).sum + d ≤ R.locals := by
  rw [ab_sum_ok g]
  exact Nat.le_of_ble_eq_true hb
theorem ab_math_ok {a : Nat} (h : ab_cx xs C ν) (hL : ab_Ls C.1.length ν L Lc) (hst : ab_Vs C.1.length ν st sc) (hp : ab_hp C.1.length ν H σ) (hh : ab_math R a pc C L st H k n = some o) (hs : ab_sem xs C ν K Q CP o) : m_s_math R a sc (fun st => K (pc + 3) Lc st σ k n) := by
  unfold ab_math at hh
  split at hh
  · rename_i f e st'
    cases hb : Nat.ble (ab_sum st' + 13) R.locals with
    | false => rw [hb] at hh; cases hh
    | true =>
    rw [hb] at hh
    obtain ⟨y, s1, rfl, g1, g2⟩ := ab_Vs_i hst
    obtain ⟨x, s', rfl, g3, g4⟩ := ab_Vs_i g2
    obtain ⟨ν', u, g⟩ := ab_max_ok (z := (if x < y then y else x).toInt) h g3 g1 ⟨fun z => by
      by_cases q : x < y
      · rw [if_pos q]
      · rw [if_neg q]
        rw [Int32.lt_iff_toInt_lt] at q
        omega, fun z => by
      rw [if_neg (fun q => by rw [Int32.lt_iff_toInt_lt] at q; omega)]⟩
    exact ⟨ab_sumle g4 hb, ab_1_ok hh hs u (hL.ex u.2.1 u.2.2) ⟨g, g4.ex u.2.1 u.2.2⟩ (hp.ex u.2.1 u.2.2)⟩
  · rename_i f e st'
    cases hb : Nat.ble (ab_sum st' + 13) R.locals with
    | false => rw [hb] at hh; cases hh
    | true =>
    rw [hb] at hh
    obtain ⟨y, s1, rfl, g1, g2⟩ := ab_Vs_i hst
    obtain ⟨x, s', rfl, g3, g4⟩ := ab_Vs_i g2
    obtain ⟨ν', u, g⟩ := ab_min_ok (z := (if y < x then y else x).toInt) h g3 g1 ⟨fun z => by
      rw [if_neg (fun q => by rw [Int32.lt_iff_toInt_lt] at q; omega)], fun z => by
      by_cases q : y < x
      · rw [if_pos q]
      · rw [if_neg q]
        rw [Int32.lt_iff_toInt_lt] at q
        omega⟩
    exact ⟨ab_sumle g4 hb, ab_1_ok hh hs u (hL.ex u.2.1 u.2.2) ⟨g, g4.ex u.2.1 u.2.2⟩ (hp.ex u.2.1 u.2.2)⟩
  · rename_i e st'
    cases hb : Nat.ble (ab_sum st' + 13) R.locals with
    | false => rw [hb] at hh; cases hh
    | true =>
    rw [hb] at hh
    obtain ⟨x, s', rfl, g3, g4⟩ := ab_Vs_i hst
    obtain ⟨ν', u, g⟩ := ab_abs_ok h g3
    exact ⟨ab_sumle g4 hb, ab_1_ok hh hs u (hL.ex u.2.1 u.2.2) ⟨g, g4.ex u.2.1 u.2.2⟩ (hp.ex u.2.1 u.2.2)⟩
  · rename_i f e st'
    cases hb : Nat.ble (ab_sum st' + 15) R.locals with
    | false => rw [hb] at hh; cases hh
    | true =>
    rw [hb] at hh
    obtain ⟨y, s1, rfl, g1, g2⟩ := ab_Vs_l hst
    obtain ⟨x, s', rfl, g3, g4⟩ := ab_Vs_l g2
    obtain ⟨ν', u, g⟩ := ab_max_ok (z := (if y < x then x else y).toInt) h g3 g1 ⟨fun z => by
      rw [if_neg (fun q => by rw [Int64.lt_iff_toInt_lt] at q; omega)], fun z => by
      by_cases q : y < x
      · rw [if_pos q]
      · rw [if_neg q]
        rw [Int64.lt_iff_toInt_lt] at q
        omega⟩
    exact ⟨ab_sumle g4 hb, ab_1_ok hh hs u (hL.ex u.2.1 u.2.2) ⟨g, g4.ex u.2.1 u.2.2⟩ (hp.ex u.2.1 u.2.2)⟩
  · rename_i f e st'
    cases hb : Nat.ble (ab_sum st' + 15) R.locals with
    | false => rw [hb] at hh; cases hh
    | true =>
    rw [hb] at hh
    obtain ⟨y, s1, rfl, g1, g2⟩ := ab_Vs_l hst
    obtain ⟨x, s', rfl, g3, g4⟩ := ab_Vs_l g2
    obtain ⟨ν', u, g⟩ := ab_min_ok (z := (if y < x then y else x).toInt) h g3 g1 ⟨fun z => by
      rw [if_neg (fun q => by rw [Int64.lt_iff_toInt_lt] at q; omega)], fun z => by
      by_cases q : y < x
      · rw [if_pos q]
      · rw [if_neg q]
        rw [Int64.lt_iff_toInt_lt] at q
        omega⟩
    exact ⟨ab_sumle g4 hb, ab_1_ok hh hs u (hL.ex u.2.1 u.2.2) ⟨g, g4.ex u.2.1 u.2.2⟩ (hp.ex u.2.1 u.2.2)⟩
  · cases hh
theorem ab_obj_ok (h : ab_cx xs C ν) (hL : ab_Ls C.1.length ν L Lc) (hst : ab_Vs C.1.length ν st sc) (hp : ab_hp C.1.length ν H σ) (hh : ab_obj R pc C L st H k n = some o) (hs : ab_sem xs C ν K Q CP o) : m_s_obj R sc (fun st => K (pc + 3) Lc st σ k n) := by
  unfold ab_obj at hh
  split at hh
  · rename_i z st'
    cases hb : (ab_nn C z && Nat.ble (ab_sum st' + 12) R.locals) with
    | false => rw [hb] at hh; cases hh
    | true =>
      rw [hb] at hh
      rw [Bool.and_eq_true] at hb
      obtain ⟨y, s', rfl, g1, g2⟩ := ab_Vs_a hst
      obtain ⟨p, rfl, h1, h2⟩ := ab_R_some h g1 hb.1
      exact ⟨ab_sumle g2 hb.2, ab_1_ok hh hs (ab_up.rf h) hL g2 hp⟩
  · cases hh
theorem ab_Vs_0 {n : Nat} {sc : List mV} (h : ab_Vs n ν [] sc) : sc = [] := by
  cases sc with
  | nil => rfl
  | cons _ _ => exact h.elim
theorem ab_iret_ok {rt : Option FieldType} (h : ab_cx xs C ν) (hst : ab_Vs C.1.length ν st sc) (hp : ab_hp C.1.length ν H σ) (hh : ab_iret rt C st H = some o) (hs : ab_sem xs C ν K Q CP o) : m_s_iret rt sc (fun v => Q (.inl (some (.inl v))) σ) := by
  unfold ab_iret at hh
  split at hh
  · rename_i e
    cases hb : (Nat.beq (ab_rt rt) 1 || (Nat.beq (ab_rt rt) 2 && (ab_le 0 (ab_iv C.1 e).1 && ab_le (ab_iv C.1 e).2 1))) with
    | false => rw [hb] at hh; cases hh
    | true =>
      rw [hb] at hh
      cases hh
      simp only [Bool.or_eq_true, Bool.and_eq_true, ab_le_ok] at hb
      obtain ⟨x, s', rfl, g1, g2⟩ := ab_Vs_i hst
      have e1 := ab_Vs_0 g2
      subst e1
      refine ⟨?_, hs ν _ σ (ab_up.rf h) g1 hp⟩
      rcases hb with hb | ⟨hb, b1, b2⟩
      · have e2 := Nat.eq_of_beq_eq_true hb
        refine Or.inl ?_
        unfold ab_rt at e2
        split at e2 <;> first | rfl | (exact absurd e2 (by decide))
      · have e2 := Nat.eq_of_beq_eq_true hb
        have b := ab_iv_ok h.1 g1
        refine Or.inr ⟨?_, ?_⟩
        · unfold ab_rt at e2
          split at e2 <;> first | rfl | (exact absurd e2 (by decide))
        · have h4 : x.toInt = 0 ∨ x.toInt = 1 := by omega
          rcases h4 with h4 | h4
          · exact Or.inl (Int32.toInt_inj.mp h4)
          · exact Or.inr (Int32.toInt_inj.mp h4)
  · cases hh
theorem ab_lret_ok {rt : Option FieldType} (h : ab_cx xs C ν) (hst : ab_Vs C.1.length ν st sc) (hp : ab_hp C.1.length ν H σ) (hh : ab_lret rt C st H = some o) (hs : ab_sem xs C ν K Q CP o) : m_s_lret rt sc (fun v => Q (.inl (some (.inr (.inl v)))) σ) := by
  unfold ab_lret at hh
  split at hh
  · rename_i e
    cases hb : Nat.beq (ab_rt rt) 3 with
    | false => rw [hb] at hh; cases hh
    | true =>
      rw [hb] at hh
      cases hh
      obtain ⟨x, s', rfl, g1, g2⟩ := ab_Vs_l hst
      have e1 := ab_Vs_0 g2
      subst e1
      refine ⟨?_, hs ν _ σ (ab_up.rf h) g1 hp⟩
      have e2 := Nat.eq_of_beq_eq_true hb
      unfold ab_rt at e2
      split at e2 <;> first | rfl | (exact absurd e2 (by decide))
  · cases hh
theorem ab_aret_ok {rt : Option FieldType} (h : ab_cx xs C ν) (hst : ab_Vs C.1.length ν st sc) (hp : ab_hp C.1.length ν H σ) (hh : ab_aret rt C st H = some o) (hs : ab_sem xs C ν K Q CP o) : m_s_aret rt sc (fun v => Q (.inl (some (.inr (.inr v)))) σ) := by
  unfold ab_aret at hh
  split at hh
  · rename_i e
    cases hb : Nat.beq (ab_rt rt) 4 with
    | false => rw [hb] at hh; cases hh
    | true =>
      rw [hb] at hh
      cases hh
      obtain ⟨x, s', rfl, g1, g2⟩ := ab_Vs_a hst
      have e1 := ab_Vs_0 g2
      subst e1
      refine ⟨?_, hs ν _ σ (ab_up.rf h) g1 hp⟩
      have e2 := Nat.eq_of_beq_eq_true hb
      unfold ab_rt at e2
      split at e2 <;> first | rfl | (exact absurd e2 (by decide))
  · cases hh
theorem ab_vret_ok {rt : Option FieldType} (h : ab_cx xs C ν) (hst : ab_Vs C.1.length ν st sc) (hp : ab_hp C.1.length ν H σ) (hh : ab_vret rt C st H = some o) (hs : ab_sem xs C ν K Q CP o) : rt = none ∧ sc = [] ∧ Q (.inl none) σ := by
  unfold ab_vret at hh
  split at hh
  · cases hb : Nat.beq (ab_rt rt) 0 with
    | false => rw [hb] at hh; cases hh
    | true =>
      rw [hb] at hh
      cases hh
      refine ⟨?_, ab_Vs_0 hst, hs ν _ σ (ab_up.rf h) trivial hp⟩
      have e2 := Nat.eq_of_beq_eq_true hb
      unfold ab_rt at e2
      split at e2 <;> first | rfl | (exact absurd e2 (by decide))
  · cases hh
theorem ab_tb_ok {e : ab_E} {x : Int} (h : ab_cx xs C ν) (he : ab_I C.1.length ν e x) : ∀ (offs : List Int) (lo : Int) (j : Nat) (o : Int), offs[j]? = some o → x = lo + (j : Int) → ∃ q ∈ ab_tb C pc L st H k n e lo offs, q.2 = (((pc : Int) + o).toNat, L, st, H, k, n) ∧ ab_cx xs q.1 ν ∧ q.1.1.length = C.1.length
  | [], _, _, _, h1, _ => by cases h1
  | o0 :: t, lo, 0, o, h1, h2 => by
    have e1 : o0 = o := by simpa using h1
    subst e1
    have b := ab_iv_ok h.1 he
    have hx : x = lo := by omega
    have hb : (ab_le (ab_iv C.1 e).1 lo && ab_le lo (ab_iv C.1 e).2) = true := by
      rw [Bool.and_eq_true, ab_le_ok, ab_le_ok]; omega
    have g := ab_asm_ok (c := .eq) (y := lo) (f := (0, lo)) h he (ab_con h) hx
    unfold ab_tb
    rw [hb]
    exact ⟨_, List.mem_cons_self, rfl, g.1, g.2⟩
  | o0 :: t, lo, j + 1, o, h1, h2 => by
    obtain ⟨q, q1, q2⟩ := ab_tb_ok h he t (lo + 1) j o (by simpa using h1) (by omega)
    unfold ab_tb
    cases (ab_le (ab_iv C.1 e).1 lo && ab_le lo (ab_iv C.1 e).2) with
    | true => exact ⟨q, List.mem_cons_of_mem _ q1, q2⟩
    | false => exact ⟨q, q1, q2⟩
theorem ab_cx_up {C' : ab_C} (g : ab_cx xs C' ν ∧ C'.1.length = C.1.length) : ab_up xs C ν C' ν := ⟨g.1, fun _ _ => rfl, Nat.le_of_eq g.2.symm⟩
theorem ab_sw_ok {d lo hi : Int} {offs : Array Int} {ln ra rb : Nat} {rz : Int} {rp : List Nat} (h : ab_cx xs C ν) (hL : ab_Ls C.1.length ν L Lc) (hst : ab_Vs C.1.length ν st sc) (hp : ab_hp C.1.length ν H σ) (hh : ab_sw d lo hi offs pc C L st H k n = some o) (hs : ab_sem xs C ν K Q CP o) :
    m_s_bare (.tableswitch d lo hi offs, ln, ra, rb, rz, rp) pc Lc sc (fun pc L st => K pc L st σ k n) := by
  unfold ab_sw at hh
  split at hh
  · rename_i e st'
    cases hz : ab_le (hi + 1) (lo + (offs.size : Int)) with
    | false => rw [hz] at hh; cases hh
    | true =>
    rw [hz] at hh
    rw [ab_le_ok] at hz
    cases hh
    obtain ⟨x, s', rfl, g1, g2⟩ := ab_Vs_i hst
    have b := ab_iv_ok h.1 g1
    show (match (if x.toInt < lo ∨ hi < x.toInt then some (((pc : Int) + d).toNat, Lc, s') else match offs[(x.toInt - lo).toNat]? with
      | some o => some (((pc : Int) + o).toNat, Lc, s')
      | none => none) with
      | some q => K q.1 q.2.1 q.2.2 σ k n
      | none => False)
    by_cases hout : x.toInt < lo ∨ hi < x.toInt
    · rw [if_pos hout]
      have hb : (ab_le lo (ab_iv C.1 e).1 && ab_le (ab_iv C.1 e).2 hi) = false := by
        cases hb : (ab_le lo (ab_iv C.1 e).1 && ab_le (ab_iv C.1 e).2 hi) with
        | false => rfl
        | true => rw [Bool.and_eq_true, ab_le_ok, ab_le_ok] at hb; omega
      exact hs (C, ((pc : Int) + d).toNat, L, st', H, k, n) (List.mem_append_right _ (by rw [hb]; exact List.mem_cons_self)) ν Lc s' σ (ab_up.rf h) hL g2 hp
    · rw [if_neg hout]
      have hj : (x.toInt - lo).toNat < offs.size := by omega
      have hoj := Array.getElem?_eq_getElem hj
      rw [hoj]
      obtain ⟨q, q1, q2, q3, q4⟩ := ab_tb_ok (pc := pc) (L := L) (st := st') (H := H) (k := k) (n := n) h g1 offs.toList lo (x.toInt - lo).toNat _ (by rw [Array.getElem?_toList]; exact hoj) (by omega)
      have hK := hs q (List.mem_append_left _ q1) ν Lc s' σ (ab_cx_up ⟨q3, q4⟩)
      rw [q4, q2] at hK
      exact hK hL g2 hp
  · cases hh
theorem ab_bare_ok (h : ab_cx xs C ν) (hL : ab_Ls C.1.length ν L Lc) (hst : ab_Vs C.1.length ν st sc) (hp : ab_hp C.1.length ν H σ) (hh : ab_bare r pc C L st H k n = some o) (hs : ab_sem xs C ν K Q CP o) : m_s_bare r pc Lc sc (fun pc L st => K pc L st σ k n) := by
  unfold ab_bare at hh
  unfold m_s_bare
  cases hb : ab_br r C st with
  | some q =>
    rw [hb] at hh
    dsimp only at hh
    obtain ⟨P, s', e1, g1, g2, g3, g4⟩ := ab_br_ok h hst hb
    rw [e1]
    dsimp only
    cases hq : q.1 with
    | none =>
      rw [hq] at hh
      cases hh
      refine ⟨fun hP => ?_, fun hP => ?_⟩
      · have u := ab_cx_up (g3 hP)
        exact hs _ List.mem_cons_self ν Lc s' σ u (hL.ex u.2.1 u.2.2) (g1.ex u.2.1 u.2.2) (hp.ex u.2.1 u.2.2)
      · have u := ab_cx_up (g4 hP)
        exact hs _ (List.mem_cons_of_mem _ List.mem_cons_self) ν Lc s' σ u (hL.ex u.2.1 u.2.2) (g1.ex u.2.1 u.2.2) (hp.ex u.2.1 u.2.2)
    | some b =>
      rw [hq] at hh
      have hP := g2 b hq
      cases b with
      | true => exact ⟨fun _ => ab_1_ok hh hs (ab_up.rf h) hL g1 hp, fun z => absurd (hP.mpr rfl) z⟩
      | false => exact ⟨(fun z => Bool.noConfusion (hP.mp z)), fun _ => ab_1_ok hh hs (ab_up.rf h) hL g1 hp⟩
  | none =>
    rw [hb] at hh
    dsimp only at hh
    cases hq : ab_pu r pc C L st with
    | none => rw [hq] at hh; cases hh
    | some q =>
      rw [hq] at hh
      obtain ⟨e1, ν', Lc', sc', e2, u, g1, g2⟩ := ab_pu_ok h hL hst hq
      rw [e1]
      dsimp only
      rw [e2]
      exact ab_1_ok hh hs u g1 g2 (hp.ex u.2.1 u.2.2)
end ABC
