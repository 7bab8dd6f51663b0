/-! a spread, an opening -/
theorem ta_t {σ σ' : mS} {N : Nat} (ho : hO σ N) {r : mR} (hr : r = none ∨ ∃ t, r = some (7, t)) (F : fw_e w68 σ σ') (h : P68 σ r σ') : OX N σ σ' ∧ ∀ o, r ≠ some (7, o) → eO σ σ' o := by
  rcases h with ⟨e, rfl⟩ | ⟨q, e, i, hi, σ8, F6, p6, rfl⟩
  · exact ⟨OX.rf ho, fun _ _ => eO.rf⟩
  · cases hi
    obtain ⟨g1, _, g3⟩ := OX_go ho F6 p6
    exact ⟨g1, fun o hne => g3 o (fun z => hne (by rw [e, z]))⟩
theorem sO.x {N : Nat} {σ σ' : mS} (s : sO σ σ') (ho : hO σ N) (R : RT σ σ') : OX N σ σ' := ⟨hO_s ho s, s.kO, s.mO, fun o => Or.inl (s.2.1 o), R⟩
theorem us_x {σ σ' : mS} {N a : Nat} {q : Int32} (hO0 : hO σ N) (haN : a < N) (hs : oi σ a 9 = 1) (hq : 0 < q.toInt ∧ q.toInt ≤ oi σ a 7) (F : fw_e w12 σ σ') (h : P12 σ (some (7, a)) q σ') : OX N σ σ' ∧ ∀ o, o ≠ a → eO σ σ' o := by
  obtain ⟨g1, g2, g3, g4, g5⟩ := us_o hO0 haN hs hq F h
  exact ⟨⟨g1, g2, g3, g5, RT.fs (FS_of F (by decide))⟩, g4⟩
theorem ua_x {σ σ' : mS} {N a : Nat} {q : Int32} (hO0 : hO σ N) (haN : a < N) (hs : oi σ a 9 = 1) (hq : 0 < q.toInt ∧ q.toInt ≤ oi σ a 6) (F : fw_e w13 σ σ') (h : P13 σ (some (7, a)) q σ') : OX N σ σ' ∧ ∀ o, o ≠ a → eO σ σ' o := by
  obtain ⟨g1, g2, g3, g4, g5⟩ := ua_o hO0 haN hs hq F h
  exact ⟨⟨g1, g2, g3, g5, RT.fs (FS_of F (by decide))⟩, g4⟩
theorem ta_x {σ σ' : mS} {N a : Nat} (hO0 : hO σ N) (haN : a < N) (F : fw_e w68 σ σ') (h : P68 σ (m_r σ 7 a 12) σ') : OX N σ σ' ∧ ∀ o, o = a ∨ oi σ o 1 ≠ oi σ a 1 → eO σ σ' o := by
  obtain ⟨g1, g2, g3, g4, g5⟩ := ta_o hO0 haN (Or.inr rfl) F h
  exact ⟨⟨g1, g2, g3, g5, RT.fs (FS_of F (by decide))⟩, g4⟩
theorem tied_c {σ : mS} {N a : Nat} (ho : hO σ N) (ha : a < N) : m_r σ 7 a 12 = none ∨ ∃ t, m_r σ 7 a 12 = some (7, t) := by
  rcases r_cs (m_r σ 7 a 12) with e | ⟨q, e⟩
  · exact Or.inl e
  · obtain ⟨t, t1, _⟩ := (ho a ha).2.2.2.2.2.2.2.2.2.2.2.2.1 q e
    exact Or.inr ⟨t, by rw [e, t1]⟩
theorem sp_t {σ σ' : mS} {N a b : Nat} {x1 x4 w : Int32} (hs : HS σ) (ho : hO σ N) (ha : a < N) (hb : b < N) (hx : 0 ≤ x1.toInt ∧ x1.toInt < 5) (hf : nfl σ x1) (ma : oi σ a 1 ≠ x1.toInt) (mb : oi σ b 1 ≠ x1.toInt) (sa : oi σ a 9 = 1) (sb : oi σ b 9 = 1) (hab : a ≠ b) (h4 : 0 < x4.toInt) (h : P73 σ x1 (some (7, a)) (some (7, b)) x4 w σ') : OX N σ σ' ∧ 1 ≤ w.toInt ∧ w.toInt ≤ x4.toInt := by
  have ga := ho a ha
  have gb := ho b hb
  obtain ⟨i1, e1, v3, p3, i7, e7, v9, p9, h⟩ := h
  cases e1
  cases e7
  rw [p24 p3 ga.2.1, p24 p9 gb.2.1] at h
  rcases h with ⟨z, _⟩ | ⟨q14, e14, ⟨z, _⟩ | ⟨q18, e18, h⟩⟩
  · cases z
  · cases z
  cases e14
  cases e18
  have na := i_nat (a := m_i σ 7 a 2) ga.2.1.1
  have nb := i_nat (a := m_i σ 7 b 2) gb.2.1.1
  have ga2 : (m_i σ 7 a 2).toInt < 3 := ga.2.1.2
  have gb2 : (m_i σ 7 b 2).toInt < 3 := gb.2.1.2
  have la := ga.2.2.2.2.2.1.2 _ na.symm
  have lb := gb.2.2.2.2.2.1.2 _ nb.symm
  have ha7 := ga.2.2.2.2.2.2.1
  have hb7 := gb.2.2.2.2.2.2.1
  have pa := ga.2.2.2.2.2.2.2.2.2.1 sa
  have pb := gb.2.2.2.2.2.2.2.2.2.1 sb
  have body : ∀ q : Int32, (1 ≤ q.toInt ∧ q.toInt ≤ x4.toInt ∧ q.toInt ≤ oi σ a 7 ∧ q.toInt ≤ oi σ b 7) → (∃ σ22, fw_e w32 σ σ22 ∧ P32 σ (some (8, (m_i σ 7 a 2).toNatClampNeg)) (m_i σ 7 a 4) q x1 (m_i σ 7 a 1) (Int32.ofInt 1) σ22 ∧ ∃ σ26, fw_e w32 σ22 σ26 ∧ P32 σ22 (some (8, (m_i σ 7 b 2).toNatClampNeg)) (m_i σ22 7 b 4) q (m_i σ22 7 b 1) x1 (Int32.ofInt 0) σ26 ∧ ∃ σ30, fw_e w12 σ26 σ30 ∧ P12 σ26 (some (7, a)) q σ30 ∧ ∃ σ34, fw_e w12 σ30 σ34 ∧ P12 σ30 (some (7, b)) q σ34 ∧ ∃ σ38, fw_e w68 σ34 σ38 ∧ P68 σ34 (m_r σ26 7 a 12) σ38 ∧ ∃ σ42, fw_e w68 σ38 σ42 ∧ P68 σ38 (m_r σ26 7 b 12) σ42 ∧ w = q ∧ σ' = σ42) → OX N σ σ' ∧ 1 ≤ w.toInt ∧ w.toInt ≤ x4.toInt := by
    rintro q hq ⟨σ22, F22, p22, σ26, F26, p26, σ30, F30, p30, σ34, F34, p34, σ38, F38, p38, σ42, F42, p42, rfl, rfl⟩
    clear h
    have s22 : sO σ σ22 := sO_of F22 rfl
    have T22 : TS σ σ22 := ⟨_, _, _, _, _, _, hs, by omega, ga.2.2.2.1, ⟨by omega, by omega⟩, hx, ga.1, fun z => ma z.symm, ⟨hf, ga.2.2.2.2.2.2.2.2.2.2.2.2.2 (by omega)⟩, F22, p22⟩
    have X22 := s22.x ho (RT.ts T22)
    have s26 : sO σ22 σ26 := sO_of F26 rfl
    have gb' := X22.1 b hb
    have f6 : ∀ i, pv σ22 i 6 = pv σ i 6 := fun i => s22.kO.pv i
    have kb := s22.oi (o := b) (k := 1) (by omega)
    have T26 : TS σ22 σ26 := ⟨_, _, _, _, _, _, X22.hs hs, by omega, gb'.2.2.2.1, ⟨by omega, by rw [f6]; omega⟩, gb'.1, hx, by show oi σ22 b 1 ≠ x1.toInt; omega, ⟨gb'.2.2.2.2.2.2.2.2.2.2.2.2.2 (by have := (s22.e b).o; omega), X22.2.1.nf hf⟩, F26, p26⟩
    have X26 := X22.tr (s26.x X22.1 (RT.ts T26))
    obtain ⟨a6, a7, a9⟩ := ((s22.e a).tr (s26.e a)).o
    obtain ⟨b6, b7, b9⟩ := ((s22.e b).tr (s26.e b)).o
    obtain ⟨X30, n30⟩ := us_x X26.1 ha (by omega) ⟨by omega, by omega⟩ F30 p30
    obtain ⟨c6, c7, c9⟩ := (n30 b (fun z => hab z.symm)).o
    obtain ⟨X34, _⟩ := us_x X30.1 hb (by omega) ⟨by omega, by omega⟩ F34 p34
    obtain ⟨X38, _⟩ := ta_t X34.1 (tied_c X26.1 ha) F38 p38
    obtain ⟨X42, _⟩ := ta_t X38.1 (tied_c X26.1 hb) F42 p42
    exact ⟨(((X26.tr X30).tr X34).tr X38).tr X42, by omega, by omega⟩
  have q1 := jmin_c (m_i σ 7 a 7) (m_i σ 7 b 7)
  have q2 := jmin_c x4 (jmin (m_i σ 7 a 7) (m_i σ 7 b 7))
  have q1 : ((jmin (m_i σ 7 a 7) (m_i σ 7 b 7)).toInt = oi σ b 7 ∧ oi σ b 7 ≤ oi σ a 7) ∨ ((jmin (m_i σ 7 a 7) (m_i σ 7 b 7)).toInt = oi σ a 7 ∧ oi σ a 7 ≤ oi σ b 7) := q1
  first
    | exact body _ (by clear body; omega) h
    | (obtain ⟨q, eq, h⟩ := h; exact body q (by clear body; rw [eq]; omega) h)
theorem q72_s {N : Nat} {c1 c2 c3 c4 c5 : Int32} (hx : 0 ≤ c1.toInt ∧ c1.toInt < 5) (hne : c2.toInt ≠ c3.toInt) : ∀ n (u6 u7 : Int32) (τ : mS) (w : Int32) (σ' : mS), Q72_7 c1 c2 c3 c4 c5 n u6 u7 τ w σ' → HS τ → hN τ N → hO τ N → nfl τ c1 → 0 ≤ u6.toInt → u6.toInt ≤ c4.toInt → OX N τ σ' ∧ 0 ≤ w.toInt ∧ w.toInt ≤ c4.toInt := by
  intro n
  induction n with
  | zero => intro u6 u7 τ w σ' h; exact h.elim
  | succ n IH =>
    intro u6 u7 τ w σ' h hs hn ho hf h0 h1
    have h : B72_7 c1 c2 c3 c4 c5 (Q72_7 c1 c2 c3 c4 c5 n) u6 u7 τ w σ' := h
    have jj : J72_161 c4 u6 τ w σ' → OX N τ σ' ∧ 0 ≤ w.toInt ∧ w.toInt ≤ c4.toInt := by
      rintro ⟨rfl, rfl⟩
      have e := i_subq h0 h1
      exact ⟨OX.rf ho, by omega, by omega⟩
    rcases h with ⟨_, h⟩ | ⟨_, ⟨_, h⟩ | ⟨hl, v3, _, ⟨_, h⟩ | ⟨_, v8, p8, v12, p12, ⟨_, h⟩ | ⟨q17, e17, ⟨_, h⟩ | ⟨q21, e21, i24, e24, i26, e26, ⟨_, h⟩ | ⟨_, h⟩⟩⟩⟩⟩⟩
    · exact jj h
    · exact jj h
    · exact jj h
    · exact jj h
    · exact jj h
    · cases e24
      cases e26
      have b8 := p6 hn p8
      have b12 := p6 hn p12
      rcases b8 with ⟨z, _⟩ | ⟨t, t1, t2, t3, _⟩
      · rw [e17] at z; cases z
      rcases b12 with ⟨z, _⟩ | ⟨s, s1, s2, s3, _⟩
      · rw [e21] at z; cases z
      rw [e17] at t1
      rw [e21] at s1
      cases t1
      cases s1
      have hab : i24 ≠ i26 := fun z => by
        rw [z] at t3
        exact hne (t3.2.1.symm.trans s3.2.1)
      have two : ∀ (r1 r2 : mR) (σ1 σ2 : mS), (r1 = none ∨ ∃ t, r1 = some (7, t)) → (r2 = none ∨ ∃ t, r2 = some (7, t)) → fw_e w68 τ σ1 → P68 τ r1 σ1 → fw_e w68 σ1 σ2 → P68 σ1 r2 σ2 → Q72_7 c1 c2 c3 c4 c5 n u6 (u7 + Int32.ofInt 1) σ2 w σ' → OX N τ σ' ∧ 0 ≤ w.toInt ∧ w.toInt ≤ c4.toInt := by
        intro r1 r2 σ1 σ2 g1 g2 F1 p1 F2 p2 h
        obtain ⟨X1, _⟩ := ta_t ho g1 F1 p1
        obtain ⟨X2, _⟩ := ta_t X1.1 g2 F2 p2
        have X := X1.tr X2
        obtain ⟨r, r2⟩ := IH _ _ σ2 w σ' h (X.hs hs) (X.hn hn) X.1 (X.2.1.nf hf) h0 h1
        exact ⟨X.tr r, r2⟩
      have four : ((m_i τ 7 i24 1).toInt ≠ c1.toInt ∧ ∃ σ32, fw_e w68 τ σ32 ∧ P68 τ none σ32 ∧ (((m_i σ32 7 i26 1).toInt ≠ c1.toInt ∧ ∃ σ37, fw_e w68 σ32 σ37 ∧ P68 σ32 none σ37 ∧ Q72_7 c1 c2 c3 c4 c5 n u6 (u7 + Int32.ofInt 1) σ37 w σ') ∨ (¬ ((m_i σ32 7 i26 1).toInt ≠ c1.toInt) ∧ ∃ σ41, fw_e w68 σ32 σ41 ∧ P68 σ32 (some (7, i26)) σ41 ∧ Q72_7 c1 c2 c3 c4 c5 n u6 (u7 + Int32.ofInt 1) σ41 w σ'))) ∨ (¬ ((m_i τ 7 i24 1).toInt ≠ c1.toInt) ∧ ∃ σ45, fw_e w68 τ σ45 ∧ P68 τ (some (7, i24)) σ45 ∧ (((m_i σ45 7 i26 1).toInt ≠ c1.toInt ∧ ∃ σ50, fw_e w68 σ45 σ50 ∧ P68 σ45 none σ50 ∧ Q72_7 c1 c2 c3 c4 c5 n u6 (u7 + Int32.ofInt 1) σ50 w σ') ∨ (¬ ((m_i σ45 7 i26 1).toInt ≠ c1.toInt) ∧ ∃ σ54, fw_e w68 σ45 σ54 ∧ P68 σ45 (some (7, i26)) σ54 ∧ Q72_7 c1 c2 c3 c4 c5 n u6 (u7 + Int32.ofInt 1) σ54 w σ'))) → OX N τ σ' ∧ 0 ≤ w.toInt ∧ w.toInt ≤ c4.toInt := by
        rintro (⟨_, σ1, F1, p1, ⟨_, σ2, F2, p2, h⟩ | ⟨_, σ2, F2, p2, h⟩⟩ | ⟨_, σ1, F1, p1, ⟨_, σ2, F2, p2, h⟩ | ⟨_, σ2, F2, p2, h⟩⟩)
        · exact two _ _ _ _ (Or.inl rfl) (Or.inl rfl) F1 p1 F2 p2 h
        · exact two _ _ _ _ (Or.inl rfl) (Or.inr ⟨_, rfl⟩) F1 p1 F2 p2 h
        · exact two _ _ _ _ (Or.inr ⟨_, rfl⟩) (Or.inl rfl) F1 p1 F2 p2 h
        · exact two _ _ _ _ (Or.inr ⟨_, rfl⟩) (Or.inr ⟨_, rfl⟩) F1 p1 F2 p2 h
      rcases h with ⟨_, h⟩ | ⟨m1, ⟨m2, v58, σ59, F59, p59, h⟩ | ⟨_, h⟩⟩
      · exact four h
      · obtain ⟨X, w1, w2⟩ := sp_t hs ho t2 s2 hx hf m1 m2 t3.1 s3.1 hab (by omega) p59
        have e := i_subq (x := u6) (q := v58) (by omega) w2
        obtain ⟨r, r2⟩ := IH _ _ σ59 w σ' h (X.hs hs) (X.hn hn) X.1 (X.2.1.nf hf) (by omega) (by omega)
        exact ⟨X.tr r, r2⟩
      · exact four h
    · exact jj h
theorem sp72 {σ σ' : mS} {N : Nat} {x1 x2 x3 x4 x5 w : Int32} (hs : HS σ) (hn : hN σ N) (ho : hO σ N) (hx : 0 ≤ x1.toInt ∧ x1.toInt < 5) (hf : nfl σ x1) (hne : x2.toInt ≠ x3.toInt) (h4 : 0 ≤ x4.toInt) (h : P72 σ x1 x2 x3 x4 x5 w σ') : OX N σ σ' ∧ 0 ≤ w.toInt ∧ w.toInt ≤ x4.toInt := by
  obtain ⟨n, h⟩ := h
  exact q72_s hx hne n _ _ σ w σ' h hs hn ho hf h4 (Int.le_refl _)
/-! an opening -/
theorem op_t {σ σ' : mS} {N a b ip : Nat} {x2 x5 w : Int32} (hs : HS σ) (ho : hO σ N) (ha : a < N) (hb : b < N) (hip : ip < 3) (h2 : 1 ≤ x2.toInt ∧ x2.toInt ≤ 9999) (ia : oi σ a 2 = ip) (hm : oi σ a 1 ≠ oi σ b 1) (sa : oi σ a 9 = 1) (sb : oi σ b 9 = 1) (h5 : 0 < x5.toInt) (h : P75 σ (some (8, ip)) x2 (some (7, a)) (some (7, b)) x5 w σ') : OX N σ σ' ∧ 1 ≤ w.toInt ∧ w.toInt ≤ x5.toInt := by
  have ga := ho a ha
  have gb := ho b hb
  have hab : a ≠ b := fun z => hm (by rw [z])
  have la := ga.2.2.2.2.2.1.2 _ ia
  have a7 := ga.2.2.2.2.2.2.1
  have b7 := gb.2.2.2.2.2.2.1
  have pa := ga.2.2.2.2.2.2.2.2.2.1 sa
  have pb := gb.2.2.2.2.2.2.2.2.2.1 sb
  obtain ⟨i1, e1, i3, e3, h⟩ := h
  cases e1
  cases e3
  have body : ∀ q : Int32, (1 ≤ q.toInt ∧ q.toInt ≤ x5.toInt ∧ q.toInt ≤ oi σ a 6 ∧ q.toInt ≤ oi σ b 6) → (∃ σ6, fw_e w32 σ σ6 ∧ P32 σ (some (8, ip)) x2 q (m_i σ 7 a 1) (m_i σ 7 b 1) (Int32.ofInt 0) σ6 ∧ ∃ σ10, fw_e w68 σ6 σ10 ∧ P68 σ6 (m_r σ6 7 a 12) σ10 ∧ ∃ σ14, fw_e w68 σ10 σ14 ∧ P68 σ10 (m_r σ10 7 b 12) σ14 ∧ ∃ σ18, fw_e w13 σ14 σ18 ∧ P13 σ14 (some (7, a)) q σ18 ∧ ∃ σ22, fw_e w13 σ18 σ22 ∧ P13 σ18 (some (7, b)) q σ22 ∧ w = q ∧ σ' = σ22) → OX N σ σ' ∧ 1 ≤ w.toInt ∧ w.toInt ≤ x5.toInt := by
    rintro q hq ⟨σ1, F1, p1, σ2, F2, p2, σ3, F3, p3, σ4, F4, p4, σ5, F5, p5, rfl, rfl⟩
    clear h
    have s1 : sO σ σ1 := sO_of F1 rfl
    have T1 : TS σ σ1 := ⟨ip, _, _, _, _, _, hs, hip, h2, ⟨by omega, by omega⟩, ga.1, gb.1, hm, ⟨ga.2.2.2.2.2.2.2.2.2.2.2.2.2 (by omega), gb.2.2.2.2.2.2.2.2.2.2.2.2.2 (by omega)⟩, F1, p1⟩
    have X1 := s1.x ho (RT.ts T1)
    obtain ⟨X2, n2⟩ := ta_x X1.1 ha F2 p2
    obtain ⟨X3, n3⟩ := ta_x X2.1 hb F3 p3
    have k1 := (kO_e X1.2.1 a).1
    have k2 := (kO_e X1.2.1 b).1
    have k3 := (kO_e X2.2.1 a).1
    have k4 := (kO_e X2.2.1 b).1
    obtain ⟨u6, u7, u9⟩ := (((s1.e a).tr (n2 a (Or.inl rfl))).tr (n3 a (Or.inr (by omega)))).o
    obtain ⟨v6, v7, v9⟩ := (((s1.e b).tr (n2 b (Or.inr (by omega)))).tr (n3 b (Or.inl rfl))).o
    obtain ⟨X4, n4⟩ := ua_x X3.1 ha (by omega) ⟨by omega, by omega⟩ F4 p4
    obtain ⟨y6, y7, y9⟩ := (n4 b (fun z => hab z.symm)).o
    obtain ⟨X5, _⟩ := ua_x X4.1 hb (by omega) ⟨by omega, by omega⟩ F5 p5
    exact ⟨(((X1.tr X2).tr X3).tr X4).tr X5, by omega, by omega⟩
  have q1 := jmin_c (m_i σ 7 a 6) (m_i σ 7 b 6)
  have q2 := jmin_c x5 (jmin (m_i σ 7 a 6) (m_i σ 7 b 6))
  have q1 : ((jmin (m_i σ 7 a 6) (m_i σ 7 b 6)).toInt = oi σ b 6 ∧ oi σ b 6 ≤ oi σ a 6) ∨ ((jmin (m_i σ 7 a 6) (m_i σ 7 b 6)).toInt = oi σ a 6 ∧ oi σ a 6 ≤ oi σ b 6) := q1
  first
    | exact body _ (by clear body; omega) h
    | (obtain ⟨q, eq, h⟩ := h; exact body q (by clear body; rw [eq]; omega) h)
theorem op_j {τ σ' : mS} {N c1 : Nat} {c2 u4 w : Int32} (ho : hO τ N) (h : J74_183 (some (8, c1)) c2 u4 τ w σ') : OX N τ σ' ∧ w = u4 ∧ pv σ' c1 1 = 0 ∧ ∀ i, i ≠ c1 → pv σ' i 1 = pv τ i 1 := by
  have last : ∀ τ, hO τ N → J74_193 (some (8, c1)) u4 τ w σ' → OX N τ σ' ∧ w = u4 ∧ pv σ' c1 1 = 0 ∧ ∀ i, i ≠ c1 → pv σ' i 1 = pv τ i 1 := by
    rintro τ ho ⟨i1, e1, σ4, rfl, rfl, rfl⟩
    cases e1
    have s : sO τ (m_set τ 8 c1 1 (.inl (Int32.ofInt 0))) := sO_of (w := wl [(8, 1)]) (fw_set rfl) rfl
    refine ⟨s.x ho (RT.fs (FS_ph (Or.inl rfl))), rfl, ?_, fun i hi => ?_⟩
    · show (m_i (m_set τ 8 c1 1 (.inl (Int32.ofInt 0))) 8 c1 1).toInt = 0
      rw [mi_si, if_pos ⟨rfl, rfl, rfl⟩, i_0]
    · show (m_i (m_set τ 8 c1 1 (.inl (Int32.ofInt 0))) 8 i 1).toInt = _
      rw [mi_si, if_neg (fun z => hi z.2.1)]
  rcases h with ⟨_, h⟩ | ⟨_, i2, e2, σ5, e5, h⟩
  · exact last τ ho h
  · cases e2
    have s : sO τ σ5 := by rw [e5]; exact sO_of (w := wl [(8, 3)]) (fw_set rfl) rfl
    have X : OX N τ σ5 := s.x ho (by rw [e5]; exact RT.fs (FS_set rfl (Or.inr (by decide))))
    obtain ⟨r1, r2, r3, r4⟩ := last σ5 X.1 h
    refine ⟨X.tr r1, r2, r3, fun i hi => (r4 i hi).trans ?_⟩
    show (m_i σ5 8 i 1).toInt = _
    rw [e5, mi_si, if_neg (fun z => by cases z.2.2)]
theorem q74_s {N c1 : Nat} {c2 c3 : Int32} (hc : c1 < 3) (h2 : 0 < c3.toInt → 1 ≤ c2.toInt ∧ c2.toInt ≤ 9999) : ∀ n (u4 u5 : Int32) (τ : mS) (w : Int32) (σ' : mS), Q74_35 c1 c2 c3 n u4 u5 τ w σ' → HS τ → hN τ N → hO τ N → 0 ≤ u4.toInt → u4.toInt ≤ c3.toInt → OX N τ σ' ∧ (0 ≤ w.toInt ∧ w.toInt ≤ c3.toInt) ∧ pv σ' c1 1 = 0 := by
  intro n
  induction n with
  | zero => intro u4 u5 τ w σ' h; exact h.elim
  | succ n IH =>
    intro u4 u5 τ w σ' h hs hn ho h0 h1
    have h : B74_35 c1 c2 c3 (Q74_35 c1 c2 c3 n) u4 u5 τ w σ' := h
    have jj : J74_183 (some (8, c1)) c2 u4 τ w σ' → OX N τ σ' ∧ (0 ≤ w.toInt ∧ w.toInt ≤ c3.toInt) ∧ pv σ' c1 1 = 0 := fun h => by
      obtain ⟨g1, g2, g3, _⟩ := op_j ho h
      rw [g2]
      exact ⟨g1, ⟨h0, h1⟩, g3⟩
    have num : (m_i τ 8 c1 0).toInt = c1 := by
      have e := HS_n8 hs c1 hc
      have e : (.inl (m_i τ 8 c1 0) : mV) = .inl (Int32.ofNat c1) := e
      have e := Sum.inl.inj e
      rw [e]
      exact i_ofNat (by omega)
    rcases h with ⟨_, h⟩ | ⟨_, ⟨_, h⟩ | ⟨hl, v3, _, ⟨_, h⟩ | ⟨_, v8, p8, v12, p12, ⟨_, h⟩ | ⟨q17, e17, ⟨_, h⟩ | ⟨q21, e21, i24, e24, v26, _, ⟨_, h⟩ | ⟨_, i31, e31, v33, _, ⟨_, h⟩ | ⟨_, h⟩⟩⟩⟩⟩⟩⟩
    · exact jj h
    · exact jj h
    · exact jj h
    · exact jj h
    · exact jj h
    · exact jj h
    · cases e24
      cases e31
      have b8 := p6 hn p8
      have b12 := p6 hn p12
      rcases b8 with ⟨z, _⟩ | ⟨t, t1, t2, t3, _⟩
      · rw [e17] at z; cases z
      rcases b12 with ⟨z, _⟩ | ⟨s, s1, s2, s3, _⟩
      · rw [e21] at z; cases z
      rw [e17] at t1
      rw [e21] at s1
      cases t1
      cases s1
      have one : ∀ (t : Nat) (σ1 : mS), fw_e w68 τ σ1 → P68 τ (some (7, t)) σ1 → Q74_35 c1 c2 c3 n u4 (u5 + Int32.ofInt 1) σ1 w σ' → OX N τ σ' ∧ (0 ≤ w.toInt ∧ w.toInt ≤ c3.toInt) ∧ pv σ' c1 1 = 0 := by
        intro t σ1 F1 p1 h
        obtain ⟨X, _⟩ := ta_t ho (Or.inr ⟨t, rfl⟩) F1 p1
        obtain ⟨r, r2⟩ := IH _ _ σ1 w σ' h (X.hs hs) (X.hn hn) X.1 h0 h1
        exact ⟨X.tr r, r2⟩
      rcases h with ⟨hm, v39, σ40, F40, p40, h⟩ | ⟨_, ⟨_, σ45, F45, p45, h⟩ | ⟨_, σ49, F49, p49, h⟩⟩
      · have e := i_subq (x := c3) (q := u4) h0 h1
        obtain ⟨X, w1, w2⟩ := op_t hs ho t2 s2 hc (h2 (by omega)) (t3.2.1.trans num) hm t3.1 s3.1 (by omega) p40
        have cb := i_b c3
        have e2 : (u4 + v39).toInt = u4.toInt + v39.toInt := i_add (by omega) (by omega)
        obtain ⟨r, r2⟩ := IH _ _ σ40 w σ' h (X.hs hs) (X.hn hn) X.1 (by omega) (by omega)
        exact ⟨X.tr r, r2⟩
      · exact one _ _ F45 p45 h
      · exact one _ _ F49 p49 h
    · exact jj h
