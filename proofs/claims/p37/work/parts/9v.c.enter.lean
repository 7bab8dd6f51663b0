/-! a trade with an order, an order that comes, stops that wake -/
/-- what became of orders, by steps -/
def OX (N : Nat) (σ σ' : mS) : Prop := hO σ' N ∧ kO σ σ' ∧ mO N σ σ' ∧ rO σ σ' ∧ RT σ σ'
theorem OX.rf {N : Nat} {σ : mS} (h : hO σ N) : OX N σ σ := ⟨h, kO.rf, mO.rf, fun _ => Or.inl rfl, RT.rf⟩
theorem OX.tr {N : Nat} {σ σ1 σ2 : mS} (h : OX N σ σ1) (g : OX N σ1 σ2) : OX N σ σ2 := ⟨g.1, h.2.1.tr g.2.1, h.2.2.1.tr g.2.2.1, h.2.2.2.1.tr g.2.2.2.1, h.2.2.2.2.tr g.2.2.2.2⟩
theorem OX.hs {N : Nat} {σ σ' : mS} (h : OX N σ σ') (g : HS σ) : HS σ' := HS_RT g h.2.2.2.2
theorem OX.hn {N : Nat} {σ σ' : mS} (h : OX N σ σ') (g : hN σ N) : hN σ' N := h.2.1.hN g
theorem kO_e {σ σ' : mS} (h : kO σ σ') (o : Nat) : oi σ' o 1 = oi σ o 1 ∧ oi σ' o 2 = oi σ o 2 ∧ oi σ' o 3 = oi σ o 3 ∧ oi σ' o 4 = oi σ o 4 := ⟨h.oi o (by omega), h.oi o (by omega), h.oi o (by omega), h.oi o (by omega)⟩
theorem tw {σ σ' : mS} {N a b ip : Nat} {q : Int32} (hs : HS σ) (ho : hO σ N) (ha : a < N) (hb : b < N) (sa : oi σ a 9 ≠ 0) (sb : oi σ b 9 ≠ 0) (hm : oi σ a 1 ≠ oi σ b 1) (hip : ip < 3) (hq : 1 ≤ q.toInt ∧ q.toInt ≤ 1000 * pv σ ip 6) (h : P67 σ (some (7, a)) (some (7, b)) (some (8, ip)) q σ') : OX N σ σ' ∧ eO σ σ' a ∧ eO σ σ' b := by
  have ga := ho a ha
  have gb := ho b hb
  have fa := ga.2.2.2.2.2.2.2.2.2.2.2.2.2 sa
  have fb := gb.2.2.2.2.2.2.2.2.2.2.2.2.2 sb
  have core : ∀ (x4 x5 x6 : Int32) (σ9 σ13 : mS), (0 ≤ x4.toInt ∧ x4.toInt < 5) → (0 ≤ x5.toInt ∧ x5.toInt < 5) → x4.toInt ≠ x5.toInt → nfl σ x4 → nfl σ x5 → fw_e w32 σ σ9 → P32 σ (some (8, ip)) (m_i σ 7 b 4) q x4 x5 x6 σ9 → fw_e w68 σ9 σ13 → P68 σ9 (m_r σ9 7 a 12) σ13 → fw_e w68 σ13 σ' → P68 σ13 (m_r σ13 7 b 12) σ' → OX N σ σ' ∧ eO σ σ' a ∧ eO σ σ' b := by
    intro x4 x5 x6 σ9 σ13 b4 b5 ne f4 f5 F9 p9 F13 p13 F17 p17
    clear h
    have s9 : sO σ σ9 := sO_of F9 rfl
    have ho9 := hO_s ho s9
    obtain ⟨c1, c2, c3, c4, c5⟩ := ta_o ho9 ha (Or.inr rfl) F13 p13
    obtain ⟨d1, d2, d3, d4, d5⟩ := ta_o c1 hb (Or.inr rfl) F17 p17
    have T : TS σ σ9 := ⟨ip, _, q, x4, x5, x6, hs, hip, gb.2.2.2.1, hq, b4, b5, ne, ⟨f4, f5⟩, F9, p9⟩
    have k1 := (kO_e s9.kO a).1
    have k2 := (kO_e s9.kO b).1
    have k3 := (kO_e c2 a).1
    have k4 := (kO_e c2 b).1
    refine ⟨⟨d1, (s9.kO.tr c2).tr d2, (s9.mO.tr c3).tr d3, rO.tr (rO.tr (fun o => Or.inl (s9.2.1 o)) c5) d5, ((RT.ts T).tr (RT.fs (FS_of F13 (by decide)))).tr (RT.fs (FS_of F17 (by decide)))⟩, ?_, ?_⟩
    · exact ((s9.e a).tr (c4 a (Or.inl rfl))).tr (d4 a (Or.inr (by omega)))
    · exact ((s9.e b).tr (c4 b (Or.inr (by omega)))).tr (d4 b (Or.inl rfl))
  obtain ⟨i1, e1, h⟩ := h
  cases e1
  rcases h with ⟨_, i5, e5, σ9, F9, p9, σ13, F13, p13, σ17, F17, p17, rfl⟩ | ⟨_, i5, e5, σ9, F9, p9, σ13, F13, p13, σ17, F17, p17, rfl⟩
  · cases e5
    exact core _ _ _ _ _ gb.1 ga.1 (fun z => hm z.symm) fb fa F9 p9 F13 p13 F17 p17
  · cases e5
    exact core _ _ _ _ _ ga.1 gb.1 hm fa fb F9 p9 F13 p13 F17 p17
theorem OX_go {σ σ' : mS} {N a : Nat} (ho : hO σ N) (F : fw_e w106 σ σ') (h : P106 σ a σ') : OX N σ σ' ∧ oi σ' a 9 = 0 ∧ ∀ o, o ≠ a → eO σ σ' o := by
  obtain ⟨g1, g2, g3, g4, g5, g6⟩ := go_o ho F h
  exact ⟨⟨g1, g2, g3, g6, RT.fs (FS_of F (by decide))⟩, g4, g5⟩
theorem en_j {τ σ' : mS} {N a : Nat} {c2 : Int32} (ho : hO τ N) (ha : a < N) (h9 : oi τ a 9 = 3) (h : J66_186 (some (7, a)) c2 τ σ') : OX N τ σ' ∧ (oi σ' a 9 = 0 ∨ (oi σ' a 9 = 1 ∧ c2.toInt ≠ 0 ∧ oi σ' a 6 = oi τ a 6)) := by
  obtain ⟨i, e, h⟩ := h
  cases e
  have gone : J66_208 (some (7, a)) τ σ' → OX N τ σ' ∧ (oi σ' a 9 = 0 ∨ (oi σ' a 9 = 1 ∧ c2.toInt ≠ 0 ∧ oi σ' a 6 = oi τ a 6)) := by
    rintro ⟨i, e, σ4, F, p, rfl⟩
    cases e
    obtain ⟨g1, g2, _⟩ := OX_go ho F p
    exact ⟨g1, Or.inl g2⟩
  rcases h with ⟨_, h⟩ | ⟨h1, ⟨_, h⟩ | ⟨h2, σ6, F, p, rfl⟩⟩
  · exact gone h
  · exact gone h
  · have h1 : ¬ oi τ a 6 ≤ 0 := h1
    obtain ⟨g1, g2, g3, g4, g5, g6⟩ := st_o ho ha (by omega) (Or.inr h9) F p
    exact ⟨⟨g1, g2, g3, g6, RT.fs (FS_of F (by decide))⟩, Or.inr ⟨g4.1, h2, g4.2⟩⟩
/-- an order's left goes down by what was traded -/
theorem OX_left {τ : mS} {N a : Nat} {q : Int32} (ho : hO τ N) (ha : a < N) (h9 : oi τ a 9 = 3) (hq : 0 ≤ q.toInt ∧ q.toInt ≤ oi τ a 6) : OX N τ (m_set τ 7 a 6 (.inl (m_i τ 7 a 6 - q))) ∧ (∀ o, o ≠ a → eO τ (m_set τ 7 a 6 (.inl (m_i τ 7 a 6 - q))) o) ∧ oi (m_set τ 7 a 6 (.inl (m_i τ 7 a 6 - q))) a 9 = 3 := by
  have c6 : ∀ o k, m_i (m_set τ 7 a 6 (.inl (m_i τ 7 a 6 - q))) 7 o k = if o = a ∧ k = 6 then m_i τ 7 a 6 - q else m_i τ 7 o k := fun o k => by
    rw [mi_si]; simp only [true_and]
  have ne : ∀ o, o ≠ a → eO τ (m_set τ 7 a 6 (.inl (m_i τ 7 a 6 - q))) o := fun o ho => ⟨by rw [c6, if_neg (fun z => ho z.1)], by rw [c6, if_neg (fun z => ho z.1)], by rw [c6, if_neg (fun z => ho z.1)]⟩
  have z6 : oi (m_set τ 7 a 6 (.inl (m_i τ 7 a 6 - q))) a 6 = oi τ a 6 - q.toInt := by
    show (m_i (m_set τ 7 a 6 (.inl (m_i τ 7 a 6 - q))) 7 a 6).toInt = _
    rw [c6, if_pos ⟨rfl, rfl⟩]; exact i_subq hq.1 hq.2
  have z7 : oi (m_set τ 7 a 6 (.inl (m_i τ 7 a 6 - q))) a 7 = oi τ a 7 := by
    show (m_i (m_set τ 7 a 6 (.inl (m_i τ 7 a 6 - q))) 7 a 7).toInt = _
    rw [c6, if_neg (fun z => by cases z.2)]
  have z9 : oi (m_set τ 7 a 6 (.inl (m_i τ 7 a 6 - q))) a 9 = oi τ a 9 := by
    show (m_i (m_set τ 7 a 6 (.inl (m_i τ 7 a 6 - q))) 7 a 9).toInt = _
    rw [c6, if_neg (fun z => by cases z.2)]
  have g7 := (ho a ha).2.2.2.2.2.2.2.2.2.2.2.1 (by omega)
  have K : kO τ (m_set τ 7 a 6 (.inl (m_i τ 7 a 6 - q))) := kO_of (w := wl [(7, 6)]) (fw_set rfl) rfl
  refine ⟨⟨hO_1 ho K (fun o => Or.inl rfl) ne (fun _ => by omega), K, mO_1 ne (fun _ => by omega), fun o => Or.inl rfl, RT.fs (FS_set rfl (Or.inl (by decide)))⟩, ne, by omega⟩
theorem en {N a ip : Nat} {c2 : Int32} (ha : a < N) (hip : ip < 3) : ∀ n (u4 : Int32) (τ σ' : mS), Q66_15 a c2 (some (8, ip)) n u4 τ σ' → HS τ → hN τ N → hO τ N → oi τ a 9 = 3 → oi τ a 2 = ip → OX N τ σ' ∧ (oi σ' a 9 = 0 ∨ (oi σ' a 9 = 1 ∧ c2.toInt ≠ 0)) := by
  intro n
  induction n with
  | zero => intro u4 τ σ' h; exact h.elim
  | succ n IH =>
    intro u4 τ σ' h hs hn ho h9 h2
    have h : B66_15 a c2 (some (8, ip)) (Q66_15 a c2 (some (8, ip)) n) u4 τ σ' := h
    have jj : J66_186 (some (7, a)) c2 τ σ' → OX N τ σ' ∧ (oi σ' a 9 = 0 ∨ (oi σ' a 9 = 1 ∧ c2.toInt ≠ 0)) := fun h => by
      obtain ⟨g1, g2⟩ := en_j ho ha h9 h
      exact ⟨g1, g2.imp id (fun z => ⟨z.1, z.2.1⟩)⟩
    rcases h with ⟨_, h⟩ | ⟨_, ⟨_, h⟩ | ⟨hl, ⟨hc, _⟩ | ⟨q4, hc, i7, e7, h⟩⟩⟩
    · exact jj h
    · exact jj h
    · cases hc
    cases hc
    cases e7
    have hl : ¬ oi τ a 6 ≤ 0 := hl
    rcases h with ⟨_, h⟩ | ⟨hph, v10, _, ⟨_, v15, p15, h⟩ | ⟨_, h⟩⟩
    · exact jj h
    · have hb := p6 hn p15
      rcases h with ⟨_, h⟩ | ⟨q20, e20, i23, e23, v25, p25, h⟩
      · exact jj h
      · cases e23
        rcases hb with ⟨b1, _⟩ | ⟨t, b1, b2, b3, _⟩
        · rw [e20] at b1; cases b1
        rw [e20] at b1
        cases b1
        have gt := ho i23 b2
        have ga := ho a ha
        obtain ⟨s1, s2, s3⟩ := b3
        have hne : i23 ≠ a := fun z => by rw [z] at s1; omega
        rcases h with ⟨_, ⟨hm, v31, _, h⟩ | ⟨hm, σ47, F47, p47, h⟩⟩ | ⟨_, h⟩
        · have hm : oi τ i23 1 ≠ oi τ a 1 := hm
          rcases h with ⟨_, q, eq, σ37, F37, p37, σ41, e41, σ44, F44, p44, h⟩ | ⟨_, σ48, e48, h⟩
          · have s1' := gt.2.2.2.2.2.2.2.2.2.1 s1
            have hq := jmin_c (m_i τ 7 a 6) (m_i τ 7 i23 7)
            rw [← eq] at hq
            have hq : (q.toInt = oi τ i23 7 ∧ oi τ i23 7 ≤ oi τ a 6) ∨ (q.toInt = oi τ a 6 ∧ oi τ a 6 ≤ oi τ i23 7) := hq
            have hle := gt.2.2.2.2.2.1.2 ip (s2.trans h2)
            have h67 := gt.2.2.2.2.2.2.1
            obtain ⟨X1, xa, xb⟩ := tw hs ho ha b2 (by omega) (by omega) (fun z => hm z.symm) hip ⟨by omega, by omega⟩ p37
            obtain ⟨a6, a7, a9⟩ := xa.o
            obtain ⟨b6, b7, b9⟩ := xb.o
            obtain ⟨X2, y1, y2⟩ := OX_left (q := q) X1.1 ha (by omega) ⟨by omega, by omega⟩
            rw [← e41] at X2 y1 y2
            obtain ⟨z6, z7, z9⟩ := (y1 i23 hne).o
            obtain ⟨u1, u2, u3, u4', u5⟩ := us_o X2.1 b2 (by omega) ⟨by omega, by omega⟩ F44 p44
            have X3 : OX N σ41 σ44 := ⟨u1, u2, u3, u5, RT.fs (FS_of F44 (by decide))⟩
            have X := (X1.tr X2).tr X3
            obtain ⟨w6, w7, w9⟩ := (u4' a (fun z => hne z.symm)).o
            have k2 := (kO_e X.2.1 a).2.1
            obtain ⟨r1, r2⟩ := IH _ σ44 σ' h (X.hs hs) (X.hn hn) X.1 (by omega) (by omega)
            exact ⟨X.tr r1, r2⟩
          · have sx : sO τ σ48 := by rw [e48]; exact sO_of (w := wl [(8, 1)]) (fw_set rfl) rfl
            have X : OX N τ σ48 := ⟨hO_s ho sx, sx.kO, sx.mO, fun o => Or.inl (sx.2.1 o), by rw [e48]; exact RT.fs (FS_ph (Or.inr rfl))⟩
            obtain ⟨w6, w7, w9⟩ := (sx.e a).o
            have k2 := (kO_e sx.kO a).2.1
            obtain ⟨r1, r2⟩ := IH _ σ48 σ' h (X.hs hs) (X.hn hn) X.1 (by omega) (by omega)
            exact ⟨X.tr r1, r2⟩
        · obtain ⟨X, _, g2⟩ := OX_go ho F47 p47
          obtain ⟨w6, w7, w9⟩ := (g2 a (fun z => hne z.symm)).o
          have k2 := (kO_e X.2.1 a).2.1
          obtain ⟨r1, r2⟩ := IH _ σ47 σ' h (X.hs hs) (X.hn hn) X.1 (by omega) (by omega)
          exact ⟨X.tr r1, r2⟩
        · exact jj h
    · exact jj h
theorem en66 {σ σ' : mS} {N a : Nat} {c2 : Int32} (ha : a < N) (hs : HS σ) (hn : hN σ N) (ho : hO σ N) (h9 : oi σ a 9 = 3) (h : P66 σ (some (7, a)) c2 σ') : OX N σ σ' ∧ (oi σ' a 9 = 0 ∨ (oi σ' a 9 = 1 ∧ c2.toInt ≠ 0)) := by
  obtain ⟨i, e, v, hv, n, h⟩ := h
  cases e
  have g := (ho a ha).2.1
  rw [p24 hv g] at h
  have e := i_nat (a := m_i σ 7 a 2) g.1
  exact en ha (ip := (m_i σ 7 a 2).toNatClampNeg) (by have : oi σ a 2 < 3 := g.2; show (m_i σ 7 a 2).toNatClampNeg < 3; have : (m_i σ 7 a 2).toInt < 3 := g.2; omega) n _ σ σ' h hs hn ho h9 e.symm
/-! stops that wake -/
theorem p112 {σ : mS} {a : Nat} {w : Int32} (h : P112 σ a w) (hw : w.toInt ≠ 0) : pv σ a 7 ≠ 0 := by
  rcases h with ⟨_, h⟩ | ⟨h1, _⟩
  · rw [h] at hw; exact absurd i_0 hw
  · exact h1
theorem q16_s {σ : mS} {N : Nat} (hn : hN σ N) (ho : hO σ N) : ∀ n (u : Int32) w, Q16_2 σ n u w → 0 ≤ u.toInt → w = none ∨ ∃ t, w = some (7, t) ∧ t < N ∧ oi σ t 9 = 2 ∧ ∃ i, i < 3 ∧ pv σ i 7 ≠ 0 := by
  intro n
  induction n with
  | zero => intro u w h; exact h.elim
  | succ n IH =>
    intro u w h p0
    have h : B16_2 σ (Q16_2 σ n) u w := h
    have pn := i_nat p0
    obtain ⟨n1, n2⟩ := hn
    rcases h with ⟨_, h⟩ | ⟨h1, ⟨_, h⟩ | ⟨h2, h3, v4, p4, h⟩⟩
    · exact Or.inl h
    · exact Or.inl h
    · have e1 : (u + Int32.ofInt 1).toInt = u.toInt + 1 := i_inc p0 (by omega)
      have hN' : u.toNatClampNeg < N := by omega
      have g := (ho _ hN').2.1
      have ih : ∀ w, Q16_2 σ n (u + Int32.ofInt 1) w → w = none ∨ ∃ t, w = some (7, t) ∧ t < N ∧ oi σ t 9 = 2 ∧ ∃ i, i < 3 ∧ pv σ i 7 ≠ 0 := fun w h => IH _ w h (by omega)
      rcases h with ⟨_, h⟩ | ⟨h4, ⟨_, h⟩ | ⟨q10, e10, i13, e13, v15, p15, ⟨_, h⟩ | ⟨h5, v20, _, ⟨_, h⟩ | ⟨_, h⟩⟩⟩⟩
      · exact ih w h
      · exact ih w h
      · exact ih w h
      · exact ih w h
      · refine Or.inr ⟨_, h, hN', Decidable.of_not_not h4, i13, ?_, p112 p15 h5⟩
        rw [p24 p4 g] at e10
        cases e10
        cases e13
        have e := i_nat (a := m_i σ 7 u.toNatClampNeg 2) g.1
        have g2 : (m_i σ 7 u.toNatClampNeg 2).toInt < 3 := g.2
        omega
theorem q69_s : ∀ n (u : Int32) (τ σ' : mS), Q69_69 (Int32.ofInt 3) n u τ σ' → 0 ≤ u.toInt → (∀ i : Nat, (i : Int) < u.toInt → pv τ i 7 = 0) → RT τ σ' ∧ fw_e (wl [(8, 7)]) τ σ' ∧ ∀ i, i < 3 → pv σ' i 7 = 0 := by
  intro n
  induction n with
  | zero => intro u τ σ' h; exact h.elim
  | succ n IH =>
    intro u τ σ' h p0 hz
    have h : B69_69 (Int32.ofInt 3) (Q69_69 (Int32.ofInt 3) n) u τ σ' := h
    have pn := i_nat p0
    have e3 := i_3
    rcases h with ⟨h1, rfl⟩ | ⟨h1, h2, σ4, e4, h⟩
    · exact ⟨RT.rf, fw_e.rf', fun i hi => hz i (by omega)⟩
    · have e1 : (u + Int32.ofInt 1).toInt = u.toInt + 1 := i_inc p0 (by omega)
      have c : ∀ i, m_i σ4 8 i 7 = if i = u.toNatClampNeg then Int32.ofInt 0 else m_i τ 8 i 7 := fun i => by
        rw [e4, mi_si]; simp only [true_and, and_true]
      obtain ⟨r1, r2, r3⟩ := IH _ σ4 σ' h (by omega) (fun i hi => by
        show (m_i σ4 8 i 7).toInt = 0
        rw [c]
        by_cases e : i = u.toNatClampNeg
        · rw [if_pos e]; exact i_0
        · rw [if_neg e]; exact hz i (by omega))
      have F4 : fw_e (wl [(8, 7)]) τ σ4 := by rw [e4]; exact fw_set rfl
      exact ⟨(RT.fs (FS_of F4 (by decide))).tr r1, F4.tr r2, r3⟩
theorem j69_s {τ σ' : mS} {N : Nat} (ho : hO τ N) (h : J69_56 τ σ') : OX N τ σ' ∧ fw_e (wl [(8, 7)]) τ σ' ∧ ∀ i, i < 3 → pv σ' i 7 = 0 := by
  obtain ⟨n, h⟩ := h
  obtain ⟨r1, r2, r3⟩ := q69_s n _ τ σ' h (by rw [i_0]; omega) (fun i hi => by rw [i_0] at hi; omega)
  have s : sO τ σ' := sO_of r2 rfl
  exact ⟨⟨hO_s ho s, s.kO, s.mO, fun o => Or.inl (s.2.1 o), r1⟩, r2, r3⟩
theorem wk_q {N : Nat} : ∀ n (u : Int32) (τ σ' : mS), Q69_2 n u τ σ' → HS τ → hN τ N → hO τ N → OX N τ σ' ∧ (∀ i, i < 3 → pv σ' i 7 = 0) ∧ ((∀ i, i < 3 → pv τ i 7 = 0) → fw_e (wl [(8, 7)]) τ σ') := by
  intro n
  induction n with
  | zero => intro u τ σ' h; exact h.elim
  | succ n IH =>
    intro u τ σ' h hs hn ho
    have h : B69_2 (Q69_2 n) u τ σ' := h
    have jj : J69_56 τ σ' → OX N τ σ' ∧ (∀ i, i < 3 → pv σ' i 7 = 0) ∧ ((∀ i, i < 3 → pv τ i 7 = 0) → fw_e (wl [(8, 7)]) τ σ') := fun h => by
      obtain ⟨g1, g2, g3⟩ := j69_s ho h
      exact ⟨g1, g3, fun _ => g2⟩
    rcases h with ⟨_, h⟩ | ⟨_, v2, p2, ⟨_, h⟩ | ⟨q7, e7, i10, e10, σ13, e13, σ16, e16, σ19, F19, p19, h⟩⟩
    · exact jj h
    · exact jj h
    · cases e10
      obtain ⟨m, p2⟩ := p2
      rcases q16_s hn ho m _ _ p2 (by rw [i_0]; omega) with b | ⟨t, b1, b2, b3, i, b4, b5⟩
      · rw [e7] at b; cases b
      rw [e7] at b1
      cases b1
      have c : ∀ o k, k ≠ 10 → m_i σ16 7 o k = if o = i10 ∧ k = 9 then Int32.ofInt 3 else m_i τ 7 o k := fun o k hk => by
        rw [e16, e13]; simp only [mi_si, true_and]; grind
      have K : kO τ σ16 := by rw [e16, e13]; exact (kO_of (w := wl [(7, 9)]) (fw_set rfl) rfl).tr (kO_of (w := wl [(7, 10)]) (fw_set rfl) rfl)
      have R : rO τ σ16 := fun o => Or.inl (by rw [e16, e13]; rfl)
      have ne : ∀ o, o ≠ i10 → eO τ σ16 o := fun o ho => ⟨by rw [c _ _ (by omega), if_neg (fun z => ho z.1)], by rw [c _ _ (by omega), if_neg (fun z => ho z.1)], by rw [c _ _ (by omega), if_neg (fun z => ho z.1)]⟩
      have z9 : oi σ16 i10 9 = 3 := by show (m_i σ16 7 i10 9).toInt = 3; rw [c _ _ (by omega), if_pos ⟨rfl, rfl⟩, i_3]
      have z6 : oi σ16 i10 6 = oi τ i10 6 := by show (m_i σ16 7 i10 6).toInt = _; rw [c _ _ (by omega), if_neg (fun z => by cases z.2)]
      have z7 : oi σ16 i10 7 = oi τ i10 7 := by show (m_i σ16 7 i10 7).toInt = _; rw [c _ _ (by omega), if_neg (fun z => by cases z.2)]
      have g := ho i10 b2
      have g6 := g.2.2.2.2.2.1.1
      have g7 := g.2.2.2.2.2.2.2.2.2.2.2.1 (by omega)
      have ho16 : hO σ16 N := hO_1 ho K R ne (fun _ => by omega)
      have RT16 : RT τ σ16 := by rw [e16, e13]; exact (RT.fs (FS_set rfl (Or.inl (by decide)))).tr (RT.fs (FS_set rfl (Or.inl (by decide))))
      obtain ⟨X, x9⟩ := en66 b2 (HS_RT hs RT16) (K.hN hn) ho16 z9 p19
      have M : mO N τ σ19 := fun o hoN => by
        have m := X.2.2.1 o hoN
        by_cases e : o = i10
        · subst e; omega
        · obtain ⟨w6, w7, w9⟩ := (ne o e).o
          omega
      have Y : OX N τ σ19 := ⟨X.1, K.tr X.2.1, M, R.tr X.2.2.2.1, RT16.tr X.2.2.2.2⟩
      obtain ⟨r1, r2, _⟩ := IH _ σ19 σ' h (Y.hs hs) (Y.hn hn) Y.1
      exact ⟨Y.tr r1, r2, fun z => absurd (z i b4) b5⟩
theorem wk {σ σ' : mS} {N : Nat} (hs : HS σ) (hn : hN σ N) (ho : hO σ N) (h : P69 σ σ') : OX N σ σ' ∧ (∀ i, i < 3 → pv σ' i 7 = 0) ∧ ((∀ i, i < 3 → pv σ i 7 = 0) → fw_e (wl [(8, 7)]) σ σ') := by
  obtain ⟨n, h⟩ := h
  exact wk_q n _ σ σ' h hs hn ho
