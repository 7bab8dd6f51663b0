/-! sums of what stands; an order and a stop that come, a tie, an order that is cancelled -/
noncomputable def sg (G : Nat → Prop) (l : Nat → Int) : Nat → Int
  | 0 => 0
  | k + 1 => sg G l k + @ite _ (G k) (Classical.propDecidable _) (l k) 0
def gd (σ : mS) (x1 x2 x3 x4 : Int) (o : Nat) : Prop := stIn σ x1 x2 o ∧ ((oi σ o 3 = 0 → x3 ≤ oi σ o 4) ∧ (oi σ o 3 ≠ 0 → oi σ o 4 ≤ x3)) ∧ oi σ o 1 ≠ x4
theorem sg_b {G : Nat → Prop} {l : Nat → Int} {N : Nat} (h : ∀ o, o < N → 0 ≤ l o ∧ l o ≤ 125000) : ∀ k, k ≤ N → 0 ≤ sg G l k ∧ sg G l k ≤ 125000 * k := by
  intro k
  induction k with
  | zero => intro _; exact ⟨Int.le_refl _, Int.le_refl _⟩
  | succ k IH =>
    intro hk
    have a := IH (by omega)
    have b := h k (by omega)
    show 0 ≤ sg G l k + @ite _ (G k) (Classical.propDecidable _) (l k) 0 ∧ sg G l k + @ite _ (G k) (Classical.propDecidable _) (l k) 0 ≤ _
    split <;> omega
theorem sg_0 {G : Nat → Prop} {l : Nat → Int} {N : Nat} (h : ∀ o, o < N → 0 ≤ l o ∧ l o ≤ 125000) (hz : sg G l N ≤ 0) : ∀ o, o < N → G o → l o = 0 := by
  have key : ∀ k, k ≤ N → sg G l k ≤ 0 → ∀ o, o < k → G o → l o = 0 := by
    intro k
    induction k with
    | zero => intro _ _ o ho; omega
    | succ k IH =>
      intro hk hz o ho hg
      have a := sg_b (G := G) h k (by omega)
      have b := h k (by omega)
      have hz : sg G l k + @ite _ (G k) (Classical.propDecidable _) (l k) 0 ≤ 0 := hz
      by_cases c : G k
      · rw [if_pos c] at hz
        by_cases e : o = k
        · rw [e]; omega
        · exact IH (by omega) (by omega) o (by omega) hg
      · rw [if_neg c] at hz
        by_cases e : o = k
        · rw [e] at hg; exact absurd hg c
        · exact IH (by omega) (by omega) o (by omega) hg
  exact key N (Nat.le_refl _) hz
theorem sg_n {G : Nat → Prop} {l : Nat → Int} : ∀ k, (∀ o, o < k → ¬ G o) → sg G l k = 0 := by
  intro k
  induction k with
  | zero => intro _; rfl
  | succ k IH =>
    intro h
    show sg G l k + @ite _ (G k) (Classical.propDecidable _) (l k) 0 = 0
    rw [if_neg (h k (by omega)), IH (fun o ho => h o (by omega))]
    rfl
/-- what is left of orders is small -/
def lB (σ : mS) (N : Nat) : Prop := ∀ o, o < N → 0 ≤ oi σ o 6 ∧ oi σ o 6 ≤ 125000
theorem lB_of {σ : mS} {N : Nat} (ho : hO σ N) (hp : pO σ) : lB σ N := by
  intro o hoN
  have g := ho o hoN
  have n := i_nat (a := m_i σ 7 o 2) g.2.1.1
  have g2 : (m_i σ 7 o 2).toInt < 3 := g.2.1.2
  have a := g.2.2.2.2.2.1.2 _ n.symm
  have b := (hp (m_i σ 7 o 2).toNatClampNeg (by omega)).2.2.2.2.2.2.2.2
  have c := g.2.2.2.2.2.1.1
  omega
theorem q8_s {σ : mS} {N : Nat} {c1 c2 c3 c4 : Int32} (hn : hN σ N) (hl : lB σ N) : ∀ n (u5 u6 w : Int32), Q8_6 σ c1 c2 c3 c4 n u5 u6 w → 0 ≤ u6.toInt → u6.toInt ≤ N → u5.toInt = sg (gd σ c1.toInt c2.toInt c3.toInt c4.toInt) (fun o => oi σ o 6) u6.toNatClampNeg → w.toInt = sg (gd σ c1.toInt c2.toInt c3.toInt c4.toInt) (fun o => oi σ o 6) N := by
  intro n
  induction n with
  | zero => intro u5 u6 w h; exact h.elim
  | succ n IH =>
    intro u5 u6 w h p0 p1 hu
    have pn := i_nat p0
    have h : B8_6 σ c1 c2 c3 c4 (Q8_6 σ c1 c2 c3 c4 n) u5 u6 w := h
    obtain ⟨n1, n2⟩ := hn
    have stop : u6.toNatClampNeg = N → w = u5 → w.toInt = sg (gd σ c1.toInt c2.toInt c3.toInt c4.toInt) (fun o => oi σ o 6) N := fun e e2 => by rw [e2, hu, e]
    rcases h with ⟨h1, h⟩ | ⟨h1, ⟨h2, h⟩ | ⟨h2, h3, v, hv, h⟩⟩
    · exact stop (by omega) h
    · exact stop (by omega) h
    · have e1 : (u6 + Int32.ofInt 1).toInt = u6.toInt + 1 := i_inc p0 (by omega)
      have en := i_nat (a := u6 + Int32.ofInt 1) (by omega)
      have ek : (u6 + Int32.ofInt 1).toNatClampNeg = u6.toNatClampNeg + 1 := by omega
      have no : ¬ gd σ c1.toInt c2.toInt c3.toInt c4.toInt u6.toNatClampNeg → Q8_6 σ c1 c2 c3 c4 n u5 (u6 + Int32.ofInt 1) w → w.toInt = sg (gd σ c1.toInt c2.toInt c3.toInt c4.toInt) (fun o => oi σ o 6) N := by
        intro hg h
        refine IH _ _ w h (by omega) (by omega) ?_
        rw [ek]
        show _ = sg _ _ _ + @ite _ _ (Classical.propDecidable _) _ 0
        rw [if_neg hg, hu]
        omega
      rcases p100 hv with ⟨v0, ns⟩ | ⟨v1, is⟩
      · rcases h with ⟨_, h⟩ | ⟨h4, _⟩
        · exact no (fun z => ns z.1) h
        · exact absurd v0 h4
      · rcases h with ⟨h4, _⟩ | ⟨_, v9, p9, h⟩
        · exact absurd h4 v1
        · rcases p103 p9 with ⟨a1, a2⟩ | ⟨a1, a2⟩
          · rcases h with ⟨_, h⟩ | ⟨h5, _⟩
            · exact no (fun z => a2 z.2.1) h
            · exact absurd a1 h5
          · rcases h with ⟨h5, _⟩ | ⟨_, ⟨h6, h⟩ | ⟨h6, n15, e15, h⟩⟩
            · exact absurd h5 a1
            · exact no (fun z => z.2.2 h6) h
            · have hlu := hl u6.toNatClampNeg (by omega)
              have hs := sg_b (G := gd σ c1.toInt c2.toInt c3.toInt c4.toInt) (l := fun o => oi σ o 6) hl u6.toNatClampNeg (by omega)
              have hlu' : 0 ≤ (m_i σ 7 u6.toNatClampNeg 6).toInt ∧ (m_i σ 7 u6.toNatClampNeg 6).toInt ≤ 125000 := hlu
              have ea : n15.toInt = u5.toInt + (m_i σ 7 u6.toNatClampNeg 6).toInt := by rw [e15]; exact i_add (by omega) (by omega)
              refine IH _ _ w h (by omega) (by omega) ?_
              rw [ek]
              show _ = sg _ _ _ + @ite _ _ (Classical.propDecidable _) _ 0
              rw [if_pos ⟨is, a2, h6⟩, ea, hu]
theorem p8 {σ : mS} {N : Nat} {x1 x2 x3 x4 w : Int32} (hn : hN σ N) (hl : lB σ N) (h : P8 σ x1 x2 x3 x4 w) : w.toInt = sg (gd σ x1.toInt x2.toInt x3.toInt x4.toInt) (fun o => oi σ o 6) N := by
  obtain ⟨n, h⟩ := h
  have z : (Int32.ofInt 0).toNatClampNeg = 0 := by decide
  exact q8_s hn hl n _ _ w h (by rw [i_0]; omega) (by rw [i_0]; omega) (by rw [z, i_0]; rfl)
/-- an order that nothing of others is good for: it takes nothing -/
theorem en_r {N a ip : Nat} {c2 : Int32} (ha : a < N) (hc2 : c2.toInt ≠ 0) : ∀ n (u4 : Int32) (τ σ' : mS), Q66_15 a c2 (some (8, ip)) n u4 τ σ' → HS τ → hN τ N → hO τ N → oi τ a 9 = 3 → 0 < oi τ a 6 → (∀ o, o < N → stIn τ (oi τ a 2) (1 - oi τ a 3) o → ((oi τ o 3 = 0 → oi τ a 4 ≤ oi τ o 4) ∧ (oi τ o 3 ≠ 0 → oi τ o 4 ≤ oi τ a 4)) → oi τ o 1 = oi τ a 1) → oi σ' a 9 = 1 ∧ oi σ' a 6 = oi τ a 6 ∧ ∀ i, m_i σ' 8 i 7 = m_i τ 8 i 7 := by
  intro n
  induction n with
  | zero => intro u4 τ σ' h; exact h.elim
  | succ n IH =>
    intro u4 τ σ' h hs hn ho h9 h6 hg
    have h : B66_15 a c2 (some (8, ip)) (Q66_15 a c2 (some (8, ip)) n) u4 τ σ' := h
    have jj : J66_186 (some (7, a)) c2 τ σ' → oi σ' a 9 = 1 ∧ oi σ' a 6 = oi τ a 6 ∧ ∀ i, m_i σ' 8 i 7 = m_i τ 8 i 7 := fun h => by
      obtain ⟨i, e, h⟩ := h
      cases e
      rcases h with ⟨z, _⟩ | ⟨_, ⟨z, _⟩ | ⟨_, σ6, F, p, rfl⟩⟩
      · have z : oi τ a 6 ≤ 0 := z
        omega
      · exact absurd z hc2
      · obtain ⟨_, _, _, g4, _⟩ := st_o ho ha h6 (Or.inr h9) F p
        exact ⟨g4.1, g4.2, fun i => (F.2 8 i 7 rfl).1⟩
    rcases h with ⟨_, h⟩ | ⟨_, ⟨_, h⟩ | ⟨hl, ⟨hc, _⟩ | ⟨q4, hc, i7, e7, h⟩⟩⟩
    · exact jj h
    · exact jj h
    · cases hc
    cases hc
    cases e7
    rcases h with ⟨_, h⟩ | ⟨hph, v10, _, ⟨_, v15, p15, h⟩ | ⟨_, h⟩⟩
    · exact jj h
    · have hb := p6 hn p15
      rcases h with ⟨_, h⟩ | ⟨q20, e20, i23, e23, v25, p25, h⟩
      · exact jj h
      · cases e23
        rcases hb with ⟨b1, _⟩ | ⟨t, b1, b2, b3, _⟩
        · rw [e20] at b1; cases b1
        rw [e20] at b1
        cases b1
        have ga := ho a ha
        have e13 : (Int32.ofInt 1 - m_i τ 7 a 3).toInt = 1 - oi τ a 3 := by
          have g3 := ga.2.2.1
          have g3 : 0 ≤ (m_i τ 7 a 3).toInt ∧ (m_i τ 7 a 3).toInt ≤ 1 := g3
          rw [i_sub (by rw [i_1]; omega) (by rw [i_1]; omega), i_1]
        rw [e13] at b3
        have hne : i23 ≠ a := fun z => by rw [z] at b3; have := b3.1; omega
        rcases p103 p25 with ⟨a1, a2⟩ | ⟨a1, a2⟩
        · rcases h with ⟨z, _⟩ | ⟨_, h⟩
          · exact absurd a1 z
          · exact jj h
        · have hm := hg i23 b2 b3 a2
          rcases h with ⟨_, ⟨z, _⟩ | ⟨_, σ47, F47, p47, h⟩⟩ | ⟨z, _⟩
          · exact absurd hm z
          · obtain ⟨X, _, g2⟩ := OX_go ho F47 p47
            obtain ⟨w6, w7, w9⟩ := (g2 a (fun z => hne z.symm)).o
            have ka := kO_e X.2.1 a
            obtain ⟨r1, r2, r3⟩ := IH _ σ47 σ' h (X.hs hs) (X.hn hn) X.1 (by omega) (by omega) (fun o hoN hst hgd => by
              have ko := kO_e X.2.1 o
              have m := (X.2.2.1 o hoN).2
              obtain ⟨s1, s2, s3⟩ := hst
              have ho9 := (ho o hoN).2.2.2.2.2.2.2.1
              by_cases e : o = i23
              · have := X.2.2.1 i23 b2
                rw [e] at s1
                have z9 : oi σ47 i23 9 = 0 := by
                  obtain ⟨q1, _⟩ := g106 p47
                  show (m_i σ47 7 i23 9).toInt = 0
                  rw [q1, if_pos ⟨rfl, by omega⟩, i_0]
                omega
              · obtain ⟨y6, y7, y9⟩ := (g2 o e).o
                have := hg o hoN ⟨by omega, by omega, by omega⟩ ⟨fun z => by have := hgd.1 (by omega); omega, fun z => by have := hgd.2 (by omega); omega⟩
                omega)
            exact ⟨r1, by omega, fun i => (r3 i).trans (F47.2 8 i 7 rfl).1⟩
          · exact absurd a1 z
    · exact jj h
/-- an order's number -/
theorem on {σ : mS} (hs : HS σ) {o : Nat} (h : o < 120) : m_i σ 7 o 0 = Int32.ofNat o := by
  have e : (.inl (m_i σ 7 o 0) : mV) = .inl (Int32.ofNat o) := HS_n7 hs o h
  exact Sum.inl.inj e
theorem p27 {σ : mS} {x v : Int32} (h : P27 σ x v) (hx : 0 ≤ x.toInt ∧ x.toInt < 3) : (v.toInt = 0 ∧ pv σ x.toNatClampNeg 1 ≠ 0) ∨ (v.toInt ≠ 0 ∧ pv σ x.toNatClampNeg 1 = 0) := by
  obtain ⟨v1, p, h⟩ := h
  rw [p24 p hx] at h
  rcases h with ⟨z, _⟩ | ⟨q, e, i, e2, ⟨h1, h⟩ | ⟨h1, h⟩⟩
  · cases z
  · cases e; cases e2
    exact Or.inl ⟨by rw [h]; exact i_0, h1⟩
  · cases e; cases e2
    exact Or.inr ⟨by rw [h, i_1]; decide, Decidable.of_not_not h1⟩
/-- an order is set behind its adding: its size, its time -/
theorem sz {σ : mS} {N a : Nat} {v u : Int32} (ho : hO σ N) (ha : a < N) (h9 : oi σ a 9 = 3) (hv : 0 ≤ v.toInt ∧ v.toInt ≤ 1000) (hf : ∀ i, i < 3 → 1 ≤ pv σ i 6) : hO (m_set (m_set σ 7 a 5 (.inl v)) 7 a 10 (.inl u)) N ∧ RT σ (m_set (m_set σ 7 a 5 (.inl v)) 7 a 10 (.inl u)) ∧ (∀ o k, k ≠ 10 → ¬ (o = a ∧ k = 5) → m_i (m_set (m_set σ 7 a 5 (.inl v)) 7 a 10 (.inl u)) 7 o k = m_i σ 7 o k) ∧ (∀ o, m_r (m_set (m_set σ 7 a 5 (.inl v)) 7 a 10 (.inl u)) 7 o 12 = m_r σ 7 o 12) ∧ (∀ i, m_i (m_set (m_set σ 7 a 5 (.inl v)) 7 a 10 (.inl u)) 8 i 6 = m_i σ 8 i 6) := by
  have c : ∀ o k, k ≠ 10 → m_i (m_set (m_set σ 7 a 5 (.inl v)) 7 a 10 (.inl u)) 7 o k = if o = a ∧ k = 5 then v else m_i σ 7 o k := fun o k hk => by
    rw [mi_si, if_neg (fun z => hk z.2.2), mi_si]; simp only [true_and]
  have n : ∀ o k, k ≠ 10 → ¬ (o = a ∧ k = 5) → m_i (m_set (m_set σ 7 a 5 (.inl v)) 7 a 10 (.inl u)) 7 o k = m_i σ 7 o k := fun o k hk hn => by rw [c o k hk, if_neg hn]
  refine ⟨fun o hoN => ?_, (RT.fs (FS_set rfl (Or.inl (by decide)))).tr (RT.fs (FS_set rfl (Or.inl (by decide)))), n, fun o => rfl, fun i => rfl⟩
  have g := ho o hoN
  have o1 : oi (m_set (m_set σ 7 a 5 (.inl v)) 7 a 10 (.inl u)) o 1 = oi σ o 1 := congrArg Int32.toInt (n o 1 (by omega) (by omega))
  have o2 : oi (m_set (m_set σ 7 a 5 (.inl v)) 7 a 10 (.inl u)) o 2 = oi σ o 2 := congrArg Int32.toInt (n o 2 (by omega) (by omega))
  have o3 : oi (m_set (m_set σ 7 a 5 (.inl v)) 7 a 10 (.inl u)) o 3 = oi σ o 3 := congrArg Int32.toInt (n o 3 (by omega) (by omega))
  have o4 : oi (m_set (m_set σ 7 a 5 (.inl v)) 7 a 10 (.inl u)) o 4 = oi σ o 4 := congrArg Int32.toInt (n o 4 (by omega) (by omega))
  have o6 : oi (m_set (m_set σ 7 a 5 (.inl v)) 7 a 10 (.inl u)) o 6 = oi σ o 6 := congrArg Int32.toInt (n o 6 (by omega) (by omega))
  have o7 : oi (m_set (m_set σ 7 a 5 (.inl v)) 7 a 10 (.inl u)) o 7 = oi σ o 7 := congrArg Int32.toInt (n o 7 (by omega) (by omega))
  have o9 : oi (m_set (m_set σ 7 a 5 (.inl v)) 7 a 10 (.inl u)) o 9 = oi σ o 9 := congrArg Int32.toInt (n o 9 (by omega) (by omega))
  obtain ⟨g1, g2, g3, g4, g5, g6, g7, g8, g9, g10, g11, g12, g13, g14⟩ := g
  unfold oOK
  rw [o1, o2, o3, o4, o6, o7, o9]
  refine ⟨g1, g2, g3, g4, ?_, g6, g7, g8, g9, g10, g11, g12, fun q hq => ?_, fun z => by rw [n o 1 (by omega) (by omega)]; exact g14 z⟩
  · by_cases e : o = a
    · have e5 : oi (m_set (m_set σ 7 a 5 (.inl v)) 7 a 10 (.inl u)) o 5 = v.toInt := by
        show (m_i (m_set (m_set σ 7 a 5 (.inl v)) 7 a 10 (.inl u)) 7 o 5).toInt = _
        rw [c o 5 (by omega), if_pos ⟨e, rfl⟩]
      rw [e5]
      refine ⟨hv.1, fun i hi => ?_⟩
      have := hf i (by omega)
      show v.toInt ≤ 1000 * pv σ i 6
      omega
    · have e5 : oi (m_set (m_set σ 7 a 5 (.inl v)) 7 a 10 (.inl u)) o 5 = oi σ o 5 := congrArg Int32.toInt (n o 5 (by omega) (fun z => e z.1))
      rw [e5]
      exact g5
  · obtain ⟨t, t1, t2, t3, t4⟩ := g13 q hq
    exact ⟨t, t1, t2, t3, by rw [show oi (m_set (m_set σ 7 a 5 (.inl v)) 7 a 10 (.inl u)) t 1 = oi σ t 1 from congrArg Int32.toInt (n t 1 (by omega) (by omega))]; exact t4⟩
/-- an order came, with the next number -/
def CO (σ : mS) (N c : Nat) (w : Int32) (σ' : mS) : Prop := w = Int32.ofNat N ∧ hN σ' (N + 1) ∧ hO σ' (N + 1) ∧ RT σ σ' ∧ (∀ o k, o < N → k = 1 ∨ k = 2 ∨ k = 3 ∨ k = 4 → m_i σ' 7 o k = m_i σ 7 o k) ∧ mO N σ σ' ∧ (m_i σ' 7 N 1 = m_i σ 1 c 1 ∧ m_i σ' 7 N 2 = m_i σ 1 c 2 ∧ m_i σ' 7 N 3 = m_i σ 1 c 3 ∧ m_i σ' 7 N 4 = m_i σ 1 c 4) ∧ oi σ' N 6 ≤ (m_i σ 1 c 5).toInt ∧ (oi σ' N 9 = 0 ∨ oi σ' N 9 = 1) ∧ ((m_i σ 1 c 7).toInt ≠ 0 → (m_i σ 1 c 7).toInt ≠ 3 → oi σ' N 9 = 0) ∧ ((m_i σ 1 c 7).toInt = 3 → pv σ (m_i σ 1 c 2).toNatClampNeg 1 = 0 → oi σ' N 9 = 1 ∧ oi σ' N 6 = (m_i σ 1 c 5).toInt ∧ ∀ i, m_i σ' 8 i 7 = m_i σ 8 i 7)
/-- an order comes: refused, or with the next number -/
theorem lo64 {σ σ' : mS} {N c : Nat} {w : Int32} (hs : HS σ) (hn : hN σ N) (ho : hO σ N) (hp : pO σ) (hl : N < 120) (h1 : 0 ≤ (m_i σ 1 c 1).toInt ∧ (m_i σ 1 c 1).toInt < 5) (h2 : 0 ≤ (m_i σ 1 c 2).toInt ∧ (m_i σ 1 c 2).toInt < 3) (h3 : 0 ≤ (m_i σ 1 c 3).toInt ∧ (m_i σ 1 c 3).toInt ≤ 1) (h4 : 1 ≤ (m_i σ 1 c 4).toInt ∧ (m_i σ 1 c 4).toInt ≤ 9999) (h5 : 1 ≤ (m_i σ 1 c 5).toInt ∧ (m_i σ 1 c 5).toInt ≤ 1000) (h6 : 0 ≤ (m_i σ 1 c 6).toInt ∧ (m_i σ 1 c 6).toInt ≤ 1000) (h0 : nfl σ (m_i σ 1 c 1)) (h : P64 σ (some (1, c)) w σ') :
    (w = Int32.ofInt (-1) ∧ σ' = σ ∧ ((m_i σ 1 c 7).toInt = 2 ∨ (m_i σ 1 c 7).toInt = 3) ∧ pv σ (m_i σ 1 c 2).toNatClampNeg 1 = 0) ∨
    CO σ N c w σ' := by
  obtain ⟨i1, e1, v3, p3, h⟩ := h
  cases e1
  have hf : ∀ i, i < 3 → 1 ≤ pv σ i 6 := fun i hi => (hp i hi).2.2.2.2.1
  have core : ∀ (u7 : Int32), u7 = m_i σ 1 c 7 → (u7.toInt = 3 → pv σ (m_i σ 1 c 2).toNatClampNeg 1 = 0 → ∀ o, o < N → stIn σ (m_i σ 1 c 2).toInt (1 - (m_i σ 1 c 3).toInt) o → ((oi σ o 3 = 0 → (m_i σ 1 c 4).toInt ≤ oi σ o 4) ∧ (oi σ o 3 ≠ 0 → oi σ o 4 ≤ (m_i σ 1 c 4).toInt)) → oi σ o 1 = (m_i σ 1 c 1).toInt) → J64_88 (some (1, c)) (m_i σ 1 c 1) (m_i σ 1 c 2) (m_i σ 1 c 3) (m_i σ 1 c 4) (m_i σ 1 c 5) u7 σ w σ' →
      CO σ N c w σ' := by
    rintro u7 hu hg ⟨v1, σ2, F2, p2, h⟩
    obtain ⟨a1, a2, a3, a4, ⟨b1, b2, b3, b4, b6, b5, b7, b9, br⟩, a5, a6⟩ := add4 hn ho hl h1 h2 h3 h4 h5 h0 hf p2
    rcases h with ⟨z, _⟩ | ⟨q6, e6, i9, e9, i11, e11, σ14, e14, σ17, e17, h⟩
    · rw [a1] at z; cases z
    rw [a1] at e6
    cases e6; cases e11; cases e9
    have c6 : m_i σ2 1 c 6 = m_i σ 1 c 6 := (F2.2 1 c 6 rfl).1
    have f2 : ∀ i, i < 3 → 1 ≤ pv σ2 i 6 := fun i hi => by show 1 ≤ (m_i σ2 8 i 6).toInt; rw [(F2.2 8 i 6 rfl).1]; exact hf i hi
    obtain ⟨s1, s2, s3, s4, s5⟩ := sz (v := m_i σ2 1 c 6) (u := m_i σ14 2 0 7) a3 (Nat.lt_succ_self N) b9 (by rw [c6]; exact h6) f2
    rw [← e14, ← e17] at s1 s2 s3 s4 s5
    have hs2 := HS_RT hs a6
    have hs17 := HS_RT hs2 s2
    have hn17 : hN σ17 (N + 1) := ⟨by rw [e17, e14]; exact a2.1, a2.2⟩
    have k17 : ∀ k, k ≠ 10 → k ≠ 5 → m_i σ17 7 N k = m_i σ2 7 N k := fun k hk1 hk2 => s3 N k hk1 (fun z => hk2 z.2)
    have n9 : oi σ17 N 9 = 3 := (congrArg Int32.toInt (k17 9 (by omega) (by omega))).trans b9
    have n6 : oi σ17 N 6 = (m_i σ 1 c 5).toInt := (congrArg Int32.toInt (k17 6 (by omega) (by omega))).trans (congrArg Int32.toInt b6)
    have old : ∀ o k, o < N → k ≠ 10 → m_i σ17 7 o k = m_i σ 7 o k := fun o k hoN hk => (s3 o k hk (fun z => by omega)).trans (a4 o k (by omega))
    have fin : ∀ (t0 : Int32) (σ2' : mS), P66 σ17 (some (7, N)) t0 σ2' → w = m_i σ2' 7 N 0 → σ' = σ2' → (t0.toInt = 0 → (m_i σ 1 c 7).toInt ≠ 3) → (t0.toInt ≠ 0 → (m_i σ 1 c 7).toInt = 0 ∨ (m_i σ 1 c 7).toInt = 3) → CO σ N c w σ' := by
      intro t0 σ2' p66 hw e hk1 hk2
      subst e
      obtain ⟨X, x9⟩ := en66 (Nat.lt_succ_self N) hs17 hn17 s1 n9 p66
      have hs' := X.hs hs17
      have m := X.2.2.1 N (Nat.lt_succ_self N)
      refine ⟨?_, X.hn hn17, X.1, (a6.tr s2).tr X.2.2.2.2, fun o k hoN hk => ?_, fun o hoN => ?_, ⟨?_, ?_, ?_, ?_⟩, by omega, by omega, fun k0 k3 => ?_, fun k3 k0 => ?_⟩
      · rw [hw]; exact on hs' (by omega)
      · rw [X.2.1.1 o k (by omega)]
        exact old o k hoN (by omega)
      · have q := X.2.2.1 o (by omega)
        have q6 : oi σ17 o 6 = oi σ o 6 := congrArg Int32.toInt (old o 6 hoN (by omega))
        have q9 : oi σ17 o 9 = oi σ o 9 := congrArg Int32.toInt (old o 9 hoN (by omega))
        omega
      · rw [X.2.1.1 N 1 (by omega), k17 1 (by omega) (by omega)]; exact b1
      · rw [X.2.1.1 N 2 (by omega), k17 2 (by omega) (by omega)]; exact b2
      · rw [X.2.1.1 N 3 (by omega), k17 3 (by omega) (by omega)]; exact b3
      · rw [X.2.1.1 N 4 (by omega), k17 4 (by omega) (by omega)]; exact b4
      · rcases x9 with x9 | ⟨x9, x0⟩
        · exact x9
        · rcases hk2 x0 with z | z
          · exact absurd z k0
          · exact absurd z k3
      · have t0n : t0.toInt ≠ 0 := fun z => hk1 z k3
        obtain ⟨i, e, v, hv, n, h⟩ := p66
        cases e
        have g := (s1 N (Nat.lt_succ_self N)).2.1
        rw [p24 hv g] at h
        have r2 : oi σ17 N 2 = (m_i σ 1 c 2).toInt := (congrArg Int32.toInt (k17 2 (by omega) (by omega))).trans (congrArg Int32.toInt b2)
        have r3 : oi σ17 N 3 = (m_i σ 1 c 3).toInt := (congrArg Int32.toInt (k17 3 (by omega) (by omega))).trans (congrArg Int32.toInt b3)
        have r4 : oi σ17 N 4 = (m_i σ 1 c 4).toInt := (congrArg Int32.toInt (k17 4 (by omega) (by omega))).trans (congrArg Int32.toInt b4)
        have r1 : oi σ17 N 1 = (m_i σ 1 c 1).toInt := (congrArg Int32.toInt (k17 1 (by omega) (by omega))).trans (congrArg Int32.toInt b1)
        obtain ⟨y1, y2, y3⟩ := en_r (Nat.lt_succ_self N) t0n n _ σ17 σ' h hs17 hn17 s1 n9 (by omega) (fun o hoN hst hgd => by
          by_cases e : o = N
          · subst e
            rfl
          · have q : ∀ k, k ≠ 10 → oi σ17 o k = oi σ o k := fun k hk => congrArg Int32.toInt (old o k (by omega) hk)
            rw [r1]
            have q1 := q 1 (by omega)
            have q2 := q 2 (by omega)
            have q3 := q 3 (by omega)
            have q4 := q 4 (by omega)
            have q9 := q 9 (by omega)
            obtain ⟨t1, t2, t3⟩ := hst
            have := hg (by rw [hu]; exact k3) k0 o (by omega) ⟨by omega, by omega, by omega⟩ ⟨fun z => by have := hgd.1 (by omega); omega, fun z => by have := hgd.2 (by omega); omega⟩
            omega)
        exact ⟨y1, by omega, fun i => (y3 i).trans (by rw [e17, e14]; exact (F2.2 8 i 7 rfl).1)⟩
    have one := i_1
    have zer := i_0
    rcases h with ⟨k0, σ2', F, p, i5, e5, hw, e⟩ | ⟨k0, ⟨k3, σ2', F, p, i5, e5, hw, e⟩ | ⟨k3, σ2', F, p, i5, e5, hw, e⟩⟩
    · cases e5
      exact fin _ _ p hw e (fun z => by omega) (fun z => Or.inl (by rw [← hu]; exact k0))
    · cases e5
      exact fin _ _ p hw e (fun z => by rw [← hu]; exact k3) (fun z => absurd zer z)
    · cases e5
      exact fin _ _ p hw e (fun z => by omega) (fun z => Or.inr (by rw [← hu]; exact Decidable.of_not_not k3))
  have hlb := lB_of ho hp
  rcases p27 p3 h2 with ⟨z0, ph⟩ | ⟨z1, ph⟩
  · rcases h with ⟨_, h⟩ | ⟨z, _⟩
    · exact Or.inr (core _ rfl (fun _ z => absurd z ph) h)
    · exact absurd z0 z
  · rcases h with ⟨z, _⟩ | ⟨_, v8, p8', h⟩
    · exact absurd z z1
    · have e8 := p8 hn hlb p8'
      have e13 : (Int32.ofInt 1 - m_i σ 1 c 3).toInt = 1 - (m_i σ 1 c 3).toInt := by
        rw [i_sub (by rw [i_1]; omega) (by rw [i_1]; omega), i_1]
      rw [e13] at e8
      have none0 : v8.toInt ≤ 0 → ∀ o, o < N → stIn σ (m_i σ 1 c 2).toInt (1 - (m_i σ 1 c 3).toInt) o → ((oi σ o 3 = 0 → (m_i σ 1 c 4).toInt ≤ oi σ o 4) ∧ (oi σ o 3 ≠ 0 → oi σ o 4 ≤ (m_i σ 1 c 4).toInt)) → oi σ o 1 = (m_i σ 1 c 1).toInt := by
        intro hv o hoN hst hgd
        by_cases e : oi σ o 1 = (m_i σ 1 c 1).toInt
        · exact e
        · exfalso
          have z := sg_0 (G := gd σ (m_i σ 1 c 2).toInt (1 - (m_i σ 1 c 3).toInt) (m_i σ 1 c 4).toInt (m_i σ 1 c 1).toInt) hlb (by rw [← e8]; exact hv) o hoN ⟨hst, hgd, e⟩
          have g := ho o hoN
          have a := g.2.2.2.2.2.2.2.2.2.1 hst.1
          have b := g.2.2.2.2.2.2.1
          omega
      have refuse : (m_i σ 1 c 7).toInt = 2 ∨ (m_i σ 1 c 7).toInt = 3 → J64_86 σ w σ' → w = Int32.ofInt (-1) ∧ σ' = σ ∧ ((m_i σ 1 c 7).toInt = 2 ∨ (m_i σ 1 c 7).toInt = 3) ∧ pv σ (m_i σ 1 c 2).toNatClampNeg 1 = 0 := fun k h => ⟨h.1, h.2, k, ph⟩
      have go75 : J64_75 (some (1, c)) (m_i σ 1 c 1) (m_i σ 1 c 2) (m_i σ 1 c 3) (m_i σ 1 c 4) (m_i σ 1 c 5) (m_i σ 1 c 7) v8 σ w σ' → (w = Int32.ofInt (-1) ∧ σ' = σ ∧ ((m_i σ 1 c 7).toInt = 2 ∨ (m_i σ 1 c 7).toInt = 3) ∧ pv σ (m_i σ 1 c 2).toNatClampNeg 1 = 0) ∨ CO σ N c w σ' := fun h => by
        rcases h with ⟨k, h⟩ | ⟨k, ⟨hv, h⟩ | ⟨_, h⟩⟩
        · exact Or.inr (core _ rfl (fun z => absurd z k) h)
        · exact Or.inr (core _ rfl (fun _ _ => none0 hv) h)
        · exact Or.inl (refuse (Or.inr (Decidable.of_not_not k)) h)
      rcases h with ⟨k, h⟩ | ⟨k, ⟨_, h⟩ | ⟨_, h⟩⟩
      · exact go75 h
      · exact Or.inl (refuse (Or.inl (Decidable.of_not_not k)) h)
      · exact go75 h
