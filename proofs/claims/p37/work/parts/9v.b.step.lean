/-! the first order of a book; steps of the hall: a trade, or what touches orders alone -/
def stIn (σ : mS) (x1 x2 : Int) (o : Nat) : Prop := oi σ o 9 = 1 ∧ oi σ o 2 = x1 ∧ oi σ o 3 = x2
theorem p100 {σ : mS} {a : Nat} {x1 x2 w : Int32} (h : P100 σ a x1 x2 w) : (w.toInt = 0 ∧ ¬ stIn σ x1.toInt x2.toInt a) ∨ (w.toInt ≠ 0 ∧ stIn σ x1.toInt x2.toInt a) := by
  rcases h with ⟨h1, h⟩ | ⟨h1, ⟨h2, h⟩ | ⟨h2, ⟨h3, h⟩ | ⟨h3, h⟩⟩⟩
  · exact Or.inl ⟨by rw [h]; exact i_0, fun z => h1 z.1⟩
  · exact Or.inl ⟨by rw [h]; exact i_0, fun z => h2 z.2.1⟩
  · exact Or.inl ⟨by rw [h]; exact i_0, fun z => h3 z.2.2⟩
  · exact Or.inr ⟨by rw [h, i_1]; decide, Decidable.of_not_not h1, Decidable.of_not_not h2, Decidable.of_not_not h3⟩
theorem p102 {σ : mS} {a b : Nat} {w : Int32} (h : P102 σ a (some (7, b)) w) : (w.toInt = 0 ∧ (oi σ a 3 = 0 → oi σ a 4 ≤ oi σ b 4) ∧ (oi σ a 3 ≠ 0 → oi σ b 4 ≤ oi σ a 4)) ∨ (w.toInt ≠ 0 ∧ (oi σ a 3 = 0 → oi σ b 4 ≤ oi σ a 4) ∧ (oi σ a 3 ≠ 0 → oi σ a 4 ≤ oi σ b 4)) := by
  obtain ⟨i, hi, h⟩ := h
  cases hi
  have z0 := i_0
  have z1 := i_1
  show (w.toInt = 0 ∧ ((m_i σ 7 a 3).toInt = 0 → (m_i σ 7 a 4).toInt ≤ (m_i σ 7 b 4).toInt) ∧ ((m_i σ 7 a 3).toInt ≠ 0 → (m_i σ 7 b 4).toInt ≤ (m_i σ 7 a 4).toInt)) ∨ (w.toInt ≠ 0 ∧ ((m_i σ 7 a 3).toInt = 0 → (m_i σ 7 b 4).toInt ≤ (m_i σ 7 a 4).toInt) ∧ ((m_i σ 7 a 3).toInt ≠ 0 → (m_i σ 7 a 4).toInt ≤ (m_i σ 7 b 4).toInt))
  rcases h with ⟨h1, ⟨h2, ⟨h3, h⟩ | ⟨h3, h⟩⟩ | ⟨h2, ⟨h3, h⟩ | ⟨h3, h⟩⟩⟩ | ⟨h1, ⟨h2, h⟩ | ⟨h2, h⟩⟩ <;> rw [h] <;> omega
/-- the best of the first i orders -/
def bestI (σ : mS) (x1 x2 : Int) (i : Nat) (r : mR) : Prop := (r = none ∧ ∀ o, o < i → ¬ stIn σ x1 x2 o) ∨ ∃ t, r = some (7, t) ∧ t < i ∧ stIn σ x1 x2 t ∧ ∀ o, o < i → stIn σ x1 x2 o → (x2 = 0 → oi σ o 4 ≤ oi σ t 4) ∧ (x2 ≠ 0 → oi σ t 4 ≤ oi σ o 4)
theorem q6_s {σ : mS} {N : Nat} {c1 c2 : Int32} (hn : hN σ N) : ∀ n u3 (u4 : Int32) w, Q6_5 σ c1 c2 n u3 u4 w → 0 ≤ u4.toInt → u4.toInt ≤ N → bestI σ c1.toInt c2.toInt u4.toNatClampNeg u3 → bestI σ c1.toInt c2.toInt N w := by
  intro n
  induction n with
  | zero => intro u3 u4 w h; exact h.elim
  | succ n IH =>
    intro u3 u4 w h p0 p1 hb
    have pn := i_nat p0
    have h : B6_5 σ c1 c2 (Q6_5 σ c1 c2 n) u3 u4 w := h
    obtain ⟨n1, n2⟩ := hn
    have e1 : u4.toInt < N → (u4 + Int32.ofInt 1).toInt = u4.toInt + 1 := fun _ => i_inc p0 (by omega)
    have step : u4.toInt < N → ∀ r, bestI σ c1.toInt c2.toInt (u4.toNatClampNeg + 1) r → Q6_5 σ c1 c2 n r (u4 + Int32.ofInt 1) w → bestI σ c1.toInt c2.toInt N w := by
      intro hl r hr hq
      have e := e1 hl
      have en := i_nat (a := u4 + Int32.ofInt 1) (by omega)
      refine IH r _ w hq (by omega) (by omega) ?_
      have : (u4 + Int32.ofInt 1).toNatClampNeg = u4.toNatClampNeg + 1 := by omega
      rw [this]
      exact hr
    rcases h with ⟨h1, rfl⟩ | ⟨h1, h⟩
    · have : u4.toNatClampNeg = N := by omega
      rw [← this]; exact hb
    rcases h with ⟨h2, rfl⟩ | ⟨h2, h3, v, hv, h⟩
    · have : u4.toNatClampNeg = N := by omega
      rw [← this]; exact hb
    have hl : u4.toInt < N := by omega
    rcases p100 hv with ⟨v0, ns⟩ | ⟨v1, is⟩
    · rcases h with ⟨_, h⟩ | ⟨h4, h⟩
      · refine step hl _ ?_ h
        rcases hb with ⟨b1, b2⟩ | ⟨t, b1, b2, b3, b4⟩
        · refine Or.inl ⟨b1, fun o ho => ?_⟩
          by_cases e : o = u4.toNatClampNeg
          · rw [e]; exact ns
          · exact b2 o (by omega)
        · refine Or.inr ⟨t, b1, by omega, b3, fun o ho hs => ?_⟩
          by_cases e : o = u4.toNatClampNeg
          · rw [e] at hs; exact absurd hs ns
          · exact b4 o (by omega) hs
      · exact absurd v0 h4
    · rcases h with ⟨h4, h⟩ | ⟨h4, h⟩
      · exact absurd h4 v1
      · have new : bestI σ c1.toInt c2.toInt (u4.toNatClampNeg + 1) (some (7, u4.toNatClampNeg)) → Q6_5 σ c1 c2 n (some (7, u4.toNatClampNeg)) (u4 + Int32.ofInt 1) w → bestI σ c1.toInt c2.toInt N w := step hl _
        rcases h with ⟨hr, h⟩ | ⟨q, hr, v2, hv2, h⟩
        · refine new (Or.inr ⟨_, rfl, by omega, is, fun o ho hs => ?_⟩) h
          rcases hb with ⟨b1, b2⟩ | ⟨t, b1, b2, b3, b4⟩
          · by_cases e : o = u4.toNatClampNeg
            · rw [e]; exact ⟨fun _ => Int.le_refl _, fun _ => Int.le_refl _⟩
            · exact absurd hs (b2 o (by omega))
          · rw [hr] at b1; cases b1
        · rcases hb with ⟨b1, b2⟩ | ⟨t, b1, b2, b3, b4⟩
          · rw [hr] at b1; cases b1
          · rw [hr] at b1
            cases b1
            have is3 := is.2.2
            have b33 := b3.2.2
            rcases p102 hv2 with ⟨w0, w1, w2⟩ | ⟨w0, w1, w2⟩
            · rcases h with ⟨_, h⟩ | ⟨h5, h⟩
              · refine step hl _ (Or.inr ⟨t, rfl, by omega, b3, fun o ho hs => ?_⟩) h
                by_cases e : o = u4.toNatClampNeg
                · rw [e]; exact ⟨fun z => w1 (by omega), fun z => w2 (by omega)⟩
                · exact b4 o (by omega) hs
              · exact absurd w0 h5
            · rcases h with ⟨h5, h⟩ | ⟨_, h⟩
              · exact absurd h5 w0
              · refine new (Or.inr ⟨_, rfl, by omega, is, fun o ho hs => ?_⟩) h
                by_cases e : o = u4.toNatClampNeg
                · rw [e]; exact ⟨fun _ => Int.le_refl _, fun _ => Int.le_refl _⟩
                · obtain ⟨a1, a2⟩ := b4 o (by omega) hs
                  exact ⟨fun z => Int.le_trans (a1 z) (w1 (by omega)), fun z => Int.le_trans (w2 (by omega)) (a2 z)⟩
theorem p6 {σ : mS} {N : Nat} {x1 x2 : Int32} {w : mR} (hn : hN σ N) (h : P6 σ x1 x2 w) : bestI σ x1.toInt x2.toInt N w := by
  obtain ⟨n, h⟩ := h
  refine q6_s hn n _ _ w h (by rw [i_0]; omega) (by rw [i_0]; omega) (Or.inl ⟨rfl, fun o ho => ?_⟩)
  have : (Int32.ofInt 0).toNatClampNeg = 0 := by decide
  omega
/-! steps -/
def LF : List (Nat × Nat) := [(7, 1), (7, 2), (7, 3), (7, 4), (7, 5), (7, 6), (7, 7), (7, 8), (7, 9), (7, 10), (7, 11), (7, 12), (0, 1), (0, 2), (8, 1), (8, 3), (8, 7)]
/-- orders, a paper's phase, reference, mark -/
def FS (σ σ' : mS) : Prop := fw_e (wl LF) σ σ' ∧ (∀ i, m_i σ' 8 i 1 = m_i σ 8 i 1 ∨ m_i σ' 8 i 1 = Int32.ofInt 0 ∨ m_i σ' 8 i 1 = Int32.ofInt 1)
/-- a trade -/
def TS (σ σ' : mS) : Prop := ∃ (ip : Nat) (x2 x3 x4 x5 x6 : Int32), HS σ ∧ ip < 3 ∧ (1 ≤ x2.toInt ∧ x2.toInt ≤ 9999) ∧ (1 ≤ x3.toInt ∧ x3.toInt ≤ 1000 * pv σ ip 6) ∧ (0 ≤ x4.toInt ∧ x4.toInt < 5) ∧ (0 ≤ x5.toInt ∧ x5.toInt < 5) ∧ x4.toInt ≠ x5.toInt ∧ (nfl σ x4 ∧ nfl σ x5) ∧ fw_e w32 σ σ' ∧ P32 σ (some (8, ip)) x2 x3 x4 x5 x6 σ'
def RTn : Nat → mS → mS → Prop
  | 0 => fun σ σ' => σ' = σ
  | n + 1 => fun σ σ' => ∃ τ, (FS σ τ ∨ TS σ τ) ∧ RTn n τ σ'
def RT (σ σ' : mS) : Prop := ∃ n, RTn n σ σ'
theorem RT.rf {σ : mS} : RT σ σ := ⟨0, rfl⟩
theorem RT.fs {σ σ' : mS} (h : FS σ σ') : RT σ σ' := ⟨1, σ', Or.inl h, rfl⟩
theorem RT.ts {σ σ' : mS} (h : TS σ σ') : RT σ σ' := ⟨1, σ', Or.inr h, rfl⟩
theorem RTn.tr : ∀ n {σ σ1 σ2 : mS}, RTn n σ σ1 → RT σ1 σ2 → RT σ σ2
  | 0, σ, σ1, σ2, h, g => by
    have e : σ1 = σ := h
    rw [← e]; exact g
  | n + 1, σ, σ1, σ2, ⟨τ, h1, h2⟩, g => by
    obtain ⟨m, k⟩ := RTn.tr n h2 g
    exact ⟨m + 1, τ, h1, k⟩
theorem RT.tr {σ σ1 σ2 : mS} (h : RT σ σ1) (g : RT σ1 σ2) : RT σ σ2 := by
  obtain ⟨n, h⟩ := h
  exact RTn.tr n h g
/-- what every step keeps, a run of steps keeps -/
theorem RT.ind {I : mS → Prop} (hf : ∀ σ σ', FS σ σ' → I σ → I σ') (ht : ∀ σ σ', TS σ σ' → I σ → I σ') {σ σ' : mS} (h : RT σ σ') (h0 : I σ) : I σ' := by
  obtain ⟨n, h⟩ := h
  induction n generalizing σ with
  | zero =>
    have e : σ' = σ := h
    rw [e]; exact h0
  | succ n IH =>
    obtain ⟨τ, h1, h2⟩ := h
    rcases h1 with h1 | h1
    · exact IH (hf _ _ h1 h0) h2
    · exact IH (ht _ _ h1 h0) h2
theorem FS_of {L : List (Nat × Nat)} {σ σ' : mS} (F : fw_e (wl L) σ σ') (h : (L.all (fun q => LF.any (fun p => Nat.beq p.1 q.1 && Nat.beq p.2 q.2)) && fwh (wl L) 8 1) = true) : FS σ σ' := by
  rw [Bool.and_eq_true] at h
  exact ⟨wl_mono F h.1, fun i => Or.inl (F.2 8 i 1 h.2).1⟩
theorem FS_ph {σ : mS} {i : Nat} {v : Int32} (h : v = Int32.ofInt 0 ∨ v = Int32.ofInt 1) : FS σ (m_set σ 8 i 1 (.inl v)) := by
  refine ⟨fw_set rfl, fun j => ?_⟩
  rw [mi_si]
  by_cases e : j = i
  · rw [if_pos ⟨rfl, e, rfl⟩]
    exact Or.inr h
  · rw [if_neg (fun z => e z.2.1)]
    exact Or.inl rfl
theorem FS_set {σ : mS} {c i k : Nat} {v : mV} (h : fwh (wl LF) c k = false) (h1 : c ≠ 8 ∨ k ≠ 1) : FS σ (m_set σ c i k v) := by
  refine ⟨fw_set h, fun j => Or.inl ?_⟩
  rcases v with v | v | v
  · rw [mi_si, if_neg (fun z => by omega)]
  · rfl
  · rfl
theorem HS_w {L : List (Nat × Nat)} {σ σ' : mS} (h : HS σ) (F : fw_e (wl L) σ σ') (c : L.all (fun q => !(hpS q.1 q.2)) = true) : HS σ' := by
  refine HS_of h ⟨F.1, fun c' i k hk => F.2 c' i k ?_⟩
  have key : ∀ c' k', hpS c' k' = true → wl L c' k' = true := by
    intro c' k' hk
    unfold wl
    rw [Bool.not_eq_true']
    cases g : L.any (fun q => Nat.beq q.1 c' && Nat.beq q.2 k') with
    | false => rfl
    | true =>
      exfalso
      obtain ⟨q, q1, q2⟩ := List.any_eq_true.mp g
      have a := List.all_eq_true.mp c q q1
      rw [Bool.and_eq_true] at q2
      rw [Nat.eq_of_beq_eq_true q2.1, Nat.eq_of_beq_eq_true q2.2, hk] at a
      cases a
  exact key _ _ hk
theorem HS_FS {σ σ' : mS} (h : HS σ) (F : FS σ σ') : HS σ' := HS_w h F.1 (by decide)
theorem HS_TS {σ σ' : mS} (h : HS σ) (F : TS σ σ') : HS σ' := by
  obtain ⟨_, _, _, _, _, _, _, _, _, _, _, _, _, _, F, _⟩ := F
  exact HS_w h F (by decide)
theorem HS_RT {σ σ' : mS} (h : HS σ) (R : RT σ σ') : HS σ' := R.ind (fun _ _ F g => HS_FS g F) (fun _ _ F g => HS_TS g F) h
theorem p103 {σ : mS} {a : Nat} {x w : Int32} (h : P103 σ a x w) : (w.toInt = 0 ∧ ¬ ((oi σ a 3 = 0 → x.toInt ≤ oi σ a 4) ∧ (oi σ a 3 ≠ 0 → oi σ a 4 ≤ x.toInt))) ∨ (w.toInt ≠ 0 ∧ ((oi σ a 3 = 0 → x.toInt ≤ oi σ a 4) ∧ (oi σ a 3 ≠ 0 → oi σ a 4 ≤ x.toInt))) := by
  have z0 := i_0
  have z1 := i_1
  show (w.toInt = 0 ∧ ¬ (((m_i σ 7 a 3).toInt = 0 → x.toInt ≤ (m_i σ 7 a 4).toInt) ∧ ((m_i σ 7 a 3).toInt ≠ 0 → (m_i σ 7 a 4).toInt ≤ x.toInt))) ∨ (w.toInt ≠ 0 ∧ (((m_i σ 7 a 3).toInt = 0 → x.toInt ≤ (m_i σ 7 a 4).toInt) ∧ ((m_i σ 7 a 3).toInt ≠ 0 → (m_i σ 7 a 4).toInt ≤ x.toInt)))
  rcases h with ⟨h1, ⟨h2, h⟩ | ⟨h2, h⟩⟩ | ⟨h1, ⟨h2, h⟩ | ⟨h2, h⟩⟩ <;> rw [h] <;> omega
theorem p24 {σ : mS} {x : Int32} {w : mR} (h : P24 σ x w) (hx : 0 ≤ x.toInt ∧ x.toInt < 3) : w = some (8, x.toNatClampNeg) := by
  rcases h with ⟨h1, _⟩ | ⟨_, ⟨_, _, e⟩ | ⟨h2, _⟩⟩
  · omega
  · exact e
  · omega
