/-! the law's loop: its calls -/
def Z214 (IV : mS → Prop) (G : Prop) (u8 u9 u10 u11 : Int32) (τ : mS) : Prop := tr u8 → 0 ≤ u9.toInt → (0 ≤ u10.toInt ∧ u10.toInt < 60000) → (0 ≤ u11.toInt ∧ u11.toInt < 70000) → PS IV u8.toInt τ → G
def Z896 (IV : mS → Prop) (G : Prop) (u8 u11 : Int32) (τ : mS) : Prop := tr u8 → 0 ≤ u11.toInt → PT IV u8.toInt τ → G
theorem RES_x {n : Int} {N c : Nat} {k : Kt} {b : Nat} {σ : mS} (h : RES n N c k (.inr b) σ) : False := by
  obtain ⟨⟨v, e, _⟩, _⟩ := h
  cases e
theorem FIN_x {n : Int} {N c : Nat} {k : Kt} {b : Nat} {σ : mS} (h : FIN n N c k (.inr b) σ) : False := by
  obtain ⟨⟨v, e, _⟩, _⟩ := h
  cases e
theorem g925 {IV : mS → Prop} {G : Prop} {u8 u11 v : Int32} {σ9 : mS} {n : Int} {N c : Nat} {k : Kt} (h8 : tr u8) (h11 : 0 ≤ u11.toInt) (b1 : n ≤ 1 + 2 * u8.toInt) (b2 : (c : Int) ≤ 240 * u8.toInt) (b3 : (k.1 : Int) ≤ u8.toInt) (r : RES n N c k (.inl (some (.inl v))) σ9) (iv : IV σ9) (q : HL σ9 → Z925 IV G v u8 u11 σ9) : G := by
  obtain ⟨⟨v', e, ne⟩, n', N', k', a, b, d, e', f, g, hD, l'⟩ := r
  cases e
  exact q ⟨hD.1.1, l'.gh⟩ ne h8 h11 ⟨n', N', c, k', hD, l', iv, by omega, b2, by omega⟩
theorem s162 {G : Prop} {IV : mS → Prop} {u7 u8 : Int32} {τ : mS} {w : mX} {σ' : mS} (hS : ∀ t : Int, 0 ≤ t → t ≤ 61 → PS IV t σ' → G) (q : T162 (Z214 IV G) (Z1091 IV G) u7 u8 τ w σ') : Z162 IV G u7 u8 τ := by
  intro h7 h8 p
  obtain ⟨n, N, c, k, h, l, iv, b1, b2, b3⟩ := p
  have e1 : (Int32.ofInt 44).toInt = 44 := by decide
  have e2 : (Int32.ofInt 60000).toInt = 60000 := by decide
  have e3 : (Int32.ofInt 70000).toInt = 70000 := by decide
  rcases q with ⟨_, q⟩ | ⟨a, ⟨z, _⟩ | ⟨_, ⟨_, e⟩ | ⟨v3, r3, v7, r7, v11, r11, q⟩⟩⟩
  · exact q h7 ⟨h.1.1, l.gh⟩ iv
  · exact absurd z h7
  · rw [e] at hS
    exact hS _ h8.1 (by omega) ⟨n, N, c, k, h, l, iv, b1, b2, b3⟩
  · rw [e1] at r3
    rw [e2] at r7
    rw [e3] at r11
    exact q ⟨h8.1, by omega⟩ r3.1 r7 r11 ⟨n, N, c, k, h, l, iv, b1, b2, b3⟩
theorem s214 {G : Prop} {IV : mS → Prop} (hI : IVc IV) {u8 u9 u10 u11 : Int32} {τ : mS} {w : mX} {σ' : mS} (q : T214 (Z214 IV G) (Z925 IV G) u8 u9 u10 u11 τ w σ') : Z214 IV G u8 u9 u10 u11 τ := by
  intro h8 h9 h10 h11 p
  obtain ⟨n, N, c, k, h, l, iv, b1, b2, b3⟩ := p
  have hl : HL τ := ⟨h.1.1, l.gh⟩
  have c61 := h8.2
  have hn : n + 12 ≤ 300 := by omega
  have hn1 : n + 11 ≤ 300 := by omega
  have hc : c ≤ 900000 := by omega
  have i0 := i_0
  have i1 := i_1
  rcases q with ⟨_, q⟩ | ⟨_, q⟩
  rotate_left
  · rcases q with ⟨v, σ, r, p, q⟩ | ⟨b, p, _⟩
    · exact g925 h8 h11.1 b1 b2 b3 (a184 h hc l h10 h11 p) (hI.1 184 _ _ _ _ rfl rfl hl iv r) q
    · exact absurd (a184 h hc l h10 h11 p) RES_x
  rcases q with ⟨_, q⟩ | ⟨_, q⟩
  rotate_left
  · rcases q with ⟨v, σ, r, p, q⟩ | ⟨b, p, _⟩
    · exact g925 h8 h11.1 b1 b2 b3 (a185 h hc l h10 h11 p) (hI.1 185 _ _ _ _ rfl rfl hl iv r) q
    · exact absurd (a185 h hc l h10 h11 p) RES_x
  rcases q with ⟨_, q⟩ | ⟨_, q⟩
  rotate_left
  · rcases q with ⟨_, q⟩ | ⟨_, q⟩
    · rcases q with ⟨v, σ, r, p, q⟩ | ⟨b, p, _⟩
      · exact g925 h8 h11.1 b1 b2 b3 (a186 h hn1 hc l h10.1 h11.1 p) (hI.1 186 _ _ _ _ rfl rfl hl iv r) q
      · exact absurd (a186 h hn1 hc l h10.1 h11.1 p) RES_x
    · rcases q with ⟨v, σ, r, p, q⟩ | ⟨b, p, _⟩
      · exact g925 h8 h11.1 b1 b2 b3 (a186 h hn1 hc l h10.1 h11.1 p) (hI.1 186 _ _ _ _ rfl rfl hl iv r) q
      · exact absurd (a186 h hn1 hc l h10.1 h11.1 p) RES_x
  rcases q with ⟨_, q⟩ | ⟨_, q⟩
  rotate_left
  · rcases q with ⟨_, q⟩ | ⟨_, q⟩
    · rcases q with ⟨_, q⟩ | ⟨_, q⟩
      · rcases q with ⟨v, σ, r, p, q⟩ | ⟨b, p, _⟩
        · exact g925 h8 h11.1 b1 b2 b3 (a187 h hn1 hc l h10.1 h11.1 p) (hI.1 187 _ _ _ _ rfl rfl hl iv r) q
        · exact absurd (a187 h hn1 hc l h10.1 h11.1 p) RES_x
      · rcases q with ⟨v, σ, r, p, q⟩ | ⟨b, p, _⟩
        · exact g925 h8 h11.1 b1 b2 b3 (a187 h hn1 hc l h10.1 h11.1 p) (hI.1 187 _ _ _ _ rfl rfl hl iv r) q
        · exact absurd (a187 h hn1 hc l h10.1 h11.1 p) RES_x
    · rcases q with ⟨v, σ, r, p, q⟩ | ⟨b, p, _⟩
      · exact g925 h8 h11.1 b1 b2 b3 (a187 h hn1 hc l h10.1 h11.1 p) (hI.1 187 _ _ _ _ rfl rfl hl iv r) q
      · exact absurd (a187 h hn1 hc l h10.1 h11.1 p) RES_x
  rcases q with ⟨_, q⟩ | ⟨_, q⟩
  rotate_left
  · rcases q with ⟨v, σ, r, p, q⟩ | ⟨b, p, _⟩
    · exact g925 h8 h11.1 b1 b2 b3 (a188 h hn hc l h10.1 h11.1 p) (hI.1 188 _ _ _ _ rfl rfl hl iv r) q
    · exact absurd (a188 h hn hc l h10.1 h11.1 p) RES_x
  rcases q with ⟨_, q⟩ | ⟨_, q⟩
  · exact q h8 h9 h10 h11 ⟨n, N, c, k, h, l, iv, b1, b2, b3⟩
  rcases q with ⟨_, q⟩ | ⟨_, q⟩
  · rcases q with ⟨v, σ, r, p, q⟩ | ⟨b, p, _⟩
    · exact g925 h8 h11.1 b1 b2 b3 (a183 h hn1 hc l (Or.inr i1) h10 h11 p) (hI.1 183 _ _ _ _ rfl rfl hl iv r) q
    · exact absurd (a183 h hn1 hc l (Or.inr i1) h10 h11 p) RES_x
  · rcases q with ⟨v, σ, r, p, q⟩ | ⟨b, p, _⟩
    · exact g925 h8 h11.1 b1 b2 b3 (a183 h hn1 hc l (Or.inl i0) h10 h11 p) (hI.1 183 _ _ _ _ rfl rfl hl iv r) q
    · exact absurd (a183 h hn1 hc l (Or.inl i0) h10 h11 p) RES_x
theorem s896 {G : Prop} {IV : mS → Prop} (hI : IVc IV) {u8 u11 : Int32} {τ : mS} {w : mX} {σ' : mS} (q : T896 (Z925 IV G) u8 u11 τ w σ') : Z896 IV G u8 u11 τ := by
  intro h8 h11 p
  obtain ⟨n, N, c, k, T, h, l, iv, b1, b2, b3, t0, t1, hg⟩ := p
  have hl : HL τ := ⟨h.1.1, l.gh⟩
  rcases q with ⟨v, σ, r, p, q⟩ | ⟨b, p, _⟩
  · obtain ⟨⟨v', e, ne⟩, f2, f3⟩ := fin181 h l t0 t1 hg p
    cases e
    rcases q ⟨f2.1.1, f3.gh⟩ with ⟨a, _⟩ | ⟨_, q⟩
    · exact absurd a ne
    · exact q (by rw [i_1]; decide) h8 h11 ⟨n, N, c, k, f2, f3, hI.1 181 _ _ _ _ rfl rfl hl iv r, b1, b2, b3⟩
  · exact absurd (fin181 h l t0 t1 hg p) FIN_x
