/-! the law's loop: a spread -/
def Z839 (IV : mS → Prop) (G : Prop) (u8 u11 u12 u13 u15 : Int32) (u16 : Int64) (τ : mS) : Prop := tr u8 → 0 ≤ u11.toInt → PT IV u8.toInt τ → ((u12.toInt = u13.toInt ∧ u16.toInt = -2000000000) ∨ (u12.toInt ≠ u13.toInt ∧ u15.toInt ≠ 0 ∧ u16.toInt = -1000000000) ∨ (u12.toInt ≠ u13.toInt ∧ u15.toInt = 0 ∧ 0 ≤ u16.toInt ∧ u16.toInt ≤ (Int32.ofInt 1 + (u11 - u11 / Int32.ofInt 40 * Int32.ofInt 40)).toInt)) → G
def Z801 (IV : mS → Prop) (G : Prop) (u8 u10 u11 u12 u13 u15 : Int32) (τ : mS) : Prop := tr u8 → 0 ≤ u10.toInt → 0 ≤ u11.toInt → PS IV u8.toInt τ → ik u12 → ik u13 → (u12.toInt ≠ u13.toInt → (u15.toInt = 0 ∧ C130 τ (u10 / Int32.ofInt 9 - u10 / Int32.ofInt 9 / Int32.ofInt 5 * Int32.ofInt 5) u12 u13) ∨ (u15.toInt ≠ 0 ∧ ¬ C130 τ (u10 / Int32.ofInt 9 - u10 / Int32.ofInt 9 / Int32.ofInt 5 * Int32.ofInt 5) u12 u13)) → G
def Z775 (IV : mS → Prop) (G : Prop) (u8 u10 u11 u12 u13 u14 : Int32) (τ : mS) : Prop := tr u8 → 0 ≤ u10.toInt → 0 ≤ u11.toInt → PS IV u8.toInt τ → ik u12 → ik u13 → (u12.toInt ≠ u13.toInt → (u14.toInt = 0 ∧ pv τ u12.toNatClampNeg 1 = 0 ∧ pv τ u13.toNatClampNeg 1 = 0) ∨ (u14.toInt ≠ 0 ∧ ¬ (pv τ u12.toNatClampNeg 1 = 0 ∧ pv τ u13.toNatClampNeg 1 = 0))) → G
theorem mb95 {u10 : Int32} (h : 0 ≤ u10.toInt) : mb (u10 / Int32.ofInt 9 - u10 / Int32.ofInt 9 / Int32.ofInt 5 * Int32.ofInt 5) := by
  have j9 : (Int32.ofInt 9).toInt = 9 := by decide
  have d9 : (u10 / Int32.ofInt 9).toInt = u10.toInt / 9 := by rw [dv32 h (by rw [j9]; decide), j9]
  have e : (u10 / Int32.ofInt 9 - u10 / Int32.ofInt 9 / Int32.ofInt 5 * Int32.ofInt 5).toInt = u10.toInt / 9 % 5 := by rw [md32 (by rw [d9]; omega) (by rw [i_5]; decide), i_5, d9]
  exact ⟨by rw [e]; omega, by rw [e]; omega⟩
theorem s839 {G : Prop} {IV : mS → Prop} {u8 u11 u12 u13 u15 : Int32} {u16 : Int64} {τ : mS} {w : mX} {σ' : mS} (q : T839 (Z896 IV G) (Z925 IV G) u8 u11 u12 u13 u15 u16 τ w σ') : Z839 IV G u8 u11 u12 u13 u15 u16 τ := by
  intro h8 h11 p v
  have o0 : (Int64.ofNat 0).toInt = 0 := by decide
  rcases q with ⟨a, q⟩ | ⟨a, q⟩
  · rcases v with ⟨z, _⟩ | ⟨_, y, v⟩ | ⟨_, y, v0, v1⟩
    · exact absurd z a
    · rcases q with ⟨z, _⟩ | ⟨_, q⟩
      · exact absurd z y
      rcases q with ⟨z, _⟩ | ⟨_, q⟩
      · exact absurd (v.trans litC.symm) z
      · exact q h8 h11 p
    · rcases q with ⟨_, q⟩ | ⟨z, _⟩
      rotate_left
      · exact absurd y z
      rcases q with ⟨z, _⟩ | ⟨_, q⟩
      · omega
      rcases q with ⟨z, _⟩ | ⟨_, q⟩
      · rw [i64] at z
        exact absurd z (Int.not_lt.mpr v1)
      · exact q h8 h11 p
  · rcases v with ⟨_, v⟩ | ⟨z, _⟩ | ⟨z, _⟩
    · rcases q with ⟨z, _⟩ | ⟨_, q⟩
      · exact absurd (v.trans litB.symm) z
      · exact q h8 h11 p
    · exact absurd z a
    · exact absurd z a
theorem s801 {G : Prop} {IV : mS → Prop} (hI : IVc IV) {u8 u10 u11 u12 u13 u15 : Int32} {τ : mS} {w : mX} {σ' : mS} (q : T801 (Z839 IV G) u8 u10 u11 u12 u13 u15 τ w σ') : Z801 IV G u8 u10 u11 u12 u13 u15 τ := by
  intro h8 h10 h11 p k12 k13 hv
  obtain ⟨n, N, c, k, h, l, iv, b1, b2, b3⟩ := p
  have hl : HL τ := ⟨h.1.1, l.gh⟩
  have c61 := h8.2
  obtain ⟨v6, σ7, g, _, r, p, q⟩ := q
  have iv2 : IV σ7 := hI.1 172 _ _ _ _ rfl rfl hl iv r
  obtain ⟨y, p130, _, _, ev⟩ := d172_5 (by decide) p
  have m5 := mb95 h10
  have j40 : (Int32.ofInt 40).toInt = 40 := by decide
  have j30 := i_30
  have j15 : (Int32.ofInt 15).toInt = 15 := by decide
  have m40 : (u11 - u11 / Int32.ofInt 40 * Int32.ofInt 40).toInt = u11.toInt % 40 := by rw [md32 h11 (by rw [j40]; decide), j40]
  have d40 : (u11 / Int32.ofInt 40).toInt = u11.toInt / 40 := by rw [dv32 h11 (by rw [j40]; decide), j40]
  have m30 : (u11 / Int32.ofInt 40 - u11 / Int32.ofInt 40 / Int32.ofInt 30 * Int32.ofInt 30).toInt = u11.toInt / 40 % 30 := by rw [md32 (by rw [d40]; omega) (by rw [j30]; decide), j30, d40]
  have x4 : (Int32.ofInt 1 + (u11 - u11 / Int32.ofInt 40 * Int32.ofInt 40)).toInt = 1 + u11.toInt % 40 := by rw [i_add (by rw [m40, i_1]; omega) (by rw [m40, i_1]; omega), m40, i_1]
  have x5 : (u11 / Int32.ofInt 40 - u11 / Int32.ofInt 40 / Int32.ofInt 30 * Int32.ofInt 30 - Int32.ofInt 15).toInt = u11.toInt / 40 % 30 - 15 := by rw [i_sub (by rw [m30, j15]; omega) (by rw [m30, j15]; omega), m30, j15]
  have t0 : 0 ≤ tc τ ∧ tc τ ≤ 200 := h.1.to.1
  have same : σ7 = τ → PT IV u8.toInt σ7 := by
    intro e
    subst e
    exact ⟨n, N, c, k, tc σ7, S_D h, l, iv, by omega, b2, by omega, t0.1, Int.le_refl _, fun i a b => by omega⟩
  rcases a130 h (by omega) p130 with ⟨a, _⟩ | ⟨_, ⟨b, ey, e⟩ | ⟨b, ⟨d, ey, e⟩ | ⟨d, v, ey, v0, v1, hD, m, e7, K, F⟩⟩⟩
  · exact absurd ⟨m5, k12, k13⟩ a
  · have e12 : u12.toInt = u13.toInt := by
      refine Decidable.byContradiction (fun ne => b ⟨ne, ⟨by omega, by omega⟩, by omega, by omega⟩)
    exact q h8 h11 (same e) (Or.inl ⟨e12, by rw [ev, ey]; exact hv1⟩)
  · rcases hv b.1 with ⟨_, z⟩ | ⟨z, _⟩
    · exact absurd z d
    · exact q h8 h11 (same e) (Or.inr (Or.inl ⟨b.1, z, by rw [ev, ey]; exact hv2⟩))
  · rcases hv b.1 with ⟨z, _⟩ | ⟨_, z⟩
    rotate_left
    · exact absurd d z
    have tv : v6.toInt = v.toInt := by rw [ev, ey]; exact l32 (by omega) (by omega)
    refine q h8 h11 ⟨n, N, c, k, tc τ, hD, LI.ko (c := c) l h.1 g F K (fun o j a b' c' => e7 o j a b' (by omega)) m, iv2, by omega, b2, by omega, t0.1, kT_tc K, K.2.2.1⟩ (Or.inr (Or.inr ⟨b.1, z, by omega, by omega⟩))
theorem s775 {G : Prop} {IV : mS → Prop} {u8 u10 u11 u12 u13 u14 : Int32} {τ : mS} {w : mX} {σ' : mS} (q : T775 (Z801 IV G) u8 u10 u11 u12 u13 u14 τ w σ') : Z775 IV G u8 u10 u11 u12 u13 u14 τ := by
  intro h8 h10 h11 p k12 k13 hv
  have p' := p
  obtain ⟨n, N, c, k, h, l, iv, b1, b2, b3⟩ := p'
  have m5 := mb95 h10
  have i0 := i_0
  have i1 : (Int32.ofInt 1).toInt ≠ 0 := by decide
  rcases q with ⟨v3, p2, q⟩ | ⟨b, p2, _⟩
  rotate_left
  · obtain ⟨_, v, e, _⟩ := a182 h.1 p2
    cases e
  obtain ⟨_, v, e, hv3⟩ := a182 h.1 p2
  cases e
  rcases q with ⟨z, q⟩ | ⟨z, q⟩
  · refine q h8 h10 h11 p k12 k13 (fun ne => Or.inr ⟨i1, fun x => ?_⟩)
    rcases hv3 with ⟨y, _⟩ | ⟨_, _, y⟩
    · exact absurd y z
    · exact y x.1
  have fl : nfl τ (u10 / Int32.ofInt 9 - u10 / Int32.ofInt 9 / Int32.ofInt 5 * Int32.ofInt 5) := by
    rcases hv3 with ⟨_, y⟩ | ⟨y, _⟩
    · exact y m5
    · exact absurd y z
  rcases q with ⟨y, q⟩ | ⟨y, q⟩
  · refine q h8 h10 h11 p k12 k13 (fun ne => ?_)
    rcases hv ne with ⟨_, x⟩ | ⟨x, _⟩
    · exact Or.inl ⟨i0, fl, x.1, x.2⟩
    · exact absurd y x
  · refine q h8 h10 h11 p k12 k13 (fun ne => ?_)
    rcases hv ne with ⟨x, _⟩ | ⟨_, x⟩
    · exact absurd x y
    · exact Or.inr ⟨i1, fun c => x ⟨c.2.1, c.2.2⟩⟩
/-- is an instrument in an auction? -/
theorem au140 {n : Int} {N : Nat} {x : Int32} {σ : mS} {w : mX} (h : HI n N σ) (hx : ik x) (p : P140 σ x w σ) : ∃ v : Int32, w = .inl (some (.inl v)) ∧ (v - v / Int32.ofInt 10 * Int32.ofInt 10).toInt = pv σ x.toNatClampNeg 1 ∧ (pv σ x.toNatClampNeg 1 = 0 ∨ pv σ x.toNatClampNeg 1 = 1) := by
  obtain ⟨_, ⟨y, _⟩ | ⟨_, v, e, ev⟩⟩ := a140 h p
  · exact absurd hx y
  have nn := i_nat hx.1
  obtain ⟨o1, o2, _⟩ := h.po x.toNatClampNeg (by have := hx.2; omega)
  have o1 : 0 ≤ pv σ x.toNatClampNeg 1 ∧ pv σ x.toNatClampNeg 1 ≤ 1 := o1
  have o2 : 0 ≤ pv σ x.toNatClampNeg 2 ∧ pv σ x.toNatClampNeg 2 ≤ 9999 := o2
  refine ⟨v, e, ?_, by omega⟩
  rw [md32 (by omega) (by rw [i_10]; decide), i_10]
  omega
theorem s714 {G : Prop} {IV : mS → Prop} (hI : IVc IV) {u8 u9 u10 u11 : Int32} {τ : mS} {w : mX} {σ' : mS} (q : T714 (Z775 IV G) (Z925 IV G) u8 u9 u10 u11 τ w σ') : Z214 IV G u8 u9 u10 u11 τ := by
  intro h8 h9 h10 h11 p
  have p' := p
  obtain ⟨n, N, c, k, h, l, iv, b1, b2, b3⟩ := p'
  have hl : HL τ := ⟨h.1.1, l.gh⟩
  have c61 := h8.2
  have i0 := i_0
  have i1 : (Int32.ofInt 1).toInt ≠ 0 := by decide
  rcases q with ⟨_, q⟩ | ⟨_, n7, e7, n11, e11, q⟩
  · rcases q with ⟨v, σ, r, p, q⟩ | ⟨b, p, _⟩
    · exact g925 h8 h11.1 b1 b2 b3 (a189 h (by omega) (by omega) l h10.1 p) (hI.1 189 _ _ _ _ rfl rfl hl iv r) q
    · exact absurd (a189 h (by omega) (by omega) l h10.1 p) RES_x
  have v7 : n7.toInt = u10.toInt % 3 := by rw [e7, md32 h10.1 (by rw [i_3]; decide), i_3]
  have d3 : (u10 / Int32.ofInt 3).toInt = u10.toInt / 3 := by rw [dv32 h10.1 (by rw [i_3]; decide), i_3]
  have v11 : n11.toInt = u10.toInt / 3 % 3 := by rw [e11, md32 (by rw [d3]; omega) (by rw [i_3]; decide), i_3, d3]
  have k7 : ik n7 := ⟨by omega, by omega⟩
  have k11 : ik n11 := ⟨by omega, by omega⟩
  rcases q with ⟨a, q⟩ | ⟨a, q⟩
  · exact q h8 h10.1 h11.1 p k7 k11 (fun ne => absurd a ne)
  rcases q with ⟨v14, p14, q⟩ | ⟨b, p14, _⟩
  rotate_left
  · obtain ⟨v, e, _⟩ := au140 h.1 k7 p14
    cases e
  obtain ⟨v, e, m14, z14⟩ := au140 h.1 k7 p14
  cases e
  rcases q with ⟨x, q⟩ | ⟨x, q⟩
  · exact q h8 h10.1 h11.1 p k7 k11 (fun ne => Or.inr ⟨i1, fun z => by omega⟩)
  rcases q with ⟨v20, p20, q⟩ | ⟨b, p20, _⟩
  rotate_left
  · obtain ⟨v, e, _⟩ := au140 h.1 k11 p20
    cases e
  obtain ⟨v, e, m20, z20⟩ := au140 h.1 k11 p20
  cases e
  rcases q with ⟨y, q⟩ | ⟨y, q⟩
  · exact q h8 h10.1 h11.1 p k7 k11 (fun ne => Or.inl ⟨i0, by omega, by omega⟩)
  · exact q h8 h10.1 h11.1 p k7 k11 (fun ne => Or.inr ⟨i1, fun z => by omega⟩)
