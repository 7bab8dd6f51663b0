/-! the law: deposits and payments into the fund -/
theorem l_eq {a b : Int64} (h : a.toInt = b.toInt) : a = b := Int64.toInt_inj.mp h
def there (x3 its : Int32) : Prop := its.toInt < 5 ∧ (0 ≤ its.toInt ∨ x3.toInt = 1)
theorem s183_166 {n : Int} {N c : Nat} {k : Kt} {u6 its t0 t2 : Int32} {v1 : Int64} {w : mX} {τ σ' : mS} (h : D n N c k τ) (hm : mh its) (h0 : t0.toInt = 1 ∨ t0.toInt = 2) (h2 : t2.toInt = 20) (e : v1 = m_l τ 6 (hx its) (if t0.toInt = 1 then 3 else 4)) (hb : u6.toInt ≤ v1.toInt) (p : J183_166 u6 v1 t0 its t2 v1 τ w σ') : OKw w ∧ σ' = τ := by
  obtain ⟨v, σ2, gf, hl, p172, hh⟩ := p
  obtain ⟨y, p145, _, _, ev⟩ := d172_20 h2 p172
  obtain ⟨e2, ⟨a, _⟩ | ⟨_, ⟨a, _⟩ | ⟨_, v', ey, r0, r1, r2⟩⟩⟩ := a145 p145
  · exact absurd hm a
  · exact absurd ⟨by omega, by omega⟩ a
  · subst e2
    subst ey
    have vv : v = v1 := by
      rw [ev, e]
      show v' = _
      rcases h0 with h0 | h0
      · rw [if_pos h0]; exact r1 h0
      · rw [if_neg (by omega)]; exact r2 h0
    rcases hh with ⟨a, _⟩ | ⟨_, ⟨a, _⟩ | ⟨_, hw, e3⟩⟩
    · rw [vv] at a
      exact absurd rfl a
    · rw [i64] at a
      omega
    · exact ⟨by rw [hw]; exact ok1, e3⟩
theorem s183_104 {u6 u9 : Int32} {u7 : Int64} {w : mX} {τ σ' : mS} (e : u7.toInt = if u9.toInt = 0 then -3000000000 else if u6.toInt = 0 then -2000000000 else -1000000000) (p : J183_104 u6 u7 u9 τ w σ') : OKw w ∧ σ' = τ := by
  have fin : ∀ t0 : Int64, u7.toInt = t0.toInt → J183_131 t0 u7 τ w σ' → OKw w ∧ σ' = τ := by
    intro t0 ht q
    rcases q with ⟨a, _⟩ | ⟨_, hw, e⟩
    · exact absurd ht a
    · exact ⟨by rw [hw]; exact ok1, e⟩
  rcases p with ⟨a, ⟨b, q⟩ | ⟨b, q⟩⟩ | ⟨a, q⟩
  · rw [if_neg a, if_neg b] at e
    exact fin _ (by rw [e, litC]) q
  · rw [if_neg a, if_pos (Decidable.of_not_not b)] at e
    exact fin _ (by rw [e, litB]) q
  · rw [if_pos (Decidable.of_not_not a)] at e
    exact fin _ (by rw [e, litA]) q
/-- a call that leaves orders, splits, members' failures, scenarios alone -/
theorem LI.kq {w : Nat → Nat → Bool} {N : Nat} {k : Kt} {T : Int} {d d' : Int64} {σ σ' : mS} (h : LI N k T d σ) (g : gF σ σ') (F : fw_e w σ σ') (c : ((List.range 13).all (fun k => fwh w 7 k) && ((fwh w 8 5 && fwh w 8 6) && (fwh w 6 9 && fwh w 2 6))) = true) (em : m_l σ 14 6 0 + d' = sm σ') (ep : ∀ j, ps σ' j = ps σ j) (ho : hO σ N) : LI N k T d' σ' := by
  obtain ⟨c1, c2⟩ := Bool.and_eq_true_iff.mp c
  obtain ⟨c3, c4⟩ := Bool.and_eq_true_iff.mp c2
  obtain ⟨c5, c6⟩ := Bool.and_eq_true_iff.mp c3
  obtain ⟨c7, c8⟩ := Bool.and_eq_true_iff.mp c4
  have c1 := List.all_eq_true.mp c1
  refine h.keep g (fun o k _ _ h2 => (F.2 7 o k (c1 k (List.mem_range.mpr (by omega)))).1) (fun o _ => ?_) (fun i _ => ⟨(F.2 8 i 5 c5).1, (F.2 8 i 6 c6).1⟩) ?_ em ep (F.2 2 0 6 c8).1 ho (fun o _ => Or.inl (congrArg Int32.toInt (F.2 7 o 9 (c1 9 (List.mem_range.mpr (by omega)))).1))
  · show (m_i σ' 7 o 6).toInt ≤ _
    rw [(F.2 7 o 6 (c1 6 (List.mem_range.mpr (by omega)))).1]
    exact Int.le_refl _
  · rw [nF_of (fun i => (F.2 6 i 9 c7).1)]
    exact Int.le_refl _
/-- what became of a payment -/
def O183 (n : Int) (N c : Nat) (k : Kt) (σ : mS) (x3 its amt : Int32) (v1 : Int64) (σ2 : mS) : Prop :=
  (¬ there x3 its ∧ v1.toInt = -3000000000 ∧ σ2 = σ) ∨ (there x3 its ∧ amt.toInt = 0 ∧ v1.toInt = -2000000000 ∧ σ2 = σ) ∨ (there x3 its ∧ amt.toInt ≠ 0 ∧ (mb its ∧ ¬ nfl σ its) ∧ v1.toInt = -1000000000 ∧ σ2 = σ) ∨
  (there x3 its ∧ amt.toInt ≠ 0 ∧ (mb its → nfl σ its) ∧ D (n + 1) N c k σ2 ∧ fw_e (wl ((6, 3) :: (6, 4) :: (8, 7) :: LD)) σ σ2 ∧ sm σ2 = sm σ + amt.toInt64 ∧ v1 = m_l σ2 6 (hx its) (if x3.toInt = 0 then 3 else 4) ∧ amt.toInt ≤ v1.toInt)
theorem o183 {n : Int} {N c : Nat} {k : Kt} {x3 its amt : Int32} {v1 : Int64} {σ σ2 : mS} (h : S n N c k σ) (hn : n + 11 ≤ 300) (hc : c ≤ 900000) (h3 : x3.toInt = 0 ∨ x3.toInt = 1) (hi : -1 ≤ its.toInt ∧ its.toInt ≤ 5) (ha : 0 ≤ amt.toInt ∧ amt.toInt ≤ 1000000) {z5 z6 z7 z8 z9 : Int32} (p : P172 σ x3 its amt z5 z6 z7 z8 z9 (.inl (some (.inr (.inl v1)))) σ2) : O183 n N c k σ x3 its amt v1 σ2 := by
  unfold O183 there
  rcases h3 with h3 | h3
  · obtain ⟨y, p124, _, _, ev⟩ := d172_0 h3 p
    rcases a124 h hn hc p124 with ⟨a, ey, e⟩ | ⟨a, b, ey, e⟩ | ⟨a, b, d, ey, e⟩ | ⟨a, b, d, v, ey, hD, F, es, evv, hb⟩
    · exact Or.inl ⟨fun z => a ⟨by rcases z.2 with z | z <;> omega, z.1⟩, by rw [ev, ey]; exact hv0, e⟩
    · exact Or.inr (Or.inl ⟨⟨a.2, Or.inl a.1⟩, by omega, by rw [ev, ey]; exact hv1, e⟩)
    · exact Or.inr (Or.inr (Or.inl ⟨⟨a.2, Or.inl a.1⟩, by omega, ⟨a, d⟩, by rw [ev, ey]; exact hv2, e⟩))
    · refine Or.inr (Or.inr (Or.inr ⟨⟨a.2, Or.inl a.1⟩, by omega, fun _ => d, hD, wl_mono F (by decide), es, ?_, ?_⟩))
      · rw [ev, ey, if_pos h3]
        show v = _
        rw [evv]
        unfold hx
        rw [if_neg (by omega)]
      · rw [ev, ey]
        exact hb
  · obtain ⟨y, p125, _, _, ev⟩ := d172_1 h3 p
    rcases a125 h hn hc p125 with ⟨a, ey, e⟩ | ⟨a, b, ey, e⟩ | ⟨a, b, d, ey, e⟩ | ⟨a, b, d, v, ey, hD, F, es, evv, hb⟩
    · exact Or.inl ⟨fun z => a ⟨hi.1, z.1⟩, by rw [ev, ey]; exact hv0, e⟩
    · exact Or.inr (Or.inl ⟨⟨a.2, Or.inr h3⟩, by omega, by rw [ev, ey]; exact hv1, e⟩)
    · exact Or.inr (Or.inr (Or.inl ⟨⟨a.2, Or.inr h3⟩, by omega, ⟨⟨by omega, a.2⟩, d.2⟩, by rw [ev, ey]; exact hv2, e⟩))
    · refine Or.inr (Or.inr (Or.inr ⟨⟨a.2, Or.inr h3⟩, by omega, fun z => ?_, hD, wl_mono F (by decide), es, ?_, ?_⟩))
      · rcases d with d | d
        · have := z.1
          omega
        · exact d
      · rw [ev, ey, if_neg (by omega)]
        exact evv
      · rw [ev, ey]
        exact hb
theorem s183_44 {n : Int} {N c : Nat} {k : Kt} {x3 its amt : Int32} {w : mX} {σ σ' : mS} (h : S n N c k σ) (hn : n + 11 ≤ 300) (hc : c ≤ 900000) (l : LI N k (tc σ) 0 σ) (h3 : x3.toInt = 0 ∨ x3.toInt = 1) (hi : -1 ≤ its.toInt ∧ its.toInt ≤ 5) (ha : 0 ≤ amt.toInt ∧ amt.toInt ≤ 1000000) (p : J183_44 x3 its amt σ w σ') : RES n N c k w σ' := by
  have z0 := i_0
  have z1 := i_1
  obtain ⟨v1, σ2, gf, hl, p172, hh⟩ := p
  have O := o183 h hn hc h3 hi ha p172
  have core : ∀ t0 : Int32, (t0.toInt ≠ 0 ↔ there x3 its) → J183_83 x3 its amt v1 t0 σ2 w σ' → RES n N c k w σ' := by
    intro t0 ht q
    have no : σ2 = σ → (v1.toInt = if t0.toInt = 0 then -3000000000 else if amt.toInt = 0 then -2000000000 else -1000000000) → J183_104 amt v1 t0 σ2 w σ' → RES n N c k w σ' := by
      intro e e2 q
      obtain ⟨o, e3⟩ := s183_104 e2 q
      subst e3
      subst e
      exact RES_S h l o
    rcases O with ⟨a, ev, e⟩ | ⟨a, b, ev, e⟩ | ⟨a, b, d, ev, e⟩ | ⟨a, b, d, hD, F, es, ev, hb⟩
    · have t00 : t0.toInt = 0 := Decidable.of_not_not (fun z => a (ht.mp z))
      rcases q with ⟨_, q⟩ | ⟨z, _⟩
      · exact no e (by rw [if_pos t00]; exact ev) q
      · exact absurd t00 z
    · have t01 : t0.toInt ≠ 0 := ht.mpr a
      rcases q with ⟨z, _⟩ | ⟨_, ⟨_, q⟩ | ⟨z, _⟩⟩
      · exact absurd z t01
      · exact no e (by rw [if_neg t01, if_pos b]; exact ev) q
      · exact absurd b z
    · have t01 : t0.toInt ≠ 0 := ht.mpr a
      rcases q with ⟨z, _⟩ | ⟨_, ⟨z, q⟩ | ⟨_, ⟨v3, p182, q⟩ | ⟨bb, p182, _⟩⟩⟩
      · exact absurd z t01
      · exact absurd z b
      · subst e
        obtain ⟨_, v, e, ⟨_, f⟩ | ⟨f, _⟩⟩ := a182 h.1 p182
        · exact absurd (f d.1) d.2
        · cases e
          rcases q with ⟨z, _⟩ | ⟨_, q⟩
          · exact absurd z f
          · exact no rfl (by rw [if_neg t01, if_neg b]; exact ev) q
      · subst e
        obtain ⟨_, v, e, _⟩ := a182 h.1 p182
        cases e
    · have t01 : t0.toInt ≠ 0 := ht.mpr a
      have hm : mh its := ⟨hi.1, a.1⟩
      rcases q with ⟨z, _⟩ | ⟨_, ⟨z, q⟩ | ⟨_, ⟨v3, p182, q⟩ | ⟨bb, p182, _⟩⟩⟩
      · exact absurd z t01
      · exact absurd z b
      · obtain ⟨_, v, e, ⟨f, _⟩ | ⟨_, f1, f⟩⟩ := a182 hD.1 p182
        · cases e
          rcases q with ⟨_, _, σ10, e10, _, q⟩ | ⟨z, _⟩
          · rw [n_0] at e10
            have f9 : ∀ i, m_i σ2 6 i 9 = m_i σ 6 i 9 := fun i => (F.2 6 i 9 rfl).1
            have tcs : tc σ2 = tc σ := congrArg Int32.toInt (F.2 2 0 5 rfl).1
            have em : m_l σ 14 6 0 + amt.toInt64 = sm σ2 := by
              rw [es, l.d0]
            have ep : ∀ j, ps σ2 j = ps σ j := fun j => ps_fw F rfl
            have l2 : LI N k (tc σ) amt.toInt64 σ2 := l.kq gf F rfl em ep h.1.2.2.1
            have l3 : LI N k (tc σ) 0 σ10 := by rw [e10]; exact l2.wt rfl
            have D3 : D (n + 1) N c k σ10 := by rw [e10]; exact D_14 hD
            have tc3 : tc σ10 = tc σ := by rw [e10]; exact tcs
            have e6 : ∀ i k, m_l σ10 6 i k = m_l σ2 6 i k := fun i k => by rw [e10]; exact ml_14 (fun z => by cases z.1)
            have fin : ∀ t : Int32, (t.toInt = 1 ∨ t.toInt = 2) → (t.toInt = 1 ↔ x3.toInt = 0) → J183_166 amt v1 t its (Int32.ofInt 20) v1 σ10 w σ' → RES n N c k w σ' := by
              intro t t1 t2 q
              obtain ⟨o, e⟩ := s183_166 D3 hm t1 i_20 (by
                rw [e6, ev]
                by_cases z : x3.toInt = 0
                · rw [if_pos z, if_pos (t2.mpr z)]
                · rw [if_neg z, if_neg (fun y => z (t2.mp y))]) hb q
              subst e
              exact ⟨o, n + 1, N, k, by omega, by omega, Nat.le_refl _, by omega, Nat.le_refl _, by omega, D3, by rw [tc3]; exact l3⟩
            rcases q with ⟨z, q⟩ | ⟨z, q⟩
            · exact fin _ (Or.inr i_2) ⟨fun y => (by rw [i_2] at y; cases y), fun y => absurd y z⟩ q
            · exact fin _ (Or.inl z1) ⟨fun _ => Decidable.of_not_not z, fun _ => z1⟩ q
          · exact absurd f z
        · have : nfl σ2 its := by
            show (m_i σ2 6 _ 9).toInt = 0
            rw [(F.2 6 _ 9 rfl).1]
            exact d f1
          exact absurd this f
      · obtain ⟨_, v, e, _⟩ := a182 hD.1 p182
        cases e
  rcases hh with ⟨a, q⟩ | ⟨a, ⟨b, q⟩ | ⟨b, ⟨d, q⟩ | ⟨d, q⟩⟩⟩
  · exact core _ ⟨fun z => absurd z0 z, fun z => absurd a (by have := z.1; omega)⟩ q
  · exact core _ ⟨fun _ => ⟨by omega, Or.inl b⟩, fun _ => by rw [z1]; decide⟩ q
  · exact core _ ⟨fun z => absurd z0 z, fun z => by rcases z.2 with z | z; exact absurd z b; exact absurd z d⟩ q
  · exact core _ ⟨fun _ => ⟨by omega, Or.inr (Decidable.of_not_not d)⟩, fun _ => by rw [z1]; decide⟩ q
theorem a183 {n : Int} {N c : Nat} {k : Kt} {x3 x4 x5 : Int32} {w : mX} {σ σ' : mS} (h : S n N c k σ) (hn : n + 11 ≤ 300) (hc : c ≤ 900000) (l : LI N k (tc σ) 0 σ) (h3 : x3.toInt = 0 ∨ x3.toInt = 1) (b4 : 0 ≤ x4.toInt ∧ x4.toInt < 60000) (b5 : 0 ≤ x5.toInt ∧ x5.toInt < 70000) (p : P183 σ x3 x4 x5 w σ') : RES n N c k w σ' := by
  obtain ⟨n2, e2, hh⟩ := p
  have m7 : (x4 - x4 / Int32.ofInt 7 * Int32.ofInt 7).toInt = x4.toInt % 7 := by rw [md32 b4.1 (by rw [i_7]; decide), i_7]
  have v2 : n2.toInt = x4.toInt % 7 - 1 := by rw [e2, i_sub (by rw [m7, i_1]; omega) (by rw [m7, i_1]; omega), m7, i_1]
  have hi : -1 ≤ n2.toInt ∧ n2.toInt ≤ 5 := by omega
  have m11 : (x5 * Int32.ofInt 11).toInt = x5.toInt * 11 := by rw [i_mul (by rw [i_11]; omega) (by rw [i_11]; omega), i_11]
  have mc : (x5 - x5 / Int32.ofInt 100 * Int32.ofInt 100).toInt = x5.toInt % 100 := by rw [md32 b5.1 (by rw [i_100]; decide), i_100]
  rcases hh with ⟨_, ⟨_, q⟩ | ⟨_, q⟩⟩ | ⟨_, q⟩
  · exact s183_44 h hn hc l h3 hi (by rw [i_add (by rw [m11, i_1]; omega) (by rw [m11, i_1]; omega), m11, i_1]; omega) q
  · exact s183_44 h hn hc l h3 hi (by rw [i_add (by rw [mc, i_1]; omega) (by rw [mc, i_1]; omega), mc, i_1]; omega) q
  · exact s183_44 h hn hc l h3 hi (by rw [i_0]; omega) q
