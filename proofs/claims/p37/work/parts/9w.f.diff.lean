/-! differences: how many -/
abbrev B87_12 (c1 : Nat) (c2 : mR) (ih : Int32 → Int32 → Int32 → mS → Int32 → mS → Prop) (u2 : Int32) (u3 : Int32) (u4 : Int32) (τ : mS) (w : Int32) (σ' : mS) : Prop := (((960 : Int) ≤ (u4).toInt ∧ w = (u2) ∧ σ' = τ) ∨ (¬ ((960 : Int) ≤ (u4).toInt) ∧ (((u3).toInt = (-1 : Int) ∧ w = (u2) ∧ σ' = τ) ∨ (¬ ((u3).toInt = (-1 : Int)) ∧ ∃ v3 σ4, fw_e w86 τ σ4 ∧ P86 τ (c1) (c2) (u3) v3 σ4 ∧ ih ((u2) + Int32.ofInt 1) (v3) ((u4) + Int32.ofInt 1) σ4 w σ'))))
def Q87_12 (c1 : Nat) (c2 : mR) : Nat → Int32 → Int32 → Int32 → mS → Int32 → mS → Prop
  | 0 => fun _ _ _ _ _ _ => False
  | n + 1 => B87_12 c1 c2 (Q87_12 c1 c2 n)
theorem q87_12 {F : Nat} {σ' : mS} {c1 : Nat} {c2 : mR} {w : Int32} : ∀ N f, f < N → ∀ (u2 : Int32) (u3 : Int32) (u4 : Int32) (τ : mS), HS τ → EV F f 87 z87 12 [some (rf 5 (c1)), some (.inr (.inr (c2))), some (.inl (u2)), some (.inl (u3)), some (.inl (u4))] [] τ (.inl (some (.inl w)), σ') → Q87_12 c1 c2 N u2 u3 u4 τ w σ' := by
  intro N
  induction N with
  | zero => intro f hf; omega
  | succ N IH =>
    intro f hf0 u2 u3 u4 τ hsτ h
    have hf : f < N + 1 := hf0
    clear hf0
    show B87_12 c1 c2 (Q87_12 c1 c2 N) u2 u3 u4 τ w σ'
    replace h := ei_p h rfl rfl rfl rfl
    obtain ⟨f, g, h⟩ := h
    replace hf := Nat.lt_of_lt_of_le g (Nat.le_of_lt_succ hf)
    clear g
    replace h : EV F f 87 z87 14 [some (rf 5 (c1)), some (.inr (.inr (c2))), some (.inl (u2)), some (.inl (u3)), some (.inl (u4))] [.inl (u4)] τ (.inl (some (.inl w)), σ') := h
    replace h := ei_p h rfl rfl rfl rfl
    obtain ⟨f, g, h⟩ := h
    replace hf := Nat.lt_trans g hf
    clear g
    replace h : EV F f 87 z87 17 [some (rf 5 (c1)), some (.inr (.inr (c2))), some (.inl (u2)), some (.inl (u3)), some (.inl (u4))] [.inl (Int32.ofInt 960), .inl (u4)] τ (.inl (some (.inl w)), σ') := h
    replace h := ei_c h rfl rfl rfl
    rcases h with ⟨hp1, f, g, h⟩ | ⟨hp1, f, g, h⟩
    · skip
      replace hp1 : (960 : Int) ≤ (u4).toInt := ic_ge.mp hp1
      refine Or.inl ⟨hp1, ?_⟩
      replace hf := Nat.lt_trans g hf
      clear g
      replace h : EV F f 87 z87 41 [some (rf 5 (c1)), some (.inr (.inr (c2))), some (.inl (u2)), some (.inl (u3)), some (.inl (u4))] [] τ (.inl (some (.inl w)), σ') := h
      replace h := ei_p h rfl rfl rfl rfl
      obtain ⟨f, g, h⟩ := h
      replace hf := Nat.lt_trans g hf
      clear g
      replace h : EV F f 87 z87 42 [some (rf 5 (c1)), some (.inr (.inr (c2))), some (.inl (u2)), some (.inl (u3)), some (.inl (u4))] [.inl (u2)] τ (.inl (some (.inl w)), σ') := h
      have e := ei_iret h rfl
      cases e
      exact ⟨rfl, rfl⟩
    · skip
      replace hp1 : ¬ ((960 : Int) ≤ (u4).toInt) := (not_congr ic_ge).mp hp1
      refine Or.inr ⟨hp1, ?_⟩
      replace hf := Nat.lt_trans g hf
      clear g
      replace h : EV F f 87 z87 20 [some (rf 5 (c1)), some (.inr (.inr (c2))), some (.inl (u2)), some (.inl (u3)), some (.inl (u4))] [] τ (.inl (some (.inl w)), σ') := h
      replace h := ei_p h rfl rfl rfl rfl
      obtain ⟨f, g, h⟩ := h
      replace hf := Nat.lt_trans g hf
      clear g
      replace h : EV F f 87 z87 21 [some (rf 5 (c1)), some (.inr (.inr (c2))), some (.inl (u2)), some (.inl (u3)), some (.inl (u4))] [.inl (u3)] τ (.inl (some (.inl w)), σ') := h
      replace h := ei_p h rfl rfl rfl rfl
      obtain ⟨f, g, h⟩ := h
      replace hf := Nat.lt_trans g hf
      clear g
      replace h : EV F f 87 z87 22 [some (rf 5 (c1)), some (.inr (.inr (c2))), some (.inl (u2)), some (.inl (u3)), some (.inl (u4))] [.inl (Int32.ofInt (-1)), .inl (u3)] τ (.inl (some (.inl w)), σ') := h
      replace h := ei_c h rfl rfl rfl
      rcases h with ⟨hp2, f, g, h⟩ | ⟨hp2, f, g, h⟩
      · skip
        replace hp2 : (u3).toInt = (-1 : Int) := ic_eq.mp hp2
        refine Or.inl ⟨hp2, ?_⟩
        replace hf := Nat.lt_trans g hf
        clear g
        replace h : EV F f 87 z87 41 [some (rf 5 (c1)), some (.inr (.inr (c2))), some (.inl (u2)), some (.inl (u3)), some (.inl (u4))] [] τ (.inl (some (.inl w)), σ') := h
        replace h := ei_p h rfl rfl rfl rfl
        obtain ⟨f, g, h⟩ := h
        replace hf := Nat.lt_trans g hf
        clear g
        replace h : EV F f 87 z87 42 [some (rf 5 (c1)), some (.inr (.inr (c2))), some (.inl (u2)), some (.inl (u3)), some (.inl (u4))] [.inl (u2)] τ (.inl (some (.inl w)), σ') := h
        have e := ei_iret h rfl
        cases e
        exact ⟨rfl, rfl⟩
      · skip
        replace hp2 : ¬ ((u3).toInt = (-1 : Int)) := (not_congr ic_eq).mp hp2
        refine Or.inr ⟨hp2, ?_⟩
        replace hf := Nat.lt_trans g hf
        clear g
        replace h : EV F f 87 z87 25 [some (rf 5 (c1)), some (.inr (.inr (c2))), some (.inl (u2)), some (.inl (u3)), some (.inl (u4))] [] τ (.inl (some (.inl w)), σ') := h
        replace h := ei_p h rfl rfl rfl rfl
        obtain ⟨f, g, h⟩ := h
        replace hf := Nat.lt_trans g hf
        clear g
        replace h : EV F f 87 z87 28 [some (rf 5 (c1)), some (.inr (.inr (c2))), some (.inl ((u2) + Int32.ofInt 1)), some (.inl (u3)), some (.inl (u4))] [] τ (.inl (some (.inl w)), σ') := h
        replace h := ei_p h rfl rfl rfl rfl
        obtain ⟨f, g, h⟩ := h
        replace hf := Nat.lt_trans g hf
        clear g
        replace h : EV F f 87 z87 29 [some (rf 5 (c1)), some (.inr (.inr (c2))), some (.inl ((u2) + Int32.ofInt 1)), some (.inl (u3)), some (.inl (u4))] [rf 5 (c1)] τ (.inl (some (.inl w)), σ') := h
        replace h := ei_p h rfl rfl rfl rfl
        obtain ⟨f, g, h⟩ := h
        replace hf := Nat.lt_trans g hf
        clear g
        replace h : EV F f 87 z87 30 [some (rf 5 (c1)), some (.inr (.inr (c2))), some (.inl ((u2) + Int32.ofInt 1)), some (.inl (u3)), some (.inl (u4))] [.inr (.inr (c2)), rf 5 (c1)] τ (.inl (some (.inl w)), σ') := h
        replace h := ei_p h rfl rfl rfl rfl
        obtain ⟨f, g, h⟩ := h
        replace hf := Nat.lt_trans g hf
        clear g
        replace h : EV F f 87 z87 31 [some (rf 5 (c1)), some (.inr (.inr (c2))), some (.inl ((u2) + Int32.ofInt 1)), some (.inl (u3)), some (.inl (u4))] [.inl (u3), .inr (.inr (c2)), rf 5 (c1)] τ (.inl (some (.inl w)), σ') := h
        replace h := bk_I (ei_v (as := [.inl (u3), .inr (.inr (c2))]) h rfl rfl rfl) rfl z86_at (Or.inl rfl)
        obtain ⟨v3, σ4, r5, f, g, h⟩ := h
        replace hf := Nat.lt_trans g hf
        clear g
        have p6 := x86 hsτ r5
        have hsσ4 : HS σ4 := HS_run rfl r5 hsτ
        refine ⟨v3, σ4, fw_run W86 rfl r5, p6, ?_⟩
        replace h : EV F f 87 z87 34 [some (rf 5 (c1)), some (.inr (.inr (c2))), some (.inl ((u2) + Int32.ofInt 1)), some (.inl (u3)), some (.inl (u4))] [.inl (v3)] σ4 (.inl (some (.inl w)), σ') := h
        replace h := ei_p h rfl rfl rfl rfl
        obtain ⟨f, g, h⟩ := h
        replace hf := Nat.lt_trans g hf
        clear g
        replace h : EV F f 87 z87 35 [some (rf 5 (c1)), some (.inr (.inr (c2))), some (.inl ((u2) + Int32.ofInt 1)), some (.inl (v3)), some (.inl (u4))] [] σ4 (.inl (some (.inl w)), σ') := h
        replace h := ei_p h rfl rfl rfl rfl
        obtain ⟨f, g, h⟩ := h
        replace hf := Nat.lt_trans g hf
        clear g
        replace h : EV F f 87 z87 38 [some (rf 5 (c1)), some (.inr (.inr (c2))), some (.inl ((u2) + Int32.ofInt 1)), some (.inl (v3)), some (.inl ((u4) + Int32.ofInt 1))] [] σ4 (.inl (some (.inl w)), σ') := h
        replace h := ei_p h rfl rfl rfl rfl
        obtain ⟨f, g, h⟩ := h
        replace hf := Nat.lt_trans g hf
        clear g
        replace h : EV F f 87 z87 12 [some (rf 5 (c1)), some (.inr (.inr (c2))), some (.inl ((u2) + Int32.ofInt 1)), some (.inl (v3)), some (.inl ((u4) + Int32.ofInt 1))] [] σ4 (.inl (some (.inl w)), σ') := h
        exact IH f hf ((u2) + Int32.ofInt 1) (v3) ((u4) + Int32.ofInt 1) σ4 hsσ4 h
def R87 (σ : mS) (a : Nat) (x1 : mR) (w : Int32) (σ' : mS) : Prop := ∃ v1 σ2, fw_e w86 σ σ2 ∧ P86 σ (a) (x1) (Int32.ofInt (-1)) v1 σ2 ∧ ∃ n, Q87_12 (a) (x1) n (Int32.ofInt 0) (v1) (Int32.ofInt 0) σ2 w σ'
theorem y87 {σ σ' : mS} {a : Nat} {x1 : mR} {w : Int32} (hs : HS σ) (h : ev_run sm_all 87 [rf 5 (a), .inr (.inr (x1))] σ (.inl (some (.inl w))) σ') : R87 σ a x1 w σ' := by
  unfold R87
  obtain ⟨F, f, h⟩ := ei_go h z87_at
  replace h : EV F f 87 z87 0 [some (rf 5 (a)), some (.inr (.inr (x1))), none, none, none] [] σ (.inl (some (.inl w)), σ') := h
  replace h := ei_p h rfl rfl rfl rfl
  obtain ⟨f, g, h⟩ := h
  clear g
  replace h : EV F f 87 z87 1 [some (rf 5 (a)), some (.inr (.inr (x1))), none, none, none] [.inl (Int32.ofInt 0)] σ (.inl (some (.inl w)), σ') := h
  replace h := ei_p h rfl rfl rfl rfl
  obtain ⟨f, g, h⟩ := h
  clear g
  replace h : EV F f 87 z87 2 [some (rf 5 (a)), some (.inr (.inr (x1))), some (.inl (Int32.ofInt 0)), none, none] [] σ (.inl (some (.inl w)), σ') := h
  replace h := ei_p h rfl rfl rfl rfl
  obtain ⟨f, g, h⟩ := h
  clear g
  replace h : EV F f 87 z87 3 [some (rf 5 (a)), some (.inr (.inr (x1))), some (.inl (Int32.ofInt 0)), none, none] [rf 5 (a)] σ (.inl (some (.inl w)), σ') := h
  replace h := ei_p h rfl rfl rfl rfl
  obtain ⟨f, g, h⟩ := h
  clear g
  replace h : EV F f 87 z87 4 [some (rf 5 (a)), some (.inr (.inr (x1))), some (.inl (Int32.ofInt 0)), none, none] [.inr (.inr (x1)), rf 5 (a)] σ (.inl (some (.inl w)), σ') := h
  replace h := ei_p h rfl rfl rfl rfl
  obtain ⟨f, g, h⟩ := h
  clear g
  replace h : EV F f 87 z87 5 [some (rf 5 (a)), some (.inr (.inr (x1))), some (.inl (Int32.ofInt 0)), none, none] [.inl (Int32.ofInt (-1)), .inr (.inr (x1)), rf 5 (a)] σ (.inl (some (.inl w)), σ') := h
  replace h := bk_I (ei_v (as := [.inl (Int32.ofInt (-1)), .inr (.inr (x1))]) h rfl rfl rfl) rfl z86_at (Or.inl rfl)
  obtain ⟨v1, σ2, r3, f, g, h⟩ := h
  clear g
  have p4 := x86 hs r3
  have hsσ2 : HS σ2 := HS_run rfl r3 hs
  refine ⟨v1, σ2, fw_run W86 rfl r3, p4, ?_⟩
  replace h : EV F f 87 z87 8 [some (rf 5 (a)), some (.inr (.inr (x1))), some (.inl (Int32.ofInt 0)), none, none] [.inl (v1)] σ2 (.inl (some (.inl w)), σ') := h
  replace h := ei_p h rfl rfl rfl rfl
  obtain ⟨f, g, h⟩ := h
  clear g
  replace h : EV F f 87 z87 9 [some (rf 5 (a)), some (.inr (.inr (x1))), some (.inl (Int32.ofInt 0)), some (.inl (v1)), none] [] σ2 (.inl (some (.inl w)), σ') := h
  replace h := ei_p h rfl rfl rfl rfl
  obtain ⟨f, g, h⟩ := h
  clear g
  replace h : EV F f 87 z87 10 [some (rf 5 (a)), some (.inr (.inr (x1))), some (.inl (Int32.ofInt 0)), some (.inl (v1)), none] [.inl (Int32.ofInt 0)] σ2 (.inl (some (.inl w)), σ') := h
  replace h := ei_p h rfl rfl rfl rfl
  obtain ⟨f, g, h⟩ := h
  clear g
  replace h : EV F f 87 z87 12 [some (rf 5 (a)), some (.inr (.inr (x1))), some (.inl (Int32.ofInt 0)), some (.inl (v1)), some (.inl (Int32.ofInt 0))] [] σ2 (.inl (some (.inl w)), σ') := h
  exact ⟨f + 1, q87_12 (f + 1) f (Nat.lt_succ_self f) (Int32.ofInt 0) (v1) (Int32.ofInt 0) σ2 hsσ2 h⟩
theorem q87_s {c1 : Nat} {c2 : mR} : ∀ n (u2 u3 u4 : Int32) (τ : mS) (w : Int32) (σ' : mS), Q87_12 c1 c2 n u2 u3 u4 τ w σ' → 0 ≤ u2.toInt → u2.toInt ≤ u4.toInt → u4.toInt ≤ 960 → 0 ≤ w.toInt := by
  intro n
  induction n with
  | zero => intro u2 u3 u4 τ w σ' h; exact h.elim
  | succ n IH =>
    intro u2 u3 u4 τ w σ' h h1 h2 h3
    have h : B87_12 c1 c2 (Q87_12 c1 c2 n) u2 u3 u4 τ w σ' := h
    rcases h with ⟨_, rfl, _⟩ | ⟨hh, ⟨_, rfl, _⟩ | ⟨_, v3, σ4, _, _, h⟩⟩
    · exact h1
    · exact h1
    · have e1 := i_inc (a := u2) h1 (by omega)
      have e2 := i_inc (a := u4) (by omega) (by omega)
      exact IH _ _ _ _ _ _ h (by omega) (by omega) (by omega)
theorem r87 {σ σ' : mS} {a : Nat} {x : mR} {w : Int32} (p : R87 σ a x w σ') : 0 ≤ w.toInt := by
  obtain ⟨v1, σ2, _, _, n, hq⟩ := p
  exact q87_s n _ _ _ _ _ _ hq (by rw [i_0]; omega) (by rw [i_0]; omega) (by rw [i_0]; omega)
/-- a reader that is right finds no difference -/
theorem w0 {σ σ' : mS} {r t n m x : Nat} {w : Int32} (hs : HS σ) (hr : r < 2) (ht : t < 2) (hd : rd σ r n x) (ht' : tb σ t m) (h9 : n + m < 960) (he : ∀ k, -1 < k → ∀ v, pM m (lK σ (6 + 2 * t)) (lQ σ (7 + 2 * t)) k v → pM n (rK σ r) (rQ σ r) k v) (p : P87 σ (2 + r) (some (5, t)) w σ') : w = Int32.ofInt 0 ∧ σ' = σ := by
  obtain ⟨d1, _, _⟩ := hd
  obtain ⟨e1, e2⟩ := s87 (lv_HS hs (by omega) d1.1.1 d1.1.2) d1.2.1 (lv_HS hs (by omega) ht'.1.1 ht'.1.2) ht'.2.1 h9 d1.2.2 ht'.2.2 (fun k hk v u g1 g2 => pM_uni d1.2.1 g1 (he k hk u g2)) p
  cases e1
  exact ⟨rfl, e2⟩
/-- a reader copies all -/
theorem c57 {σ σ' : mS} {r t m c n x : Nat} {w : Int32} (hs : HS σ) (hr : r < 2) (ht : t < 2) (r4 : m_r σ 3 0 4 = some (5, t)) (ht' : tb σ t m) (hz : ∀ i, i < m → lQ σ (7 + 2 * t) i ≠ 0) (hM : (m_i σ 3 0 5).toInt = c) (hd : rd σ r n x) (p : P57 σ (some (9, r)) w σ') : w.toInt = m ∧ rd σ' r m c ∧ (∀ k v, pM m (lK σ (6 + 2 * t)) (lQ σ (7 + 2 * t)) k v → pM m (rK σ' r) (rQ σ' r) k v) ∧ (∀ i j, i ≠ 6 + 2 * (2 + r) → i ≠ 7 + 2 * (2 + r) → m_i σ' 13 i j = m_i σ 13 i j) ∧ (∀ i, i ≠ 2 + r → m_i σ' 5 i 2 = m_i σ 5 i 2) ∧ (∀ i, i ≠ r → m_i σ' 9 i 1 = m_i σ 9 i 1) := by
  obtain ⟨d1, _, _⟩ := hd
  have g4 : m_get σ 3 0 4 = rf 5 t := by
    show (.inr (.inr (m_r σ 3 0 4)) : mV) = .inr (.inr (some (5, t)))
    rw [r4]
  obtain ⟨v, τ, e1, e2, e3, F, V, C⟩ := s57 (t := 0) (rd := r) g4 (HS_c9 hs r hr) (lv_HS hs (by omega) d1.1.1 d1.1.2) (lv_HS hs (by omega) ht'.1.1 ht'.1.2) (by omega) (by omega) (by omega) (by omega) p
  cases e1
  have ne5 : ∀ i, i ≠ 2 + r → m_i τ 5 i 2 = m_i σ 5 i 2 := fun i hi => (F.2.2 5 i 2 (fun z => by
    rcases z with z | z
    · exact hi z.2.1
    · exact absurd z.1 (by decide))).1
  have e5 : ∀ i, m_i σ' 5 i 2 = m_i τ 5 i 2 := fun i => by rw [e3, mi_si, if_neg (fun z => by cases z.1)]
  have e13 : ∀ i j, m_i σ' 13 i j = m_i τ 13 i j := fun i j => by rw [e3, mi_si, if_neg (fun z => by cases z.1)]
  have kk : ∀ j, j < m → rK σ' r j = lK σ (6 + 2 * t) j := fun j hj => by
    show (m_i σ' 13 _ j).toInt = (m_i σ 13 _ j).toInt
    rw [e13, (C j hj).1]
  have qq : ∀ j, j < m → rQ σ' r j = lQ σ (7 + 2 * t) j := fun j hj => by
    show (m_i σ' 13 _ j).toInt = (m_i σ 13 _ j).toInt
    rw [e13, (C j hj).2]
  refine ⟨?_, ⟨⟨⟨?_, ht'.1.2⟩, fun i j a b => ?_, fun i hi => ?_⟩, fun i hi => ?_, ?_⟩, fun k v g => ?_, fun i j a b => ?_, fun i hi => (e5 i).trans (ne5 i hi), fun i hi => ?_⟩
  · rw [e2, ne5 t (by omega)]; exact ht'.1.1
  · rw [e5]; exact V.2.2.2.2.1
  · have := ht'.2.1 i j a b
    have k1 := kk i (by omega)
    have k2 := kk j b
    show rK σ' r i < rK σ' r j
    omega
  · have := ht'.2.2 i hi
    have k1 := kk i hi
    show 0 ≤ rK σ' r i ∧ rK σ' r i < 1000000
    omega
  · have := hz i hi
    have k1 := qq i hi
    show rQ σ' r i ≠ 0
    omega
  · rw [e3, mi_si, if_pos ⟨rfl, rfl, rfl⟩]; exact hM
  · rcases g with ⟨i, i1, i2, i3⟩ | ⟨g1, g2⟩
    · exact Or.inl ⟨i, i1, (kk i i1).trans i2, (qq i i1).trans i3⟩
    · exact Or.inr ⟨fun i hi => by rw [kk i hi]; exact g1 i hi, g2⟩
  · rw [e13]
    exact (F.2.2 13 i j (fun z => by
      rcases z with z | z
      · exact absurd z.1 (by decide)
      · rcases z.2 with y | y
        · exact a y
        · exact b y)).1
  · rw [e3, mi_si, if_neg (fun z => hi z.2.1)]
    exact (F.2.2 9 i 1 (fun z => by rcases z with z | z <;> exact absurd z.1 (by decide))).1
