/-! from a state of the analysis to one with unknowns of its own; frames, kinds and rooms that are changed -/
def ac_sub (es : List ab_E) (e : ab_E) : ab_E := match es[e.1]? with
  | some f => (f.1, f.2 + e.2)
  | none => e
def ac_subV (es : List ab_E) (v : ab_V) : ab_V := match v with
  | .inl e => .inl (ac_sub es e)
  | .inr (.inl e) => .inr (.inl (ac_sub es e))
  | .inr (.inr (.inl z)) => .inr (.inr (.inl (z.1, ac_sub es z.2.1, ac_sub es z.2.2)))
  | .inr (.inr (.inr q)) => .inr (.inr (.inr (ac_sub es q.1, ac_sub es q.2)))
def ac_vsB (n : Nat) (v : ab_V) : Bool := match v with
  | .inl e => Nat.blt e.1 n
  | .inr (.inl e) => Nat.blt e.1 n
  | .inr (.inr (.inl z)) => Nat.blt z.2.1.1 n && Nat.blt z.2.2.1 n
  | .inr (.inr (.inr q)) => Nat.blt q.1.1 n && Nat.blt q.2.1 n
def ac_nu (es : List ab_E) (ν : ab_N) : ab_N := fun j => match es[j]? with
  | some f => ν f.1 + f.2
  | none => 0
/-- locals, calls made, cells -/
abbrev ac_Ta : Type := List (Option ab_V) × Option ab_E × List ac_O
def ac_canL (es : List ab_E) : List (Option ab_V) → List (Option ab_V) → Bool
  | [], [] => true
  | b :: bs, l :: ls => (match b with
    | none => true
    | some v => (match l with
      | some w => ac_vsB es.length v && ab_eV (ac_subV es v) w
      | none => false)) && ac_canL es bs ls
  | _, _ => false
def ac_canC (es : List ab_E) (a b : Option ab_E) : Bool := match a, b with
  | some e, some f => Nat.blt e.1 es.length && ab_eE (ac_sub es e) f
  | none, none => true
  | _, _ => false
def ac_canO (C : ab_C) (O : List ac_O) (es : List ab_E) (o : ac_O) : Bool := Nat.beq o.2.1.1 0 && (Nat.beq o.2.2.1.1 0 && (ac_vsB es.length o.2.2.2 && (match ac_find C O o.1 o.2.1 o.2.2.1 with
  | some w => ab_eV (ac_subV es o.2.2.2) w
  | none => false)))
def ac_can (S : ac_S) (es : List ab_E) (T : ac_Ta) : Bool :=
  (match es with
  | e :: _ => ab_eE e (0, 0)
  | [] => false) && (es.all (fun e => Nat.blt e.1 S.1.1.length) && (S.2.2.2.1.isEmpty && (ac_canL es T.1 S.2.2.1 && (ac_canC es T.2.1 S.2.2.2.2.1.1 && T.2.2.all (ac_canO S.1 S.2.2.2.2.1.2.1 es)))))
section ACJ
variable {xs : ab_X} {C : ab_C} {ν ν' : ab_N} {kp : ac_Kp} {σ0 σ σ' : mS} {H : ac_H} {n : Nat} {l : Launch} {es : List ab_E} {Lc : List (Option mV)} {sc : List mV}
theorem ac_sub_ok {e : ab_E} {x : Int} (h : ab_I n ν (ac_sub es e) x) (hb : Nat.blt e.1 es.length = true) : ab_I es.length (ac_nu es ν) e x := by
  rw [Nat.blt_eq] at hb
  refine ⟨hb, ?_⟩
  have h2 := h.2
  unfold ac_sub at h2
  unfold ac_nu
  rw [List.getElem?_eq_getElem hb] at h2 ⊢
  dsimp only at h2 ⊢
  omega
theorem ac_subV_ok {v : ab_V} {x : mV} (h : ab_Vr n ν (ac_subV es v) x) (hb : ac_vsB es.length v = true) : ab_Vr es.length (ac_nu es ν) v x := by
  rcases v with a | a | z | q
  · obtain ⟨y, rfl, g⟩ := ab_Vi (e := ac_sub es a) h
    exact ac_sub_ok g hb
  · obtain ⟨y, rfl, g⟩ := ab_Vl (e := ac_sub es a) h
    exact ac_sub_ok g hb
  · obtain ⟨r, rfl, g⟩ := ab_Va (z := (z.1, ac_sub es z.2.1, ac_sub es z.2.2)) h
    have hb' : (Nat.blt z.2.1.1 es.length && Nat.blt z.2.2.1 es.length) = true := hb
    rw [Bool.and_eq_true] at hb'
    have g2 := ac_sub_ok (e := z.2.2) (x := ν (ac_sub es z.2.2).1 + (ac_sub es z.2.2).2) ⟨g.2.1, rfl⟩ hb'.2
    have g1 := ac_sub_ok (e := z.2.1) (x := ν (ac_sub es z.2.1).1 + (ac_sub es z.2.1).2) ⟨g.1, rfl⟩ hb'.1
    refine ⟨g1.1, g2.1, ?_⟩
    have g3 := g.2.2
    cases r with
    | none =>
      have g3 : ν (ac_sub es z.2.2).1 + (ac_sub es z.2.2).2 = 0 := g3
      show ac_nu es ν z.2.2.1 + z.2.2.2 = 0
      rw [← g2.2]; exact g3
    | some p =>
      obtain ⟨a1, a2, a3⟩ := g3
      have a1 : ν (ac_sub es z.2.2).1 + (ac_sub es z.2.2).2 = 1 := a1
      have a3 : (p.2 : Int) = ν (ac_sub es z.2.1).1 + (ac_sub es z.2.1).2 := a3
      exact ⟨by rw [← g2.2]; exact a1, a2, by rw [← g1.2]; exact a3⟩
  · obtain ⟨a, b, rfl, g1, g2⟩ := ab_Vc (q := (ac_sub es q.1, ac_sub es q.2)) h
    have hb' : (Nat.blt q.1.1 es.length && Nat.blt q.2.1 es.length) = true := hb
    rw [Bool.and_eq_true] at hb'
    exact ⟨a, b, rfl, ac_sub_ok g1 hb'.1, ac_sub_ok g2 hb'.2⟩
theorem ac_canL_at : ∀ {B L : List (Option ab_V)}, ac_canL es B L = true → L.length = B.length ∧ ∀ (i : Nat) (v : ab_V), B[i]? = some (some v) → ac_vsB es.length v = true ∧ L[i]? = some (some (ac_subV es v))
  | [], [], _ => ⟨rfl, fun _ _ h => by cases h⟩
  | b :: bs, l :: ls, h => by
    unfold ac_canL at h
    rw [Bool.and_eq_true] at h
    obtain ⟨h1, h2⟩ := h
    obtain ⟨g1, g2⟩ := ac_canL_at h2
    refine ⟨congrArg (· + 1) g1, fun i v hv => ?_⟩
    cases i with
    | zero =>
      have e1 : b = some v := by simpa using hv
      subst e1
      cases l with
      | none => cases h1
      | some w =>
        dsimp only at h1
        rw [Bool.and_eq_true] at h1
        refine ⟨h1.1, ?_⟩
        rw [ab_eV_ok h1.2]; rfl
    | succ i =>
      have := g2 i v (by simpa using hv)
      exact ⟨this.1, by simpa using this.2⟩
  | [], _ :: _, h => by cases h
  | _ :: _, [], h => by cases h
theorem ac_can_ok {S : ac_S} {T : ac_Ta} (h : ab_cx xs S.1 ν) (hL : ab_Ls S.1.1.length ν S.2.2.1 Lc) (hs : ab_Vs S.1.1.length ν S.2.2.2.1 sc) (hp : ac_hp kp σ0 S.1.1.length ν S.2.2.2.2.1 σ) (hc : ac_can S es T = true) :
    sc = [] ∧ ab_Ls es.length (ac_nu es ν) T.1 Lc ∧ ac_hp kp σ0 es.length (ac_nu es ν) (T.2.1, T.2.2, []) σ ∧ ac_nu es ν 0 = 0 ∧ 0 < es.length := by
  unfold ac_can at hc
  simp only [Bool.and_eq_true] at hc
  obtain ⟨c0, c1, c2, c3, c4, c5⟩ := hc
  have z0 : ac_nu es ν 0 = 0 ∧ 0 < es.length := by
    cases es with
    | nil => cases c0
    | cons e t =>
      have e1 := ab_eE_ok c0
      subst e1
      refine ⟨?_, Nat.succ_pos _⟩
      show ν 0 + 0 = 0
      rw [h.1.1]; rfl
  have e2 := List.isEmpty_iff.mp c2
  rw [e2] at hs
  obtain ⟨l1, l2⟩ := ac_canL_at c3
  refine ⟨ab_Vs_0 hs, ⟨hL.1.trans l1, fun i v hv => ?_⟩, ⟨hp.1, hp.2.1, ?_, fun o ho => ?_, fun g hg => by cases hg⟩, z0⟩
  · obtain ⟨a1, a2⟩ := l2 i v hv
    obtain ⟨x, x1, x2⟩ := hL.2 i _ a2
    exact ⟨x, x1, ac_subV_ok x2 a1⟩
  · have a := hp.2.2.1
    unfold ac_canC at c4
    split at c4
    · rename_i e f h1 h2
      rw [Bool.and_eq_true] at c4
      have e3 := ab_eE_ok c4.2
      rw [h1]
      rw [h2] at a
      have a : ab_I S.1.1.length ν f (σ.1 1 : Int) := a
      rw [← e3] at a
      exact ac_sub_ok a c4.1
    · rename_i h1 h2
      rw [h1]
      rw [h2] at a
      exact a
    · cases c4
  · have b := List.all_eq_true.mp c5 o ho
    unfold ac_canO at b
    simp only [Bool.and_eq_true] at b
    obtain ⟨b1, b2, b3, b4⟩ := b
    have b1 := Nat.eq_of_beq_eq_true b1
    have b2 := Nat.eq_of_beq_eq_true b2
    cases hf : ac_find S.1 S.2.2.2.2.1.2.1 o.1 o.2.1 o.2.2.1 with
    | none => rw [hf] at b4; cases b4
    | some w =>
      rw [hf] at b4
      have e3 := ab_eV_ok b4
      have sc0 : ∀ {v : ab_V}, ac_vsB es.length v = true → ac_vs es.length v := by
        intro v hv
        rcases v with a | a | a | a
        · exact (Nat.blt_eq.mp hv : a.1 < es.length)
        · exact (Nat.blt_eq.mp hv : a.1 < es.length)
        · have hv' : (Nat.blt a.2.1.1 es.length && Nat.blt a.2.2.1 es.length) = true := hv
          rw [Bool.and_eq_true] at hv'
          exact ⟨Nat.blt_eq.mp hv'.1, Nat.blt_eq.mp hv'.2⟩
        · have hv' : (Nat.blt a.1.1 es.length && Nat.blt a.2.1 es.length) = true := hv
          rw [Bool.and_eq_true] at hv'
          exact ⟨Nat.blt_eq.mp hv'.1, Nat.blt_eq.mp hv'.2⟩
      refine ⟨⟨by rw [b1]; exact z0.2, sc0 b3⟩, by rw [b2]; exact z0.2, fun i k hi hk => ?_⟩
      rw [b1, z0.1] at hi
      rw [b2, z0.1] at hk
      have g := ac_find_ok (i := i) (k := k) h hp.2.2.2.1 (e := o.2.1) (f := o.2.2.1) ⟨by rw [b1]; exact h.2.1, by rw [b1, h.1.1]; exact hi⟩ ⟨by rw [b2]; exact h.2.1, by rw [b2, h.1.1]; exact hk⟩ hf
      rw [← e3] at g
      exact ac_subV_ok g b3
/-- the frame begins anew -/
theorem ac_reb {W : List ab_G} {c : ab_E} {O : List ac_O} {gh : List (Int × ab_E)} {K : ac_Kd} (h : ac_hp (K, W) σ0 n ν (some c, O, gh) σ) (W' : List ab_G) : ac_hp (K, W') σ n ν (some c, O, gh) σ := ⟨h.1, ac_fr.rf, h.2.2.1, h.2.2.2.1, h.2.2.2.2⟩
theorem ac_cxB {B : ab_Bx} (h0 : ν 0 = 0) (hn : 0 < B.length) (h : ∀ j q, B[j]? = some q → q.1 ≤ ν j ∧ ν j ≤ q.2) : ab_cx xs (B, [], []) ν := ⟨⟨h0, h⟩, hn, fun q hq => (by cases hq), fun q hq => (by cases hq)⟩
/-- a contract out of what holds of every judgement that is closed -/
theorem ac_con (hl : l.stackTraces = false) {j : Nat} {z : mAl} {avs : List mV} {Q : mX → mS → Prop} (hz : m_alF[j]? = some z) (hh : z.1.2.2.2.2.2 = []) (hn : (m_args avs).length ≤ z.1.2.2.1)
    (main : ∀ J : Nat → List (Option mV) → List mV → mS → Nat → Nat → Prop, ab_cl l z none Q J → J 0 (m_L0 z.1.2.2.1 avs) [] σ 0 0) : m_ConI l j avs σ Q := by
  intro y hy
  have e2 : y = z.1 := Option.some.inj (hy.symm.trans (m_alF_at hz))
  subst e2
  obtain ⟨k1, k2, k3⟩ := m_alF_ok z (List.mem_of_getElem? hz)
  obtain ⟨⟨y1, y2, y3, y4, y5, hh0⟩, rows, ini⟩ := z
  dsimp only at hh
  subst hh
  exact m_con_goF hl (CC := m_ConI l) (fun j y avs σ Q hy h => h y hy) k1 k3 hn k2 (fun J hS => main J (fun pc L st σ k n h => hS pc L st σ k n h))
/-! kinds of more and of fewer cells -/
def ac_gImp (g b : ab_G) : Bool := Nat.ble b.2.1 g.2.1 && (Nat.ble g.2.2.1 b.2.2.1 && (Nat.ble b.2.2.2.1 g.2.2.2.1 && (Nat.ble g.2.2.2.2.1 b.2.2.2.2.1 && ab_Tle b.2.2.2.2.2 g.2.2.2.2.2)))
def ac_apart (c : Nat) (g w : ab_G) : Bool := !(Nat.beq w.1 c) || (Nat.blt w.2.2.1 g.2.1 || (Nat.blt g.2.2.1 w.2.1 || (Nat.blt w.2.2.2.2.1 g.2.2.2.1 || Nat.blt g.2.2.2.2.1 w.2.2.2.1)))
def ac_rw (K : ac_Kd) (c : Nat) : List ab_G := match K.1[c]? with
  | some l => l
  | none => []
def ac_lift (K0 KB : ac_Kd) (W : List ab_G) : Bool := Nat.ble KB.1.length 22 && (List.range 22).all (fun c => (ac_rw KB c).all (fun g => (ac_rw K0 c).any (ac_gImp g) || (!(Nat.beq c 1) && W.all (ac_apart c g))))
def ac_eq3 (p q : Nat × Nat × Nat) : Bool := Nat.beq p.1 q.1 && (Nat.beq p.2.1 q.2.1 && Nat.beq p.2.2 q.2.2)
def ac_ln (K : ac_Kd) (c : Nat) : List (Nat × Nat × Nat) := match K.2[c]? with
  | some l => l
  | none => []
def ac_subK (KB K0 : ac_Kd) : Bool := (Nat.ble K0.1.length 22 && Nat.ble K0.2.length 22) && ((List.range 22).all (fun c => (ac_rw K0 c).all (fun g => (ac_rw KB c).any (ac_gImp g))) && (List.range 22).all (fun c => (ac_ln K0 c).all (fun q => (ac_ln KB c).any (ac_eq3 q))))
theorem ac_rw_ok {K : ac_Kd} {c : Nat} (h : ac_rows K σ) {g b : ab_G} (hb : b ∈ ac_rw K c) (hg : ac_gImp g b = true) : ∀ i k, g.2.1 ≤ i → i ≤ g.2.2.1 → g.2.2.2.1 ≤ k → k ≤ g.2.2.2.2.1 → ab_Tr g.2.2.2.2.2 (m_get σ c i k) := by
  unfold ac_rw at hb
  cases hq : K.1[c]? with
  | none => rw [hq] at hb; cases hb
  | some l =>
    rw [hq] at hb
    unfold ac_gImp at hg
    simp only [Bool.and_eq_true, Nat.ble_eq] at hg
    obtain ⟨g1, g2, g3, g4, g5⟩ := hg
    exact fun i k h1 h2 h3 h4 => ab_Tle_ok g5 (h c l hq b hb i k (by omega) (by omega) (by omega) (by omega))
theorem ac_lift_ok {K0 KB : ac_Kd} {W : List ab_G} (hB : ac_KK KB σ) (h0 : ac_KK K0 σ') (hf : ac_fr W σ σ') (hc : ac_lift K0 KB W = true) : ac_KK KB σ' := by
  unfold ac_lift at hc
  rw [Bool.and_eq_true, Nat.ble_eq] at hc
  obtain ⟨c0, c1⟩ := hc
  refine ⟨fun c l hl g hg i k h1 h2 h3 h4 => ?_, fun c l hl q hq i h1 h2 => ?_, h0.2.2⟩
  · have hlt := (List.getElem?_eq_some_iff.mp hl).1
    have b := List.all_eq_true.mp c1 c (List.mem_range.mpr (by omega))
    have e1 : ac_rw KB c = l := by unfold ac_rw; rw [hl]
    rw [e1] at b
    have b := List.all_eq_true.mp b g hg
    rcases (Bool.or_eq_true _ _).mp b with b | b
    · obtain ⟨w, w1, w2⟩ := List.any_eq_true.mp b
      exact ac_rw_ok h0.1 w1 w2 i k h1 h2 h3 h4
    · rw [Bool.and_eq_true, Bool.not_eq_true'] at b
      rcases hf.2.2.2 c i k (fun z => by rw [z.1] at b; cases b.1) with e | ⟨w, w1, ⟨f1, f2, f3, f4, f5⟩, -⟩
      · rw [e]
        exact hB.1 c l hl g hg i k h1 h2 h3 h4
      · have := List.all_eq_true.mp b.2 w w1
        unfold ac_apart at this
        simp only [Bool.or_eq_true, Bool.not_eq_true', Nat.blt_eq] at this
        rcases this with t | t | t | t | t
        · rw [f1, Nat.beq_refl] at t; cases t
        · omega
        · omega
        · omega
        · omega
  · obtain ⟨a1, a2⟩ := hB.2.1 c l hl q hq i h1 h2
    exact ⟨a1, by rw [hf.2.2.1 c i a1]; exact a2⟩
theorem ac_subK_ok {K0 KB : ac_Kd} (hB : ac_KK KB σ) (hc : ac_subK KB K0 = true) : ac_KK K0 σ := by
  unfold ac_subK at hc
  simp only [Bool.and_eq_true, Nat.ble_eq] at hc
  obtain ⟨⟨c0, c1⟩, c2, c3⟩ := hc
  refine ⟨fun c l hl g hg i k h1 h2 h3 h4 => ?_, fun c l hl q hq i h1 h2 => ?_, hB.2.2⟩
  · have hlt := (List.getElem?_eq_some_iff.mp hl).1
    have b := List.all_eq_true.mp c2 c (List.mem_range.mpr (by omega))
    have e1 : ac_rw K0 c = l := by unfold ac_rw; rw [hl]
    rw [e1] at b
    obtain ⟨w, w1, w2⟩ := List.any_eq_true.mp (List.all_eq_true.mp b g hg)
    exact ac_rw_ok hB.1 w1 w2 i k h1 h2 h3 h4
  · have hlt := (List.getElem?_eq_some_iff.mp hl).1
    have b := List.all_eq_true.mp c3 c (List.mem_range.mpr (by omega))
    have e1 : ac_ln K0 c = l := by unfold ac_ln; rw [hl]
    rw [e1] at b
    obtain ⟨w, w1, w2⟩ := List.any_eq_true.mp (List.all_eq_true.mp b q hq)
    unfold ac_eq3 at w2
    simp only [Bool.and_eq_true] at w2
    have d1 := Nat.eq_of_beq_eq_true w2.1
    have d2 := Nat.eq_of_beq_eq_true w2.2.1
    have d3 := Nat.eq_of_beq_eq_true w2.2.2
    unfold ac_ln at w1
    cases hk : KB.2[c]? with
    | none => rw [hk] at w1; cases w1
    | some lb =>
      rw [hk] at w1
      rw [d3]
      exact hB.2.1 c lb hk w w1 i (by omega) (by omega)
end ACJ
/-! the step with another room -/
section ACK
variable {mt : List mMt} {CC : Nat → List mV → mS → (mX → mS → Prop) → Prop} {rt : Option FieldType} {R R' : Room} {nL : Nat} {rows : List (Nat × mRow)} {Q : mX → mS → Prop} {xs : Option (Nat × (Nat → Int32))} {kb nb : Nat} {r : mRow} {σ : mS} {st : List mV} {k n : Nat} {y : mMt}
theorem ac_ms_get {F F' : List mV → Prop} (hF : ∀ st, F st → F' st) (h : m_s_get r σ st F) : m_s_get r σ st F' := by
  unfold m_s_get at h ⊢
  split at h
  · exact ⟨h.1, hF _ h.2⟩
  · exact h.elim
theorem ac_ms_put {F F' : List mV → mS → Prop} (hF : ∀ st σ, F st σ → F' st σ) (h : m_s_put r σ st F) : m_s_put r σ st F' := by
  unfold m_s_put at h ⊢
  split at h
  · exact ⟨h.1, h.2.1, hF _ _ h.2.2⟩
  · exact h.elim
theorem ac_ms_xlen {F F' : List mV → Prop} (hF : ∀ st, F st → F' st) (h : m_s_xlen xs st F) : m_s_xlen xs st F' := by
  unfold m_s_xlen at h ⊢
  split at h
  · exact ⟨h.1, hF _ h.2⟩
  · exact h.elim
theorem ac_ms_xld {F F' : List mV → Prop} (hF : ∀ st, F st → F' st) (h : m_s_xld xs st F) : m_s_xld xs st F' := by
  unfold m_s_xld at h ⊢
  split at h
  · exact ⟨h.1, hF _ h.2⟩
  · exact h.elim
theorem ac_ms_len {F F' : List mV → Prop} (hF : ∀ st, F st → F' st) (h : m_s_len σ st F) : m_s_len σ st F' := by
  unfold m_s_len at h ⊢
  split at h
  · exact ⟨h.1, hF _ h.2⟩
  · exact h.elim
theorem ac_ms_ald {c : Nat} {F F' : List mV → Prop} (hF : ∀ st, F st → F' st) (h : m_s_ald c σ st F) : m_s_ald c σ st F' := by
  unfold m_s_ald at h ⊢
  split at h
  · exact ⟨h.1, h.2.1, hF _ h.2.2⟩
  · exact h.elim
theorem ac_ms_aldq {F F' : List mV → Prop} (hF : ∀ st, F st → F' st) (h : m_s_aldq σ st F) : m_s_aldq σ st F' := by
  unfold m_s_aldq at h ⊢
  split at h
  · exact ⟨h.1, h.2.1, hF _ h.2.2⟩
  · exact h.elim
theorem ac_ms_iast {F F' : List mV → mS → Prop} (hF : ∀ st σ, F st σ → F' st σ) (h : m_s_iast σ st F) : m_s_iast σ st F' := by
  unfold m_s_iast at h ⊢
  split at h
  · exact ⟨h.1, h.2.1, hF _ _ h.2.2⟩
  · exact h.elim
theorem ac_ms_zast {F F' : List mV → mS → Prop} (hF : ∀ st σ, F st σ → F' st σ) (h : m_s_zast σ st F) : m_s_zast σ st F' := by
  unfold m_s_zast at h ⊢
  split at h
  · exact ⟨h.1, h.2.1, h.2.2.1, hF _ _ h.2.2.2⟩
  · exact h.elim
theorem ac_ms_last {F F' : List mV → mS → Prop} (hF : ∀ st σ, F st σ → F' st σ) (h : m_s_last σ st F) : m_s_last σ st F' := by
  unfold m_s_last at h ⊢
  split at h
  · exact ⟨h.1, h.2.1, hF _ _ h.2.2⟩
  · exact h.elim
theorem ac_ms_astq {F F' : List mV → mS → Prop} (hF : ∀ st σ, F st σ → F' st σ) (h : m_s_astq σ st F) : m_s_astq σ st F' := by
  unfold m_s_astq at h ⊢
  split at h
  · exact ⟨h.1, h.2.1, h.2.2.1, hF _ _ h.2.2.2⟩
  · exact h.elim
theorem ac_rmS (hc : kb + R'.cells ≤ R.cells) (hs : nb + R'.slots ≤ R.slots) {a b : Nat} (h : m_rm R' (k + a) (n + b)) : m_rm R (kb + k + a) (nb + n + b) := ⟨by have := h.1; omega, by have := h.2; omega⟩
theorem ac_ms_newa (hc : kb + R'.cells ≤ R.cells) (hs : nb + R'.slots ≤ R.slots) {F F' : List mV → mS → Nat → Prop} (hF : ∀ st σ m, F st σ (n + m) → F' st σ (nb + n + m)) (h : m_s_newa R' r σ st k n F) : m_s_newa R r σ st (kb + k) (nb + n) F' := by
  unfold m_s_newa at h ⊢
  split at h
  · exact ⟨h.1, h.2.1, ac_rmS hc hs h.2.2.1, hF _ _ _ h.2.2.2⟩
  · exact h.elim
theorem ac_ms_mna (hc : kb + R'.cells ≤ R.cells) (hs : nb + R'.slots ≤ R.slots) {F F' : List mV → mS → Prop} (hF : ∀ st σ, F st σ → F' st σ) (h : m_s_mna R' σ st k n F) : m_s_mna R σ st (kb + k) (nb + n) F' := by
  unfold m_s_mna at h ⊢
  split at h
  · exact ⟨h.1, h.2.1, ac_rmS hc hs h.2.2.1, hF _ _ h.2.2.2⟩
  · exact h.elim
theorem ac_ms_math (hl : R'.locals = R.locals) {a : Nat} {F F' : List mV → Prop} (hF : ∀ st, F st → F' st) (h : m_s_math R' a st F) : m_s_math R a st F' := by
  unfold m_s_math at h ⊢
  split at h
  · exact ⟨by rw [← hl]; exact h.1, hF _ h.2⟩
  · exact ⟨by rw [← hl]; exact h.1, hF _ h.2⟩
  · exact ⟨by rw [← hl]; exact h.1, hF _ h.2⟩
  · exact ⟨by rw [← hl]; exact h.1, hF _ h.2⟩
  · exact ⟨by rw [← hl]; exact h.1, hF _ h.2⟩
  · exact h.elim
theorem ac_ms_obj (hl : R'.locals = R.locals) {F F' : List mV → Prop} (hF : ∀ st, F st → F' st) (h : m_s_obj R' st F) : m_s_obj R st F' := by
  unfold m_s_obj at h ⊢
  split at h
  · exact ⟨by rw [← hl]; exact h.1, hF _ h.2⟩
  · exact h.elim
theorem ac_ms_bare {pc : Nat} {L : List (Option mV)} {F F' : Nat → List (Option mV) → List mV → Prop} (hF : ∀ pc L st, F pc L st → F' pc L st) (h : m_s_bare r pc L st F) : m_s_bare r pc L st F' := by
  unfold m_s_bare at h ⊢
  split at h
  · exact ⟨fun z => hF _ _ _ (h.1 z), fun z => hF _ _ _ (h.2 z)⟩
  · split at h
    · exact hF _ _ _ h
    · exact h.elim
/-- calls take a continuation that follows -/
def ac_CCm (CC : Nat → List mV → mS → (mX → mS → Prop) → Prop) : Prop := ∀ j avs σ Q Q', (∀ x σ, Q x σ → Q' x σ) → CC j avs σ Q → CC j avs σ Q'
theorem ac_ms_callV (hCC : ac_CCm CC) (hc : kb + R'.cells ≤ R.cells) (hs : nb + R'.slots ≤ R.slots) {T T' : mS → Nat → Nat → Nat → Prop} (hT : ∀ σ k n x, T σ k n x → T' σ (kb + k) (nb + n) x) {F F' : List mV → mS → Nat → Nat → Prop} (hF : ∀ st σ k n, F st σ k n → F' st σ (kb + k) (nb + n)) (h : m_s_callV CC R' T y r σ st k n F) : m_s_callV CC R T' y r σ st (kb + k) (nb + n) F' := by
  unfold m_s_callV at h ⊢
  split at h
  · refine ⟨h.1, h.2.1, h.2.2.1, ac_rmS hc hs h.2.2.2.1, hCC _ _ _ _ _ (fun x σ hq => ?_) h.2.2.2.2⟩
    cases x with
    | inl v =>
      have g := hF _ _ _ _ hq
      rw [← Nat.add_assoc, ← Nat.add_assoc] at g
      exact g
    | inr b =>
      have g := hT _ _ _ _ hq
      rw [← Nat.add_assoc, ← Nat.add_assoc] at g
      exact g
  · exact h.elim
theorem ac_ms_callS (hCC : ac_CCm CC) (hc : kb + R'.cells ≤ R.cells) (hs : nb + R'.slots ≤ R.slots) {T T' : mS → Nat → Nat → Nat → Prop} (hT : ∀ σ k n x, T σ k n x → T' σ (kb + k) (nb + n) x) {F F' : List mV → mS → Nat → Nat → Prop} (hF : ∀ st σ k n, F st σ k n → F' st σ (kb + k) (nb + n)) (h : m_s_callS CC R' T y r σ st k n F) : m_s_callS CC R T' y r σ st (kb + k) (nb + n) F' := by
  unfold m_s_callS at h ⊢
  refine ⟨h.1, h.2.1, ac_rmS hc hs h.2.2.1, hCC _ _ _ _ _ (fun x σ hq => ?_) h.2.2.2⟩
  cases x with
  | inl v =>
    have g := hF _ _ _ _ hq
    rw [← Nat.add_assoc, ← Nat.add_assoc] at g
    exact g
  | inr b =>
    have g := hT _ _ _ _ hq
    rw [← Nat.add_assoc, ← Nat.add_assoc] at g
    exact g
theorem ac_stepS (hCC : ac_CCm CC) (hf : R'.frames = R.frames) (hl : R'.locals = R.locals) (hc : kb + R'.cells ≤ R.cells) (hs : nb + R'.slots ≤ R.slots) {T T' : Nat → List (Option mV) → mS → Nat → Nat → Nat → Prop} (hT : ∀ pc L σ k n x, T' pc L σ k n x → T pc L σ (kb + k) (nb + n) x) {K K' : Nat → List (Option mV) → List mV → mS → Nat → Nat → Prop} (hK : ∀ pc L st σ k n, K' pc L st σ k n → K pc L st σ (kb + k) (nb + n)) {pc : Nat} {L : List (Option mV)}
    (h : m_step mt CC rt R' nL rows R'.cells R'.slots Q xs T' K' pc L st σ k n) : m_step mt CC rt R nL rows R.cells R.slots Q xs T K pc L st σ (kb + k) (nb + n) := by
  unfold m_step at h ⊢
  cases hr : m_at rows pc with
  | none => rw [hr] at h; exact h.elim
  | some r =>
  rw [hr] at h
  obtain ⟨ig, ln, ra, rb, rz, rp⟩ := r
  dsimp only at h ⊢
  cases ig
  case getfield i =>
    dsimp only at h ⊢
    exact ac_ms_get (fun st h => hK _ _ _ _ _ _ h) h
  case putfield i =>
    dsimp only at h ⊢
    exact ac_ms_put (fun st σ h => hK _ _ _ _ _ _ h) h
  case arraylength =>
    dsimp only at h ⊢
    cases hx : m_isx st 0 with
    | true => rw [hx] at h; dsimp only [cond_true] at h ⊢; exact ac_ms_xlen (fun st h => hK _ _ _ _ _ _ h) h
    | false => rw [hx] at h; dsimp only [cond_false] at h ⊢; exact ac_ms_len (fun st h => hK _ _ _ _ _ _ h) h
  case iaload =>
    dsimp only at h ⊢
    cases hx : m_isx st 1 with
    | true => rw [hx] at h; dsimp only [cond_true] at h ⊢; exact ac_ms_xld (fun st h => hK _ _ _ _ _ _ h) h
    | false => rw [hx] at h; dsimp only [cond_false] at h ⊢; exact ac_ms_ald (fun st h => hK _ _ _ _ _ _ h) h
  case laload =>
    dsimp only at h ⊢
    exact ac_ms_ald (fun st h => hK _ _ _ _ _ _ h) h
  case baload =>
    dsimp only at h ⊢
    exact ac_ms_ald (fun st h => hK _ _ _ _ _ _ h) h
  case aaload =>
    dsimp only at h ⊢
    exact ac_ms_aldq (fun st h => hK _ _ _ _ _ _ h) h
  case iastore =>
    dsimp only at h ⊢
    exact ac_ms_iast (fun st σ h => hK _ _ _ _ _ _ h) h
  case lastore =>
    dsimp only at h ⊢
    exact ac_ms_last (fun st σ h => hK _ _ _ _ _ _ h) h
  case bastore =>
    dsimp only at h ⊢
    exact ac_ms_zast (fun st σ h => hK _ _ _ _ _ _ h) h
  case aastore =>
    dsimp only at h ⊢
    exact ac_ms_astq (fun st σ h => hK _ _ _ _ _ _ h) h
  case new i =>
    dsimp only at h ⊢
    by_cases hlt : ra < 13
    · rw [if_pos hlt] at h ⊢
      refine ⟨ac_rmS hc hs h.1, ?_⟩
      have g := hK _ _ _ _ _ _ h.2
      rw [← Nat.add_assoc, ← Nat.add_assoc] at g
      exact g
    · rw [if_neg hlt] at h ⊢
      obtain ⟨h1, h2, h3, h4, h5, h6, h7⟩ := h
      exact ⟨h1, by rw [← hf]; exact h2, by rw [← hl]; exact h3, ac_rmS hc hs h4, by omega, by omega, h7⟩
  case newarray t =>
    dsimp only at h ⊢
    exact ac_ms_newa hc hs (fun st σ m h => by
      have g := hK _ _ _ _ _ _ h
      rw [← Nat.add_assoc, ← Nat.add_assoc] at g
      exact g) h
  case anewarray i =>
    dsimp only at h ⊢
    exact ac_ms_newa hc hs (fun st σ m h => by
      have g := hK _ _ _ _ _ _ h
      rw [← Nat.add_assoc, ← Nat.add_assoc] at g
      exact g) h
  case multianewarray i d =>
    dsimp only at h ⊢
    exact ac_ms_mna hc hs (fun st σ h => by
      have g := hK _ _ _ _ _ _ h
      rw [← Nat.add_assoc, ← Nat.add_assoc] at g
      exact g) h
  case invokevirtual i =>
    dsimp only at h ⊢
    refine ⟨h.1, ?_⟩
    have h := h.2
    cases hy : mt[ra]? with
    | none => rw [hy] at h; exact h.elim
    | some y => rw [hy] at h; exact ac_ms_callV hCC hc hs (fun σ k n x h => hT _ _ _ _ _ _ h) (fun st σ k n h => hK _ _ _ _ _ _ h) h
  case invokespecial i =>
    dsimp only at h ⊢
    refine ⟨h.1, ?_⟩
    have h := h.2
    by_cases h2 : ra = 2000
    · rw [if_pos h2] at h ⊢
      exact ac_ms_obj hl (fun st h => hK _ _ _ _ _ _ h) h
    · rw [if_neg h2] at h ⊢
      cases hy : mt[ra]? with
      | none => rw [hy] at h; exact h.elim
      | some y => rw [hy] at h; exact ac_ms_callV hCC hc hs (fun σ k n x h => hT _ _ _ _ _ _ h) (fun st σ k n h => hK _ _ _ _ _ _ h) h
  case invokestatic i =>
    dsimp only at h ⊢
    refine ⟨h.1, ⟨by have := h.2.1.1; omega, by have := h.2.1.2; omega⟩, ?_⟩
    have h := h.2.2
    by_cases h2 : 1000 ≤ ra
    · rw [if_pos h2] at h ⊢
      exact ac_ms_math hl (fun st h => hK _ _ _ _ _ _ h) h
    · rw [if_neg h2] at h ⊢
      cases hy : mt[ra]? with
      | none => rw [hy] at h; exact h.elim
      | some y => rw [hy] at h; exact ac_ms_callS hCC hc hs (fun σ k n x h => hT _ _ _ _ _ _ h) (fun st σ k n h => hK _ _ _ _ _ _ h) h
  case ireturn =>
    dsimp only at h ⊢
    exact ⟨by have := h.1; omega, by have := h.2.1; omega, h.2.2⟩
  case lreturn =>
    dsimp only at h ⊢
    exact ⟨by have := h.1; omega, by have := h.2.1; omega, h.2.2⟩
  case areturn =>
    dsimp only at h ⊢
    exact ⟨by have := h.1; omega, by have := h.2.1; omega, h.2.2⟩
  case return_ =>
    dsimp only at h ⊢
    exact ⟨by have := h.1; omega, by have := h.2.1; omega, h.2.2⟩
  all_goals (dsimp only at h ⊢; exact ac_ms_bare (fun pc L st h => hK _ _ _ _ _ _ h) h)
end ACK
theorem ac_conM {l : Launch} {y : MethodName} {ws : List Cond} {rm : Room} {mc ms : Nat} {avs : List mV} {σ : mS} {Q Q' : mX → mS → Prop} (hQ : ∀ x σ, Q x σ → Q' x σ) (h : m_Con l y ws rm mc ms avs σ Q) : m_Con l y ws rm mc ms avs σ Q' := by
  intro D ty xs A ρ
  have h9 := h D ty xs A ρ
  intro p e ha hc hk s m args below hf hap hP hX
  obtain ⟨k, o, h1, h2, h3, h4⟩ := h9 p e ha hc hk s m args below hf hap hP hX
  refine ⟨k, o, h1, h2, h3, ?_⟩
  rcases h4 with ⟨⟨⟨ρ', σ', v, w, q1, q2, q3, q4, q5, q6⟩, q7⟩, q8⟩ | ⟨q, r1, E, ce, Ls, ⟨⟨ρ', σ', x, s1, s2, s3, s4, s5⟩, s6⟩, s7⟩
  · exact Or.inl ⟨⟨⟨ρ', σ', v, w, q1, q2, q3, q4, q5, hQ _ _ q6⟩, q7⟩, q8⟩
  · exact Or.inr ⟨q, r1, E, ce, Ls, ⟨⟨ρ', σ', x, s1, s2, s3, s4, hQ _ _ s5⟩, s6⟩, s7⟩
theorem ac_ConIm {l : Launch} : ac_CCm (m_ConI l) := fun _ _ _ _ _ hQ h y hy => ac_conM hQ (h y hy)
/-- a judgement from a room's beginning on -/
def ac_zR (z : mAl) (c s : Nat) : mAl := ((z.1.1, z.1.2.1, z.1.2.2.1, z.1.2.2.2.1, { frames := z.1.2.2.2.2.1.frames, cells := c, slots := s, locals := z.1.2.2.2.2.1.locals }, []), z.2)
theorem ac_clS {l : Launch} {z : mAl} {xs : ab_X} {Q : mX → mS → Prop} {J : Nat → List (Option mV) → List mV → mS → Nat → Nat → Prop} {c s kb nb : Nat} (hh : z.1.2.2.2.2.2 = []) (hJ : ab_cl l z xs Q J) (hc : kb + c ≤ z.1.2.2.2.2.1.cells) (hs : nb + s ≤ z.1.2.2.2.2.1.slots) : ab_cl l (ac_zR z c s) xs Q (fun pc L st σ k n => J pc L st σ (kb + k) (nb + n)) := by
  intro pc L st σ k n h
  refine hJ pc L st σ (kb + k) (nb + n) ?_
  refine ac_stepS (R := z.1.2.2.2.2.1) (R' := (ac_zR z c s).1.2.2.2.2.1) (kb := kb) (nb := nb) ac_ConIm rfl rfl hc hs (fun pc L σ k n x hT => ?_) (fun pc L st σ k n h => h) h
  have hT : m_T Q c s pc L σ k n x := hT
  unfold ab_TT
  rw [hh]
  exact ⟨by have := hT.1; omega, by have := hT.2.1; omega, hT.2.2⟩
