/-! the heap of the analysis: how many there are, lengths, kinds of cells, cells that are known -/
abbrev ab_G : Type := Nat × Nat × Nat × Nat × Nat × ab_T
abbrev ab_O : Type := Nat × Nat × Nat × ab_V
abbrev ab_H : Type := List (Nat × ab_E) × List (Nat × Nat × Nat × Nat) × List ab_G × List ab_O
def ab_hp (n : Nat) (ν : ab_N) (H : ab_H) (σ : mS) : Prop := (∀ q ∈ H.1, ab_I n ν q.2 (σ.1 q.1 : Int)) ∧ (∀ q ∈ H.2.1, ∀ i, q.2.1 ≤ i → i ≤ q.2.2.1 → σ.2.1 q.1 i = q.2.2.2) ∧ (∀ g ∈ H.2.2.1, ∀ i k, g.2.1 ≤ i → i ≤ g.2.2.1 → g.2.2.2.1 ≤ k → k ≤ g.2.2.2.2.1 → ab_Tr g.2.2.2.2.2 (m_get σ g.1 i k)) ∧ ∀ o ∈ H.2.2.2, ab_Vr n ν o.2.2.2 (m_get σ o.1 o.2.1 o.2.2.1)
def ab_key (c i k : Nat) (o : ab_O) : Bool := Nat.beq o.1 c && (Nat.beq o.2.1 i && Nat.beq o.2.2.1 k)
def ab_fits (c : Nat) (p q : Int × Int) (g : ab_G) : Bool := Nat.beq g.1 c && (ab_le (g.2.1 : Int) p.1 && (ab_le p.2 (g.2.2.1 : Int) && (ab_le (g.2.2.2.1 : Int) q.1 && ab_le q.2 (g.2.2.2.2.1 : Int))))
def ab_rdG (C : ab_C) (H : ab_H) (c : Nat) (e k : ab_E) : Option (ab_C × ab_V) := match H.2.2.1.find? (ab_fits c (ab_iv C.1 e) (ab_iv C.1 k)) with
  | some g => some (ab_of C g.2.2.2.2.2)
  | none => none
/-- one number alone -/
def ab_one (p : Int × Int) : Bool := ab_le p.2 p.1
/-- a cell is read -/
def ab_rd (C : ab_C) (H : ab_H) (c : Nat) (e k : ab_E) : Option (ab_C × ab_V) := bif ab_one (ab_iv C.1 e) && ab_one (ab_iv C.1 k) then
    (match H.2.2.2.find? (ab_key c (ab_iv C.1 e).1.toNat (ab_iv C.1 k).1.toNat) with
    | some o => some (C, o.2.2.2)
    | none => ab_rdG C H c e k)
  else ab_rdG C H c e k
def ab_hitG (c : Nat) (p q : Int × Int) (g : ab_G) : Bool := Nat.beq g.1 c && (ab_le (g.2.1 : Int) p.2 && (ab_le p.1 (g.2.2.1 : Int) && (ab_le (g.2.2.2.1 : Int) q.2 && ab_le q.1 (g.2.2.2.2.1 : Int))))
def ab_hitO (c : Nat) (p q : Int × Int) (o : ab_O) : Bool := Nat.beq o.1 c && (ab_le (o.2.1 : Int) p.2 && (ab_le p.1 (o.2.1 : Int) && (ab_le (o.2.2.1 : Int) q.2 && ab_le q.1 (o.2.2.1 : Int))))
def ab_gw (C : ab_C) (c : Nat) (p q : Int × Int) (v : ab_V) : List ab_G → Option (List ab_G)
  | [] => some []
  | g :: t => match ab_gw C c p q v t with
    | none => none
    | some t' => bif ab_hitG c p q g then (match ab_jn C v g.2.2.2.2.2 with
        | some T => some ((g.1, g.2.1, g.2.2.1, g.2.2.2.1, g.2.2.2.2.1, T) :: t')
        | none => none)
      else some (g :: t')
def ab_gwq (C : ab_C) (c : Nat) (p q : Int × Int) (v : ab_V) (G : List ab_G) : Option (List ab_G) :=
  bif G.all (fun g => !(ab_hitG c p q g) || ab_in C v g.2.2.2.2.2) then some G else ab_gw C c p q v G
/-- a cell is written -/
def ab_wr (C : ab_C) (H : ab_H) (c : Nat) (e k : ab_E) (v : ab_V) : Option ab_H := match ab_gwq C c (ab_iv C.1 e) (ab_iv C.1 k) v H.2.2.1 with
  | some G => some (H.1, H.2.1, G, bif ab_one (ab_iv C.1 e) && ab_one (ab_iv C.1 k) then (c, (ab_iv C.1 e).1.toNat, (ab_iv C.1 k).1.toNat, v) :: H.2.2.2.filter (fun o => !(ab_hitO c (ab_iv C.1 e) (ab_iv C.1 k) o)) else H.2.2.2.filter (fun o => !(ab_hitO c (ab_iv C.1 e) (ab_iv C.1 k) o)))
  | none => none
def ab_zT (T : ab_T) : ab_T := (T.1, T.2.1, ab_mn T.2.2.1 0, ab_mx T.2.2.2.1 0, 0, T.2.2.2.2.2)
def ab_zv (c k : Nat) : ab_V := match m_ty c k with
  | 1 => .inr (.inl (0, 0))
  | 2 => .inr (.inr (.inl (0, (0, 0), (0, 0))))
  | _ => .inl (0, 0)
def ab_za (c : Nat) : ab_T := match m_ty c 0 with
  | 1 => (1, 0, 0, 0, 0, 0)
  | 2 => (2, 0, 0, 0, 0, 0)
  | _ => (0, 0, 0, 0, 0, 0)
def ab_cnt (H : ab_H) (c : Nat) : Option ab_E := match H.1.find? (fun q => Nat.beq q.1 c) with
  | some q => some q.2
  | none => none
/-- one more length: an entry that goes on, or a new one -/
def ab_lnA (c i len : Nat) : List (Nat × Nat × Nat × Nat) → List (Nat × Nat × Nat × Nat)
  | [] => [(c, i, i, len)]
  | q :: t => bif Nat.beq q.1 c && (Nat.beq (q.2.2.1 + 1) i && Nat.beq q.2.2.2 len) then (c, q.2.1, i, len) :: t else q :: ab_lnA c i len t
theorem ab_lnA_ok {c i len : Nat} {P : Nat → Nat → Nat → Prop} (h1 : P c i len) : ∀ {l : List (Nat × Nat × Nat × Nat)}, (∀ q ∈ l, ∀ j, q.2.1 ≤ j → j ≤ q.2.2.1 → P q.1 j q.2.2.2) → ∀ q ∈ ab_lnA c i len l, ∀ j, q.2.1 ≤ j → j ≤ q.2.2.1 → P q.1 j q.2.2.2
  | [], _, q, hq, j, g1, g2 => by
    have e := List.mem_singleton.mp hq
    subst e
    have g1' : i ≤ j := g1
    have g2' : j ≤ i := g2
    have e2 : j = i := by omega
    subst e2
    exact h1
  | q0 :: t, h, q, hq, j, g1, g2 => by
    unfold ab_lnA at hq
    cases hb : (Nat.beq q0.1 c && (Nat.beq (q0.2.2.1 + 1) i && Nat.beq q0.2.2.2 len)) with
    | true =>
      rw [hb] at hq
      rw [Bool.and_eq_true, Bool.and_eq_true] at hb
      rcases List.mem_cons.mp hq with rfl | hq
      · have e1 := Nat.eq_of_beq_eq_true hb.1
        have e2 := Nat.eq_of_beq_eq_true hb.2.1
        have e3 := Nat.eq_of_beq_eq_true hb.2.2
        by_cases e4 : j = i
        · subst e4; exact h1
        · have g1' : q0.2.1 ≤ j := g1
          have g2' : j ≤ i := g2
          have := h q0 List.mem_cons_self j g1' (by omega)
          rw [e1, e3] at this
          exact this
      · exact h q (List.mem_cons_of_mem _ hq) j g1 g2
    | false =>
      rw [hb] at hq
      rcases List.mem_cons.mp hq with rfl | hq
      · exact h q List.mem_cons_self j g1 g2
      · exact ab_lnA_ok h1 (fun q hq => h q (List.mem_cons_of_mem _ hq)) q hq j g1 g2
def ab_lnF (C : ab_C) (c : Nat) (e : ab_E) (l : List (Nat × Nat × Nat × Nat)) : List (Nat × Nat × Nat × Nat) := l.filter (fun q => !(Nat.beq q.1 c && (ab_le (q.2.1 : Int) (ab_iv C.1 e).2 && ab_le (ab_iv C.1 e).1 (q.2.2.1 : Int))))
/-- one more of a class: its number, the heap behind -/
def ab_nw (C : ab_C) (H : ab_H) (c len : Nat) (arr : Bool) (e : ab_E) : ab_H :=
  (H.1.map (fun q => bif Nat.beq q.1 c then (q.1, (q.2.1, q.2.2 + 1)) else q),
   bif arr && Nat.beq e.1 0 then ab_lnA c e.2.toNat len (ab_lnF C c e H.2.1) else ab_lnF C c e H.2.1,
   (bif arr && Nat.beq e.1 0 then [(c, e.2.toNat, e.2.toNat, 0, len, ab_za c)] else []) ++ H.2.2.1.map (fun g => bif Nat.beq g.1 c && (ab_le (g.2.1 : Int) (ab_iv C.1 e).2 && ab_le (ab_iv C.1 e).1 (g.2.2.1 : Int)) then (g.1, g.2.1, g.2.2.1, g.2.2.2.1, g.2.2.2.2.1, ab_zT g.2.2.2.2.2) else g),
   (bif !arr && Nat.beq e.1 0 then (List.range (m_nf c)).map (fun k => (c, e.2.toNat, k, ab_zv c k)) else []) ++ H.2.2.2.filter (fun o => !(Nat.beq o.1 c && (ab_le (o.2.1 : Int) (ab_iv C.1 e).2 && ab_le (ab_iv C.1 e).1 (o.2.1 : Int)))))
/-- whether a value is one of the field's kind -/
def ab_tp (C : ab_C) (c k : Nat) (v : ab_V) : Bool := match v with
  | .inl e => Nat.beq (m_ty c k) 0 || (Nat.beq (m_ty c k) 3 && (ab_le 0 (ab_iv C.1 e).1 && ab_le (ab_iv C.1 e).2 1))
  | .inr (.inl _) => Nat.beq (m_ty c k) 1
  | .inr (.inr (.inl _)) => Nat.beq (m_ty c k) 2
  | .inr (.inr (.inr _)) => false
section AB6
variable {xs : ab_X} {C : ab_C} {ν ν' : ab_N} {H H' : ab_H} {σ : mS} {c i k : Nat} {e f : ab_E} {v : ab_V} {x : mV} {n n' : Nat}
theorem ab_hp.ex (h : ab_hp n ν H σ) (g : ab_ex n ν ν') (hn : n ≤ n') : ab_hp n' ν' H σ :=
  ⟨fun q hq => (h.1 q hq).ex g hn, h.2.1, h.2.2.1, fun o ho => (h.2.2.2 o ho).ex g hn⟩
theorem ab_tp_ok (h : ab_cx xs C ν) (hv : ab_Vr C.1.length ν v x) (ht : ab_tp C c k v = true) : m_tp (m_ty c k) x := by
  rcases v with a | a | a | a
  · obtain ⟨y, rfl, g⟩ := ab_Vi hv
    unfold ab_tp at ht
    simp only [Bool.or_eq_true, Bool.and_eq_true, ab_le_ok] at ht
    have := ab_iv_ok h.1 g
    rcases ht with ht | ⟨h1, h2, h3⟩
    · exact Or.inl (Nat.eq_of_beq_eq_true ht)
    · refine Or.inr ⟨Nat.eq_of_beq_eq_true h1, ?_⟩
      have h4 : y.toInt = 0 ∨ y.toInt = 1 := by omega
      rcases h4 with h4 | h4
      · exact Or.inl (Int32.toInt_inj.mp h4)
      · exact Or.inr (Int32.toInt_inj.mp h4)
  · obtain ⟨y, rfl, g⟩ := ab_Vl hv
    exact Nat.eq_of_beq_eq_true ht
  · obtain ⟨y, rfl, g⟩ := ab_Va hv
    exact Nat.eq_of_beq_eq_true ht
  · cases ht
theorem ab_rdG_ok {r : ab_C × ab_V} (h : ab_cx xs C ν) (hp : ab_hp C.1.length ν H σ) (he : ab_I C.1.length ν e (i : Int)) (hk : ab_I C.1.length ν f (k : Int)) (hr : ab_rdG C H c e f = some r) :
    ∃ ν', ab_up xs C ν r.1 ν' ∧ ab_Vr r.1.1.length ν' r.2 (m_get σ c i k) := by
  unfold ab_rdG at hr
  cases hg : H.2.2.1.find? (ab_fits c (ab_iv C.1 e) (ab_iv C.1 f)) with
  | none => rw [hg] at hr; cases hr
  | some g =>
    rw [hg] at hr
    cases hr
    have g1 := List.mem_of_find?_eq_some hg
    have g2 := List.find?_some hg
    unfold ab_fits at g2
    simp only [Bool.and_eq_true, ab_le_ok] at g2
    obtain ⟨a1, a2, a3, a4, a5⟩ := g2
    have b1 := ab_iv_ok h.1 he
    have b2 := ab_iv_ok h.1 hk
    have e1 := Nat.eq_of_beq_eq_true a1
    subst e1
    exact ab_of_ok h (hp.2.2.1 g g1 i k (by omega) (by omega) (by omega) (by omega))
theorem ab_con_e (h : ab_cx xs C ν) (he : ab_I C.1.length ν e (i : Int)) (h0 : Nat.beq e.1 0 = true) : e.2.toNat = i := by
  have e1 := Nat.eq_of_beq_eq_true h0
  have := he.2
  rw [e1, h.1.1] at this
  omega
theorem ab_con_s (h : ab_cx xs C ν) (he : ab_I C.1.length ν e (i : Int)) (h0 : ab_one (ab_iv C.1 e) = true) : (ab_iv C.1 e).1.toNat = i := by
  have e1 := ab_le_ok.mp h0
  have b := ab_iv_ok h.1 he
  omega
theorem ab_rd_ok {r : ab_C × ab_V} (h : ab_cx xs C ν) (hp : ab_hp C.1.length ν H σ) (he : ab_I C.1.length ν e (i : Int)) (hk : ab_I C.1.length ν f (k : Int)) (hr : ab_rd C H c e f = some r) :
    ∃ ν', ab_up xs C ν r.1 ν' ∧ ab_Vr r.1.1.length ν' r.2 (m_get σ c i k) := by
  unfold ab_rd at hr
  cases hb : (ab_one (ab_iv C.1 e) && ab_one (ab_iv C.1 f)) with
  | false => rw [hb] at hr; exact ab_rdG_ok h hp he hk hr
  | true =>
    rw [hb] at hr
    dsimp only [cond_true] at hr
    rw [Bool.and_eq_true] at hb
    cases ho : H.2.2.2.find? (ab_key c (ab_iv C.1 e).1.toNat (ab_iv C.1 f).1.toNat) with
    | none => rw [ho] at hr; exact ab_rdG_ok h hp he hk hr
    | some o =>
      rw [ho] at hr
      cases hr
      have g1 := List.mem_of_find?_eq_some ho
      have g2 := List.find?_some ho
      unfold ab_key at g2
      rw [Bool.and_eq_true, Bool.and_eq_true] at g2
      have e1 := Nat.eq_of_beq_eq_true g2.1
      have e2 := Nat.eq_of_beq_eq_true g2.2.1
      have e3 := Nat.eq_of_beq_eq_true g2.2.2
      rw [ab_con_s h he hb.1] at e2
      rw [ab_con_s h hk hb.2] at e3
      subst e1; subst e2; subst e3
      exact ⟨ν, ab_up.rf h, hp.2.2.2 o g1⟩
theorem ab_gw_ok (h : ab_cx xs C ν) {p q : Int × Int} : ∀ {G G' : List ab_G}, ab_gw C c p q v G = some G' → ∀ g' ∈ G', ∃ g ∈ G, g'.1 = g.1 ∧ g'.2.1 = g.2.1 ∧ g'.2.2.1 = g.2.2.1 ∧ g'.2.2.2.1 = g.2.2.2.1 ∧ g'.2.2.2.2.1 = g.2.2.2.2.1 ∧ (∀ x, ab_Tr g.2.2.2.2.2 x → ab_Tr g'.2.2.2.2.2 x) ∧ (ab_hitG c p q g = true → ∀ x, ab_Vr C.1.length ν v x → ab_Tr g'.2.2.2.2.2 x)
  | [], G', hG, g', hg' => by cases hG; cases hg'
  | g :: t, G', hG, g', hg' => by
    unfold ab_gw at hG
    cases ht : ab_gw C c p q v t with
    | none => rw [ht] at hG; cases hG
    | some t' =>
      rw [ht] at hG
      dsimp only at hG
      have tail : g' ∈ t' → ∃ g0 ∈ g :: t, g'.1 = g0.1 ∧ g'.2.1 = g0.2.1 ∧ g'.2.2.1 = g0.2.2.1 ∧ g'.2.2.2.1 = g0.2.2.2.1 ∧ g'.2.2.2.2.1 = g0.2.2.2.2.1 ∧ (∀ x, ab_Tr g0.2.2.2.2.2 x → ab_Tr g'.2.2.2.2.2 x) ∧ (ab_hitG c p q g0 = true → ∀ x, ab_Vr C.1.length ν v x → ab_Tr g'.2.2.2.2.2 x) := fun hm => by
        obtain ⟨g0, h1, h2⟩ := ab_gw_ok h ht g' hm
        exact ⟨g0, List.mem_cons_of_mem _ h1, h2⟩
      cases hb : ab_hitG c p q g with
      | false =>
        rw [hb] at hG
        cases hG
        rcases List.mem_cons.mp hg' with rfl | hm
        · exact ⟨g', List.mem_cons_self, rfl, rfl, rfl, rfl, rfl, fun _ z => z, fun z => by rw [hb] at z; cases z⟩
        · exact tail hm
      | true =>
        rw [hb] at hG
        dsimp only [cond_true] at hG
        cases hj : ab_jn C v g.2.2.2.2.2 with
        | none => rw [hj] at hG; cases hG
        | some T =>
          rw [hj] at hG
          cases hG
          rcases List.mem_cons.mp hg' with rfl | hm
          · have := ab_jn_ok h hj
            exact ⟨g, List.mem_cons_self, rfl, rfl, rfl, rfl, rfl, this.1, fun _ => this.2⟩
          · exact tail hm
theorem ab_gwq_ok (h : ab_cx xs C ν) {p q : Int × Int} {G G' : List ab_G} (hG : ab_gwq C c p q v G = some G') : ∀ g' ∈ G', ∃ g ∈ G, g'.1 = g.1 ∧ g'.2.1 = g.2.1 ∧ g'.2.2.1 = g.2.2.1 ∧ g'.2.2.2.1 = g.2.2.2.1 ∧ g'.2.2.2.2.1 = g.2.2.2.2.1 ∧ (∀ x, ab_Tr g.2.2.2.2.2 x → ab_Tr g'.2.2.2.2.2 x) ∧ (ab_hitG c p q g = true → ∀ x, ab_Vr C.1.length ν v x → ab_Tr g'.2.2.2.2.2 x) := by
  unfold ab_gwq at hG
  cases hb : G.all (fun g => !(ab_hitG c p q g) || ab_in C v g.2.2.2.2.2) with
  | false => rw [hb] at hG; exact ab_gw_ok h hG
  | true =>
    rw [hb] at hG
    cases hG
    intro g hg
    have h1 := List.all_eq_true.mp hb g hg
    refine ⟨g, hg, rfl, rfl, rfl, rfl, rfl, fun _ z => z, fun h2 x hx => ?_⟩
    rw [h2] at h1
    exact ab_in_ok h hx h1
theorem ab_wr_ok (h : ab_cx xs C ν) (hp : ab_hp C.1.length ν H σ) (he : ab_I C.1.length ν e (i : Int)) (hk : ab_I C.1.length ν f (k : Int)) (hv : ab_Vr C.1.length ν v x) (ht : m_tp (m_ty c k) x) (hw : ab_wr C H c e f v = some H') : ab_hp C.1.length ν H' (m_set σ c i k x) := by
  unfold ab_wr at hw
  cases hG : ab_gwq C c (ab_iv C.1 e) (ab_iv C.1 f) v H.2.2.1 with
  | none => rw [hG] at hw; cases hw
  | some G =>
  rw [hG] at hw
  cases hw
  have b1 := ab_iv_ok h.1 he
  have b2 := ab_iv_ok h.1 hk
  have fil : ∀ o ∈ H.2.2.2.filter (fun o => !(ab_hitO c (ab_iv C.1 e) (ab_iv C.1 f) o)), ab_Vr C.1.length ν o.2.2.2 (m_get (m_set σ c i k x) o.1 o.2.1 o.2.2.1) := by
    intro o ho
    obtain ⟨o1, o2⟩ := List.mem_filter.mp ho
    have hne : ¬ (o.1 = c ∧ o.2.1 = i ∧ o.2.2.1 = k) := by
      rintro ⟨e1, e2, e3⟩
      have : ab_hitO c (ab_iv C.1 e) (ab_iv C.1 f) o = true := by
        unfold ab_hitO
        simp only [Bool.and_eq_true, ab_le_ok]
        exact ⟨by rw [e1]; exact Nat.beq_refl c, by omega, by omega, by omega, by omega⟩
      rw [this] at o2
      cases o2
    rw [m_get_ne σ x hne]
    exact hp.2.2.2 o o1
  refine ⟨by rw [m_set_1]; exact hp.1, by rw [m_set_2]; exact hp.2.1, fun g' hg' i' k' h1 h2 h3 h4 => ?_, fun o ho => ?_⟩
  · obtain ⟨g, hg, e1, e2, e3, e4, e5, e6, e7⟩ := ab_gwq_ok h hG g' hg'
    rw [e1]
    by_cases hq : g.1 = c ∧ i' = i ∧ k' = k
    · obtain ⟨q1, q2, q3⟩ := hq
      subst q2; subst q3
      rw [q1, m_get_eq σ ht]
      refine e7 ?_ x hv
      unfold ab_hitG
      simp only [Bool.and_eq_true, ab_le_ok]
      exact ⟨by rw [q1]; exact Nat.beq_refl c, by omega, by omega, by omega, by omega⟩
    · rw [m_get_ne σ x hq]
      exact e6 _ (hp.2.2.1 g hg i' k' (by omega) (by omega) (by omega) (by omega))
  · dsimp only at ho
    cases hb : (ab_one (ab_iv C.1 e) && ab_one (ab_iv C.1 f)) with
    | false => rw [hb] at ho; exact fil o ho
    | true =>
      rw [hb] at ho
      rw [Bool.and_eq_true] at hb
      rcases List.mem_cons.mp ho with rfl | ho
      · show ab_Vr _ _ v (m_get (m_set σ c i k x) c (ab_iv C.1 e).1.toNat (ab_iv C.1 f).1.toNat)
        rw [ab_con_s h he hb.1, ab_con_s h hk hb.2, m_get_eq σ ht]
        exact hv
      · exact fil o ho
theorem ab_zT_of {T : ab_T} (hx : ab_Tr T x) : ab_Tr (ab_zT T) x := by
  have m1 := ab_mn_ok T.2.2.1 0
  have m2 := ab_mx_ok T.2.2.2.1 0
  rcases x with y | y | r
  · exact ⟨hx.1, by show ab_mn _ _ ≤ _; have := hx.2; omega, by show _ ≤ ab_mx _ _; have := hx.2; omega⟩
  · exact ⟨hx.1, by show ab_mn _ _ ≤ _; have := hx.2; omega, by show _ ≤ ab_mx _ _; have := hx.2; omega⟩
  · cases r with
    | none => exact ⟨hx.1, rfl⟩
    | some p =>
      obtain ⟨a1, a2, a3, a4, a5⟩ := hx
      exact ⟨a1, a2, a3, by show ab_mn _ _ ≤ _; omega, by show _ ≤ ab_mx _ _; omega⟩
theorem ab_zT_z {T : ab_T} (hx : ab_Tr T (m_get σ c i k)) : ab_Tr (ab_zT T) (m_zero (m_ty c k)) := by
  have m1 := ab_mn_ok T.2.2.1 0
  have m2 := ab_mx_ok T.2.2.2.1 0
  have h0 : Int32.toInt 0 = 0 := rfl
  have h1 : Int64.toInt 0 = 0 := rfl
  unfold m_get at hx
  unfold m_zero
  split at hx
  · exact ⟨hx.1, by show ab_mn _ _ ≤ Int64.toInt 0; omega, by show Int64.toInt 0 ≤ ab_mx _ _; omega⟩
  · rename_i hty
    have hx1 : T.1 = 2 := by
      generalize m_r σ c i k = r at hx
      cases r with
      | none => exact hx.1
      | some p => exact hx.1
    exact ⟨hx1, rfl⟩
  · exact ⟨hx.1, by show ab_mn _ _ ≤ Int32.toInt 0; omega, by show Int32.toInt 0 ≤ ab_mx _ _; omega⟩
theorem ab_zv_ok (h : ab_cx xs C ν) : ab_Vr C.1.length ν (ab_zv c k) (m_zero (m_ty c k)) := by
  unfold ab_zv
  generalize m_ty c k = t
  match t with
  | 0 => exact ab_con h
  | 1 => exact ab_con h
  | 2 => exact ⟨h.2.1, h.2.1, by show ν 0 + 0 = 0; rw [h.1.1]; rfl⟩
  | _ + 3 => exact ab_con h
theorem ab_cnt_ok (hp : ab_hp n ν H σ) (he : ab_cnt H c = some e) : ab_I n ν e (σ.1 c : Int) := by
  unfold ab_cnt at he
  cases hq : H.1.find? (fun q => Nat.beq q.1 c) with
  | none => rw [hq] at he; cases he
  | some q =>
    rw [hq] at he
    cases he
    have g1 := List.mem_of_find?_eq_some hq
    have g2 := List.find?_some hq
    have e1 := Nat.eq_of_beq_eq_true g2
    rw [← e1]
    exact hp.1 q g1
theorem ab_nw_ok {len : Nat} {arr : Bool} (h : ab_cx xs C ν) (hp : ab_hp C.1.length ν H σ) (he : ab_I C.1.length ν e (σ.1 c : Int)) (hz : arr = true → ∀ k, m_ty c k = m_ty c 0) : ab_hp C.1.length ν (ab_nw C H c len arr e) (m_nu σ c len) := by
  have b1 := ab_iv_ok h.1 he
  refine ⟨fun q hq => ?_, fun q hq i' h1 h2 => ?_, fun g hg i' k' h1 h2 h3 h4 => ?_, fun o ho => ?_⟩
  · obtain ⟨q0, q1, rfl⟩ := List.mem_map.mp hq
    cases hb : Nat.beq q0.1 c with
    | true =>
      have e1 := Nat.eq_of_beq_eq_true hb
      have g := hp.1 q0 q1
      dsimp only [cond_true]
      rw [e1, m_nu_cnt]
      rw [e1] at g
      exact ⟨g.1, by show ((σ.1 c + 1 : Nat) : Int) = ν q0.2.1 + (q0.2.2 + 1); have := g.2; omega⟩
    | false =>
      dsimp only [cond_false]
      rw [m_nu_cntO σ (fun z => by rw [z, Nat.beq_refl] at hb; cases hb)]
      exact hp.1 q0 q1
  · have base : ∀ q ∈ ab_lnF C c e H.2.1, ∀ i', q.2.1 ≤ i' → i' ≤ q.2.2.1 → (m_nu σ c len).2.1 q.1 i' = q.2.2.2 := by
      intro q hq i' h1 h2
      obtain ⟨q1, q2⟩ := List.mem_filter.mp hq
      rw [m_nu_len σ ?_]
      · exact hp.2.1 q q1 i' h1 h2
      · rintro ⟨e1, e2⟩
        have : (Nat.beq q.1 c && (ab_le (q.2.1 : Int) (ab_iv C.1 e).2 && ab_le (ab_iv C.1 e).1 (q.2.2.1 : Int))) = true := by
          simp only [Bool.and_eq_true, ab_le_ok]
          exact ⟨by rw [e1]; exact Nat.beq_refl c, by omega, by omega⟩
        rw [this] at q2
        cases q2
    cases hb : (arr && Nat.beq e.1 0) with
    | false =>
      have hq' : q ∈ (bif (arr && Nat.beq e.1 0) then ab_lnA c e.2.toNat len (ab_lnF C c e H.2.1) else ab_lnF C c e H.2.1) := hq
      rw [hb] at hq'
      exact base q hq' i' h1 h2
    | true =>
      have hq' : q ∈ (bif (arr && Nat.beq e.1 0) then ab_lnA c e.2.toNat len (ab_lnF C c e H.2.1) else ab_lnF C c e H.2.1) := hq
      rw [hb] at hq'
      rw [Bool.and_eq_true] at hb
      have e1 := ab_con_e h he hb.2
      exact ab_lnA_ok (P := fun c' j l => (m_nu σ c len).2.1 c' j = l) (by rw [e1]; exact m_nu_lenN σ) base q hq' i' h1 h2
  · rcases List.mem_append.mp hg with hg | hg
    · cases hb : (arr && Nat.beq e.1 0) with
      | false => rw [hb] at hg; cases hg
      | true =>
        rw [hb] at hg
        have hg := List.mem_singleton.mp hg
        subst hg
        rw [Bool.and_eq_true] at hb
        have e1 := ab_con_e h he hb.2
        have e2 : i' = σ.1 c := by
          have h1' : e.2.toNat ≤ i' := h1
          have h2' : i' ≤ e.2.toNat := h2
          omega
        subst e2
        show ab_Tr (ab_za c) (m_get (m_nu σ c len) c (σ.1 c) k')
        rw [m_nu_new, hz hb.1 k']
        unfold ab_za
        generalize m_ty c 0 = t
        match t with
        | 0 => exact ⟨rfl, Int.le_refl _, Int.le_refl _⟩
        | 1 => exact ⟨rfl, Int.le_refl _, Int.le_refl _⟩
        | 2 => exact ⟨rfl, rfl⟩
        | _ + 3 => exact ⟨rfl, Int.le_refl _, Int.le_refl _⟩
    · obtain ⟨g0, g1, rfl⟩ := List.mem_map.mp hg
      cases hb : (Nat.beq g0.1 c && (ab_le (g0.2.1 : Int) (ab_iv C.1 e).2 && ab_le (ab_iv C.1 e).1 (g0.2.2.1 : Int))) with
      | true =>
        rw [hb] at h1 h2 h3 h4
        dsimp only [cond_true] at h1 h2 h3 h4 ⊢
        have g9 := hp.2.2.1 g0 g1 i' k' h1 h2 h3 h4
        by_cases hq : g0.1 = c ∧ i' = σ.1 c
        · obtain ⟨q1, q2⟩ := hq
          subst q2
          rw [q1] at g9 ⊢
          rw [m_nu_new]
          exact ab_zT_z g9
        · rw [m_nu_old σ hq]
          exact ab_zT_of g9
      | false =>
        rw [hb] at h1 h2 h3 h4
        dsimp only [cond_false] at h1 h2 h3 h4 ⊢
        rw [m_nu_old σ ?_]
        · exact hp.2.2.1 g0 g1 i' k' h1 h2 h3 h4
        · rintro ⟨e1, e2⟩
          have : (Nat.beq g0.1 c && (ab_le (g0.2.1 : Int) (ab_iv C.1 e).2 && ab_le (ab_iv C.1 e).1 (g0.2.2.1 : Int))) = true := by
            simp only [Bool.and_eq_true, ab_le_ok]
            exact ⟨by rw [e1]; exact Nat.beq_refl c, by omega, by omega⟩
          rw [this] at hb
          cases hb
  · rcases List.mem_append.mp ho with ho | ho
    · cases hb : (!arr && Nat.beq e.1 0) with
      | false => rw [hb] at ho; cases ho
      | true =>
        rw [hb] at ho
        rw [Bool.and_eq_true] at hb
        obtain ⟨k', k1, rfl⟩ := List.mem_map.mp ho
        show ab_Vr _ _ (ab_zv c k') (m_get (m_nu σ c len) c e.2.toNat k')
        rw [ab_con_e h he hb.2, m_nu_new]
        exact ab_zv_ok h
    · obtain ⟨o1, o2⟩ := List.mem_filter.mp ho
      rw [m_nu_old σ ?_]
      · exact hp.2.2.2 o o1
      · rintro ⟨e1, e2⟩
        have : (Nat.beq o.1 c && (ab_le (o.2.1 : Int) (ab_iv C.1 e).2 && ab_le (ab_iv C.1 e).1 (o.2.1 : Int))) = true := by
          simp only [Bool.and_eq_true, ab_le_ok]
          exact ⟨by rw [e1]; exact Nat.beq_refl c, by omega, by omega⟩
        rw [this] at o2
        cases o2
end AB6
