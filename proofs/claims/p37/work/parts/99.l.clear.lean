/-! a hall is cleared, by hand -/
section ER3
variable {j : Nat} {z : mAl} {q : mX × mS} {pc : Nat} {L : List (Option mV)} {st : List mV} {σ : mS} {k n : Nat}
theorem er_last {e : Nat × Nat × Nat × Int × List Nat} {p : Nat × Nat} {x : Int32} {l : Nat} {v : Int64} (hr : m_at z.2.1 pc = some (.lastore, e)) (hl : x.toNatClampNeg = l) (hm : p.1 = 14 ∧ vp_in x (σ.2.1 14 p.2)) (K : ER j z (pc + 1, L, st, m_set σ 14 p.2 l (.inr (.inl v)), k, n) q) : ER j z (pc, L, .inr (.inl v) :: .inl x :: .inr (.inr (some p)) :: st, σ, k, n) q := by
  refine er_nx ?_ K
  unfold ev_st ev_nf
  dsimp only
  rw [hr]
  dsimp only
  subst hl
  have : ev_last σ (.inr (.inl v) :: .inl x :: .inr (.inr (some p)) :: st) = some (st, m_set σ 14 p.2 x.toNatClampNeg (.inr (.inl v))) := ev_if_some.mpr ⟨hm, rfl⟩
  rw [this]
  rfl
theorem er_ald {e : Nat × Nat × Nat × Int × List Nat} {p : Nat × Nat} {x : Int32} {l : Nat} {v : mV} (hr : m_at z.2.1 pc = some (.aaload, e)) (hl : x.toNatClampNeg = l) (hm : (16 ≤ p.1 ∧ p.1 ≤ 21) ∧ vp_in x (σ.2.1 p.1 p.2)) (hv : m_get σ p.1 p.2 l = v) (K : ER j z (pc + 1, L, v :: st, σ, k, n) q) : ER j z (pc, L, .inl x :: .inr (.inr (some p)) :: st, σ, k, n) q := by
  refine er_nx ?_ K
  unfold ev_st ev_nf
  dsimp only
  rw [hr]
  dsimp only
  subst hl
  have : ev_aldq σ (.inl x :: .inr (.inr (some p)) :: st) = some (m_get σ p.1 p.2 x.toNatClampNeg :: st) := ev_if_some.mpr ⟨hm, rfl⟩
  rw [this, hv]
  rfl
theorem er_vir {i : Nat} {e : Nat × Nat × Nat × Int × List Nat} {p : Nat × Nat} {as : List mV} {y : mMt} {v : Option mV} {σ' : mS} (hr : m_at z.2.1 pc = some (.invokevirtual i, e)) (hy : m_mt[e.2.1]? = some y) (hp : p.1 = m_p (.invokevirtual i, e) 5) (ha : as.length = e.2.2.1) (hL : L.length = z.1.2.2.1) (hm : (st.map m_cat).sum ≤ 8 ∧ m_rm z.1.2.2.2.2.1 (k + y.2.2.2.2.1.cells) (n + y.2.2.2.2.1.slots))
    (hc : ev_run sm_all e.2.1 (.inr (.inr (some p)) :: as.reverse) σ (.inl v) σ') (K : ER j z (pc + 3, L, v.toList ++ st, σ', k + y.2.2.2.2.1.cells, n + y.2.2.2.2.1.slots) q) : ER j z (pc, L, as ++ .inr (.inr (some p)) :: st, σ, k, n) q := by
  refine er_cl (c := (e.2.1, y, .inr (.inr (some p)) :: as.reverse, st)) ?_ hc K
  unfold ev_st ev_nf
  dsimp only
  rw [hr]
  dsimp only
  refine ev_if_some.mpr ⟨hL, ?_⟩
  rw [hy]
  dsimp only
  unfold ev_callV
  have e1 : (as ++ (.inr (.inr (some p)) : mV) :: st).drop e.2.2.1 = .inr (.inr (some p)) :: st := by rw [← ha, List.drop_left]
  have e2 : (as ++ (.inr (.inr (some p)) : mV) :: st).take e.2.2.1 = as := by rw [← ha, List.take_left]
  rw [e1]
  dsimp only
  refine ev_if_some.mpr ⟨⟨hp, by rw [e2]; exact ha, hm.1, hm.2⟩, ?_⟩
  unfold m_take
  rw [e2, ← hp]
end ER3
/-- what a cleared field holds -/
def fv (c k : Nat) : mV := if c = 8 ∧ k = 6 then .inl 1 else hz c k
/-- the cells P are cleared, the others stay -/
def zs (P : Nat → Nat → Nat → Prop) (τ τ' : mS) : Prop := τ'.1 = τ.1 ∧ τ'.2.1 = τ.2.1 ∧ (∀ c j k, P c j k → m_get τ' c j k = fv c k) ∧ ∀ c j k, ¬ P c j k → m_get τ' c j k = m_get τ c j k
theorem zs.rf' {τ : mS} : zs (fun _ _ _ => False) τ τ := ⟨rfl, rfl, fun _ _ _ h => h.elim, fun _ _ _ _ => rfl⟩
theorem zs.ex {P P' : Nat → Nat → Nat → Prop} {τ τ' : mS} (h : zs P τ τ') (hP : ∀ c j k, P c j k ↔ P' c j k) : zs P' τ τ' := ⟨h.1, h.2.1, fun c j k p => h.2.2.1 c j k ((hP c j k).mpr p), fun c j k p => h.2.2.2 c j k (fun z => p ((hP c j k).mp z))⟩
theorem zs.tr {P P' : Nat → Nat → Nat → Prop} {τ τ1 τ2 : mS} (h : zs P τ τ1) (g : zs P' τ1 τ2) : zs (fun c j k => P c j k ∨ P' c j k) τ τ2 := by
  refine ⟨g.1.trans h.1, g.2.1.trans h.2.1, fun c j k p => ?_, fun c j k p => ?_⟩
  · by_cases x : P' c j k
    · exact g.2.2.1 c j k x
    · rw [g.2.2.2 c j k x]
      exact h.2.2.1 c j k (p.elim (fun y => y) (fun y => absurd y x))
  · rw [g.2.2.2 c j k (fun z => p (Or.inr z)), h.2.2.2 c j k (fun z => p (Or.inl z))]
theorem zs.set {P : Nat → Nat → Nat → Prop} {τ τ' : mS} {c j k : Nat} {v : mV} (h : zs P τ τ') (hv : v = fv c k) (ht : m_tp (m_ty c k) v) : zs (fun c' j' k' => P c' j' k' ∨ (c' = c ∧ j' = j ∧ k' = k)) τ (m_set τ' c j k v) := by
  refine h.tr ⟨m_set_1 .., m_set_2 .., fun c' j' k' e => ?_, fun c' j' k' e => m_get_ne _ _ e⟩
  obtain ⟨rfl, rfl, rfl⟩ := e
  rw [m_get_eq _ ht, hv]
theorem zs.u0 {P : Nat → Nat → Nat → Prop} {τ τ' : mS} (c j l : Nat) (h : zs P τ τ') : zs (fun c' j' k' => P c' j' k' ∨ (c' = c ∧ j' = j ∧ l + 1 ≤ k' ∧ k' ≤ l)) τ τ' := by
  refine h.ex (fun c' j' k' => ⟨Or.inl, fun y => y.elim (fun x => x) (fun x => ?_)⟩)
  omega
theorem zs.up {P : Nat → Nat → Nat → Prop} {τ τ' : mS} {c j l m : Nat} (k : Nat) (v : mV) (h : zs (fun c' j' k' => P c' j' k' ∨ (c' = c ∧ j' = j ∧ l ≤ k' ∧ k' ≤ m)) τ τ') (hk : k = m + 1) (hl : l ≤ k) (hv : v = fv c k) (ht : m_tp (m_ty c k) v) : zs (fun c' j' k' => P c' j' k' ∨ (c' = c ∧ j' = j ∧ l ≤ k' ∧ k' ≤ k)) τ (m_set τ' c j k v) := by
  refine (h.set hv ht).ex (fun c' j' k' => ?_)
  by_cases x : P c' j' k'
  · exact ⟨fun _ => Or.inl x, fun _ => Or.inl (Or.inl x)⟩
  · refine ⟨fun y => Or.inr ?_, fun y => ?_⟩
    · rcases y with (y | y) | y
      · exact absurd y x
      · exact ⟨y.1, y.2.1, y.2.2.1, by omega⟩
      · exact ⟨y.1, y.2.1, by omega, by omega⟩
    · rcases y with y | y
      · exact absurd y x
      · by_cases w : k' = k
        · exact Or.inr ⟨y.1, y.2.1, w⟩
        · exact Or.inl (Or.inr ⟨y.1, y.2.1, y.2.2.1, by omega⟩)
theorem zs.no {P : Nat → Nat → Nat → Prop} {τ τ' : mS} (h : zs (fun c j k => False ∨ P c j k) τ τ') : zs P τ τ' := h.ex (fun _ _ _ => ⟨fun y => y.elim (fun z => z.elim) (fun z => z), Or.inr⟩)
def z1s : mAl := ((yX0_clear, cX0_clear, 1, none, { frames := 0, cells := 0, slots := 0, locals := 0 }, []), rw_X0_clear, false)
theorem z1s_at : m_alF[1]? = some z1s := rfl
theorem cr_1 {τ : mS} {a : Nat} : ∃ τ', ev_run sm_all 1 [rf 0 a] τ (.inl none) τ' ∧ zs (fun c j k => c = 0 ∧ j = a ∧ 1 ≤ k ∧ k ≤ 2) τ τ' := by
  refine ⟨_, er_go z1s_at (Nat.le_of_ble_eq_true rfl) ?_, (((zs.rf'.u0 0 a 0).up 1 (.inl (Int32.ofInt 0)) rfl (by decide) rfl (Or.inl rfl)).up 2 (.inl (Int32.ofInt 0)) rfl (by decide) rfl (Or.inl rfl)).no⟩
  refine er_p rfl rfl rfl rfl ?_
  refine er_p rfl rfl rfl rfl ?_
  refine er_put rfl rfl (Or.inl rfl) ?_
  refine er_p rfl rfl rfl rfl ?_
  refine er_p rfl rfl rfl rfl ?_
  refine er_put rfl rfl (Or.inl rfl) ?_
  exact er_ret rfl (by decide) rfl
def z111s : mAl := ((yX8_clear, cX8_clear, 1, none, { frames := 0, cells := 0, slots := 0, locals := 0 }, []), rw_X8_clear, false)
theorem z111s_at : m_alF[111]? = some z111s := rfl
theorem cr_111 {τ : mS} {a : Nat} : ∃ τ', ev_run sm_all 111 [rf 8 a] τ (.inl none) τ' ∧ zs (fun c j k => c = 8 ∧ j = a ∧ 1 ≤ k ∧ k ≤ 8) τ τ' := by
  refine ⟨_, er_go z111s_at (Nat.le_of_ble_eq_true rfl) ?_, (((((((((zs.rf'.u0 8 a 0).up 1 (.inl (Int32.ofInt 0)) rfl (by decide) rfl (Or.inl rfl)).up 2 (.inl (Int32.ofInt 0)) rfl (by decide) rfl (Or.inl rfl)).up 3 (.inl (Int32.ofInt 0)) rfl (by decide) rfl (Or.inl rfl)).up 4 (.inl (Int32.ofInt 0)) rfl (by decide) rfl (Or.inl rfl)).up 5 (.inl (Int32.ofInt 0)) rfl (by decide) rfl (Or.inl rfl)).up 6 (.inl (Int32.ofInt 1)) rfl (by decide) rfl (Or.inl rfl)).up 7 (.inl (Int32.ofInt 0)) rfl (by decide) rfl (Or.inr ⟨rfl, Or.inl rfl⟩)).up 8 (.inr (.inl (Int64.ofNat 0))) rfl (by decide) rfl rfl).no⟩
  refine er_p rfl rfl rfl rfl ?_
  refine er_p rfl rfl rfl rfl ?_
  refine er_put rfl rfl (Or.inl rfl) ?_
  refine er_p rfl rfl rfl rfl ?_
  refine er_p rfl rfl rfl rfl ?_
  refine er_put rfl rfl (Or.inl rfl) ?_
  refine er_p rfl rfl rfl rfl ?_
  refine er_p rfl rfl rfl rfl ?_
  refine er_put rfl rfl (Or.inl rfl) ?_
  refine er_p rfl rfl rfl rfl ?_
  refine er_p rfl rfl rfl rfl ?_
  refine er_put rfl rfl (Or.inl rfl) ?_
  refine er_p rfl rfl rfl rfl ?_
  refine er_p rfl rfl rfl rfl ?_
  refine er_put rfl rfl (Or.inl rfl) ?_
  refine er_p rfl rfl rfl rfl ?_
  refine er_p rfl rfl rfl rfl ?_
  refine er_put rfl rfl (Or.inl rfl) ?_
  refine er_p rfl rfl rfl rfl ?_
  refine er_p rfl rfl rfl rfl ?_
  refine er_put rfl rfl (Or.inr ⟨rfl, Or.inl rfl⟩) ?_
  refine er_p rfl rfl rfl rfl ?_
  refine er_p rfl rfl rfl rfl ?_
  refine er_put rfl rfl rfl ?_
  exact er_ret rfl (by decide) rfl
def z89s : mAl := ((yX6_clear, cX6_clear, 2, none, { frames := 0, cells := 0, slots := 0, locals := 0 }, []), rw_X6_clear, false)
theorem z89s_at : m_alF[89]? = some z89s := rfl
theorem cr_89 {τ : mS} {a p : Nat} (hp : m_get τ 6 a 1 = rf 14 p) (hl : τ.2.1 14 p = 3) : ∃ τ', ev_run sm_all 89 [rf 6 a] τ (.inl none) τ' ∧ zs (fun c j k => (c = 14 ∧ j = p ∧ k < 3) ∨ (c = 6 ∧ j = a ∧ 2 ≤ k ∧ k ≤ 10)) τ τ' := by
  have loop : ∀ (m i : Nat) (υ : mS), i + m = 3 → zs (fun c j k => c = 14 ∧ j = p ∧ k < i) τ υ → ∃ υ', ER 89 z89s (2, [some (rf 6 a), some (.inl (Int32.ofNat i))], [], υ, 0, 0) (.inl none, υ') ∧ zs (fun c j k => (c = 14 ∧ j = p ∧ k < 3) ∨ (c = 6 ∧ j = a ∧ 2 ≤ k ∧ k ≤ 10)) τ υ' := by
    intro m
    induction m with
    | zero =>
      intro i υ hm h
      have e : i = 3 := by omega
      subst e
      have hg : m_get υ 6 a 1 = rf 14 p := (h.2.2.2 6 a 1 (fun z => by cases z.1)).trans hp
      refine ⟨_, ?_, ((((((((((h.u0 6 a 1).up 2 (.inr (.inl (Int64.ofNat 0))) rfl (by decide) rfl rfl).up 3 (.inr (.inl (Int64.ofNat 0))) rfl (by decide) rfl rfl).up 4 (.inr (.inl (Int64.ofNat 0))) rfl (by decide) rfl rfl).up 5 (.inr (.inl (Int64.ofNat 0))) rfl (by decide) rfl rfl).up 6 (.inl (Int32.ofInt 0)) rfl (by decide) rfl (Or.inl rfl)).up 7 (.inl (Int32.ofInt 0)) rfl (by decide) rfl (Or.inr ⟨rfl, Or.inl rfl⟩)).up 8 (.inl (Int32.ofInt 0)) rfl (by decide) rfl (Or.inl rfl)).up 9 (.inl (Int32.ofInt 0)) rfl (by decide) rfl (Or.inr ⟨rfl, Or.inl rfl⟩)).up 10 (.inl (Int32.ofInt 0)) rfl (by decide) rfl (Or.inr ⟨rfl, Or.inl rfl⟩))⟩
      refine er_p rfl rfl rfl rfl ?_
      refine er_p rfl rfl rfl rfl ?_
      refine er_get rfl rfl hg ?_
      refine er_len (l := 3) rfl ⟨(by show 13 ≤ 14; decide), (by show 14 ≤ 21; decide)⟩ (by rw [h.2.1]; exact hl) ?_
      refine er_ct rfl rfl rfl ((i32_ge 3 (by decide) 3 (by decide)).mpr (Nat.le_refl _)) ?_
      refine er_p rfl rfl rfl rfl ?_
      refine er_p rfl rfl rfl rfl ?_
      refine er_put rfl rfl rfl ?_
      refine er_p rfl rfl rfl rfl ?_
      refine er_p rfl rfl rfl rfl ?_
      refine er_put rfl rfl rfl ?_
      refine er_p rfl rfl rfl rfl ?_
      refine er_p rfl rfl rfl rfl ?_
      refine er_put rfl rfl rfl ?_
      refine er_p rfl rfl rfl rfl ?_
      refine er_p rfl rfl rfl rfl ?_
      refine er_put rfl rfl rfl ?_
      refine er_p rfl rfl rfl rfl ?_
      refine er_p rfl rfl rfl rfl ?_
      refine er_put rfl rfl (Or.inl rfl) ?_
      refine er_p rfl rfl rfl rfl ?_
      refine er_p rfl rfl rfl rfl ?_
      refine er_put rfl rfl (Or.inr ⟨rfl, Or.inl rfl⟩) ?_
      refine er_p rfl rfl rfl rfl ?_
      refine er_p rfl rfl rfl rfl ?_
      refine er_put rfl rfl (Or.inl rfl) ?_
      refine er_p rfl rfl rfl rfl ?_
      refine er_p rfl rfl rfl rfl ?_
      refine er_put rfl rfl (Or.inr ⟨rfl, Or.inl rfl⟩) ?_
      refine er_p rfl rfl rfl rfl ?_
      refine er_p rfl rfl rfl rfl ?_
      refine er_put rfl rfl (Or.inr ⟨rfl, Or.inl rfl⟩) ?_
      exact er_ret rfl (by decide) rfl
    | succ m ih =>
      intro i υ hm h
      have hi : i < 3 := by omega
      have hg : m_get υ 6 a 1 = rf 14 p := (h.2.2.2 6 a 1 (fun z => by cases z.1)).trans hp
      obtain ⟨υ', g1, g2⟩ := ih (i + 1) (m_set υ 14 p i (.inr (.inl (Int64.ofNat 0)))) (by omega) ((h.set (c := 14) (j := p) (k := i) (v := .inr (.inl (Int64.ofNat 0))) (by
        show _ = fv 14 i
        unfold fv
        rw [if_neg (fun z => by cases z.1)]
        unfold hz
        rw [show m_ty 14 i = 1 from m_ty_arr (j := 1) rfl]
        rfl) (m_ty_arr (j := 1) rfl)).ex (fun c j k => by omega))
      refine ⟨υ', ?_, g2⟩
      refine er_p rfl rfl rfl rfl ?_
      refine er_p rfl rfl rfl rfl ?_
      refine er_get rfl rfl hg ?_
      refine er_len (l := 3) rfl ⟨(by show 13 ≤ 14; decide), (by show 14 ≤ 21; decide)⟩ (by rw [h.2.1]; exact hl) ?_
      refine er_cf rfl rfl rfl (fun z => by have := (i32_ge i (by omega) 3 (by decide)).mp z; omega) ?_
      refine er_p rfl rfl rfl rfl ?_
      refine er_get rfl rfl hg ?_
      refine er_p rfl rfl rfl rfl ?_
      refine er_p rfl rfl rfl rfl ?_
      refine er_last (l := i) rfl (i32_nat i (by omega)) ⟨rfl, ?_⟩ ?_
      · rw [h.2.1]
        show vp_in (Int32.ofNat i) (τ.2.1 14 p)
        rw [hl]
        exact i32_vp hi (by decide)
      refine er_p rfl rfl rfl rfl ?_
      refine er_p rfl rfl rfl rfl ?_
      have e1 : Int32.ofNat i + Int32.ofInt 1 = Int32.ofNat (i + 1) := i32_inc i (by omega)
      rw [← e1] at g1
      exact g1
  obtain ⟨υ', g1, g2⟩ := loop 3 0 τ rfl (zs.rf'.ex (fun _ _ _ => ⟨fun x => x.elim, fun x => (Nat.not_lt_zero _ x.2.2).elim⟩))
  refine ⟨υ', er_go z89s_at (Nat.le_of_ble_eq_true rfl) ?_, g2⟩
  refine er_p rfl rfl rfl rfl ?_
  refine er_p rfl rfl rfl rfl ?_
  exact g1
