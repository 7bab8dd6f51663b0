/-! the step holds of the machine: all instructions -/
theorem m_at_mem : ∀ {rows : List (Nat × mRow)} {pc : Nat} {r : mRow}, m_at rows pc = some r → (pc, r) ∈ rows
  | [], _, _, h => by cases h
  | q :: t, pc, r, h => by
    unfold m_at at h
    cases hb : Nat.beq q.1 pc with
    | true =>
      rw [hb] at h
      have e := Nat.eq_of_beq_eq_true hb
      have e2 : q.2 = r := Option.some.inj h
      subst e; subst e2
      exact List.mem_cons_self
    | false =>
      rw [hb] at h
      exact List.mem_cons_of_mem _ (m_at_mem h)
theorem m_aty_lt {j : Nat} {t : FieldType} (h : m_aty[j]? = some t) : j < 9 := (List.getElem?_eq_some_iff.mp h).1
theorem m_rowP_of {own : String} {s : State} {args : Array Value} {mt : List mMt} {ini : Bool} {cc : ByteArray} {R : Room} {pc : Nat} {r : mRow} (HB : ∀ w ∈ m_BIG, w.before args s = true) (hq : m_rowB mt own ini cc R (pc, r) = true) : m_rowP own s args pc r := by
  obtain ⟨ig, ln, ra, rb, rz, rp⟩ := r
  unfold m_rowB at hq
  rw [Bool.and_eq_true] at hq
  obtain ⟨-, hc⟩ := hq
  dsimp only at hc
  unfold m_rowP
  dsimp only
  split
  · exact of_decide_eq_true hc
  · exact of_decide_eq_true hc
  · exact of_decide_eq_true hc
  · exact of_decide_eq_true hc
  · exact of_decide_eq_true hc
  · exact of_decide_eq_true hc
  · dsimp only at hc
    simp only [Bool.and_eq_true, decide_eq_true_eq, List.all_eq_true] at hc
    exact hc
  · exact Or.inr (HB _ (m_wd_ok hc))
  · exact Or.inr (HB _ (m_wd_ok hc))
  · exact HB _ (m_wd_ok hc)
  · trivial
section MGO
variable {p : Program} {l : Launch} {e : Env} {R : Room} {s : State} {m : MethodId} {args : Array Value} {below : List Frame} {meth : Method} {cd : Code} {A : Nat → Prop} {ρ0 : Nat → Nat → Option Nat} {cc : ByteArray} {own : String} {D : va_G} {ty : List (ClassId × FieldType)} {xs : Option (Nat × (Nat → Int32))} {nL : Nat}
variable {pc k n mc ms : Nat} {L : List (Option mV)} {st : List mV} {σ : mS} {Q : mX → mS → Prop} {mt : List mMt} {CC : Nat → List mV → mS → (mX → mS → Prop) → Prop} {rt : Option FieldType} {ini : Bool} {rows : List (Nat × mRow)}
theorem m_end_ret {T : mS → Nat → Nat → Nat → Prop} {K : Nat → List (Option mV) → List mV → mS → Nat → Nat → Prop} {st' : List mV} {y : mMt} {Qt : State → Prop} (hK : ∀ pc L st σ k n, K pc L st σ k n → m_J p l e R s m args below meth cd Qt A ρ0 (m_X D ty s xs) pc L st σ k n) (v : Option mV) (σ' : mS) (h : m_s_end T (fun st σ k n => K (pc + 3) L st σ k n) st' k n y (.inl v) σ') : m_J p l e R s m args below meth cd Qt A ρ0 (m_X D ty s xs) (pc + 3) L (v.toList ++ st') σ' (k + y.2.2.2.2.1.cells) (n + y.2.2.2.2.1.slots) := hK _ _ _ _ _ _ h
set_option maxHeartbeats 4000000 in
theorem m_go (C : m_C p l s m args meth cd cc own nL D ty A) (hex : own = RX11 → ∀ x ∈ cd.exceptionTable.toList, False) (hrt : meth.sig.returnType = rt) (hini : ini = true → meth.name = "<init>") (hCC : ∀ j y avs σ Q, mt[j]? = some y → CC j avs σ Q → m_Con l y.1 (m_ws y) y.2.2.2.2.1 y.2.2.2.2.1.cells y.2.2.2.2.1.slots avs σ Q) (hok : ∀ q ∈ rows, m_rowB mt own ini cc R q = true) {K : Nat → List (Option mV) → List mV → mS → Nat → Nat → Prop}
    {T : Nat → List (Option mV) → mS → Nat → Nat → Nat → Prop} (h : m_step mt CC rt R nL rows mc ms Q xs T K pc L st σ k n)
    (hT : ∀ pc L σ k n x, T pc L σ k n x → m_JX p l e R s m args below meth cd (vx_MQ below (m_Qc D ty xs A ρ0 Q) (m_XC D ty xs A ρ0 Q) args s mc ms A) A ρ0 (m_X D ty s xs) pc L σ k n x)
    (hK : ∀ pc L st σ k n, K pc L st σ k n → m_J p l e R s m args below meth cd (vx_MQ below (m_Qc D ty xs A ρ0 Q) (m_XC D ty xs A ρ0 Q) args s mc ms A) A ρ0 (m_X D ty s xs) pc L st σ k n) :
    m_J p l e R s m args below meth cd (vx_MQ below (m_Qc D ty xs A ρ0 Q) (m_XC D ty xs A ρ0 Q) args s mc ms A) A ρ0 (m_X D ty s xs) pc L st σ k n := by
  have C0 := C
  obtain ⟨hx, hb, hown, HB, HE, hA, hml, hlk, hl0⟩ := C
  unfold m_step at h
  cases hr : m_at rows pc with
  | none => rw [hr] at h; exact h.elim
  | some r =>
  rw [hr] at h
  have hq := hok (pc, r) (m_at_mem hr)
  obtain ⟨ig, ln, ra, rb, rz, rp⟩ := r
  have hq0 := hq
  unfold m_rowB at hq
  rw [Bool.and_eq_true] at hq
  obtain ⟨hd0, hc⟩ := hq
  have hd : decode cc pc = .ok (ig, m_len (ig, ln, ra, rb, rz, rp)) := of_decide_eq_true hd0
  clear hd0
  dsimp only at h hc
  split at h
  · -- getfield
    dsimp only at hc
    unfold m_s_get at h
    split at h
    · rename_i q st'
      obtain ⟨q1, q2⟩ := q
      obtain ⟨e1, h⟩ := h
      dsimp only at e1 h
      subst e1
      cases hv : m_cls[q1]? with
      | none => rw [hv] at hc; cases hc
      | some v =>
        rw [hv] at hc
        simp only [Bool.and_eq_true, decide_eq_true_eq] at hc
        exact m_j_get hx hb hown HB HE.1 hv hc.1 (m_lay hv) (HB _ (m_wd_ok hc.2)) hd (hK _ _ _ _ _ _ h)
    · exact h.elim
  · -- putfield
    dsimp only at hc
    unfold m_s_put at h
    split at h
    · rename_i x q st'
      obtain ⟨q1, q2⟩ := q
      obtain ⟨e1, e2, h⟩ := h
      dsimp only at e1 e2 h
      subst e1
      cases hv : m_cls[q1]? with
      | none => rw [hv] at hc; cases hc
      | some v =>
        rw [hv] at hc
        simp only [Bool.and_eq_true, Bool.or_eq_true, decide_eq_true_eq] at hc
        obtain ⟨⟨c1, c2⟩, c3⟩ := hc
        rcases c3 with c3 | ⟨c3, c4, c5⟩
        · exact m_j_put hx hb hown HB HE.1 hv c1 (m_lay hv) (HB _ (m_wd_ok c2)) c3 e2 hd (hK _ _ _ _ _ _ h)
        · exact m_j_putF hx hb hown HB HE.1 hv c1 (m_lay hv) (HB _ (m_wd_ok c2)) c4 (hini c3) c5 e2 hd (hK _ _ _ _ _ _ h)
    · exact h.elim
  · -- arraylength
    cases hx9 : m_isx st 0 with
    | true =>
      rw [hx9] at h
      dsimp only [cond_true] at h
      unfold m_s_xlen at h
      split at h
      · rename_i z v0 st'
        exact m_j_slen C0 hx9 h.1 hd (hK _ _ _ _ _ _ h.2)
      · exact h.elim
    | false =>
    rw [hx9] at h
    dsimp only [cond_false] at h
    unfold m_s_len at h
    split at h
    · rename_i q st'
      obtain ⟨q1, q2⟩ := q
      obtain ⟨⟨e1, e2⟩, h⟩ := h
      dsimp only at e1 e2 h
      obtain ⟨j, rfl⟩ : ∃ j, q1 = j + 13 := ⟨q1 - 13, by omega⟩
      exact m_j_alen hx hb hown HB HE.1 (by omega) hd (hK _ _ _ _ _ _ h)
    · exact h.elim
  · -- iaload
    cases hx9 : m_isx st 1 with
    | true =>
      rw [hx9] at h
      dsimp only [cond_true] at h
      unfold m_s_xld at h
      split at h
      · rename_i z x v0 st'
        exact m_j_sld C0 hx9 h.1 hd (hK _ _ _ _ _ _ h.2)
      · exact h.elim
    | false =>
    rw [hx9] at h
    dsimp only [cond_false] at h
    unfold m_s_ald at h
    split at h
    · rename_i x q st'
      obtain ⟨q1, q2⟩ := q
      obtain ⟨e1, e2, h⟩ := h
      dsimp only at e1 e2 h
      subst e1
      exact m_j_iald hx hb hown HB HE.1 HE.2.1 e2 hd (hK _ _ _ _ _ _ h)
    · exact h.elim
  · -- laload
    unfold m_s_ald at h
    split at h
    · rename_i x q st'
      obtain ⟨q1, q2⟩ := q
      obtain ⟨e1, e2, h⟩ := h
      dsimp only at e1 e2 h
      subst e1
      exact m_j_lald hx hb hown HB HE.1 HE.2.1 e2 hd (hK _ _ _ _ _ _ h)
    · exact h.elim
  · -- baload
    exact absurd (show false = true from hc) (by decide)
  · -- aaload
    unfold m_s_aldq at h
    split at h
    · rename_i x q st'
      obtain ⟨q1, q2⟩ := q
      obtain ⟨⟨e0, e1⟩, e2, h⟩ := h
      dsimp only at e0 e1 e2 h
      obtain ⟨j, rfl⟩ : ∃ j, q1 = j + 13 := ⟨q1 - 13, by omega⟩
      have hj : j < 9 := by omega
      have hl : m_aty[j]? = some (m_aty[j]'(by show j < 9; exact hj)) := List.getElem?_eq_getElem _
      refine m_j_aldq hx hb hown HB HE.1 HE.2.1 hj hl ?_ e2 hd (hK _ _ _ _ _ _ h)
      have : j = 3 ∨ j = 4 ∨ j = 5 ∨ j = 6 ∨ j = 7 ∨ j = 8 := by omega
      rcases this with rfl | rfl | rfl | rfl | rfl | rfl <;> rfl
    · exact h.elim
  · -- iastore
    unfold m_s_iast at h
    split at h
    · rename_i v x q st'
      obtain ⟨q1, q2⟩ := q
      obtain ⟨e1, e2, h⟩ := h
      dsimp only at e1 e2 h
      subst e1
      exact m_j_iast hx hb hown HB HE.1 HE.2.1 e2 hd (hK _ _ _ _ _ _ h)
    · exact h.elim
  · -- lastore
    unfold m_s_last at h
    split at h
    · rename_i v x q st'
      obtain ⟨q1, q2⟩ := q
      obtain ⟨e1, e2, h⟩ := h
      dsimp only at e1 e2 h
      subst e1
      exact m_j_last hx hb hown HB HE.1 HE.2.1 e2 hd (hK _ _ _ _ _ _ h)
    · exact h.elim
  · -- bastore
    exact absurd (show false = true from hc) (by decide)
  · -- aastore
    unfold m_s_astq at h
    split at h
    · rename_i d x q st'
      obtain ⟨q1, q2⟩ := q
      obtain ⟨d1, d2⟩ := d
      obtain ⟨e0, ⟨e1, e3⟩, e2, h⟩ := h
      dsimp only at e0 e1 e3 e2 h
      have hq1 : q1 = 16 ∨ q1 = 17 ∨ q1 = 18 ∨ q1 = 19 ∨ q1 = 20 := by omega
      rcases hq1 with rfl | rfl | rfl | rfl | rfl <;> subst e0
      · exact m_j_astq (j := 3) (c := 6) hx hb hown HB HE.1 HE.2.1 (by decide) rfl rfl e2 hd (hK _ _ _ _ _ _ h)
      · exact m_j_astq (j := 4) (c := 7) hx hb hown HB HE.1 HE.2.1 (by decide) rfl rfl e2 hd (hK _ _ _ _ _ _ h)
      · exact m_j_astq (j := 5) (c := 8) hx hb hown HB HE.1 HE.2.1 (by decide) rfl rfl e2 hd (hK _ _ _ _ _ _ h)
      · exact m_j_astq (j := 6) (c := 9) hx hb hown HB HE.1 HE.2.1 (by decide) rfl rfl e2 hd (hK _ _ _ _ _ _ h)
      · exact m_j_astq (j := 7) (c := 10) hx hb hown HB HE.1 HE.2.1 (by decide) rfl rfl e2 hd (hK _ _ _ _ _ _ h)
    · exact h.elim
  · -- new
    rename_i idx
    dsimp only at hc
    by_cases hlt : ra < 13
    · rw [if_pos hlt] at h
      have hbl : Nat.blt ra 13 = true := by rw [Nat.blt_eq]; exact hlt
      rw [hbl] at hc
      dsimp only [cond_true] at hc
      cases hv : m_cls[ra]? with
      | none => rw [hv] at hc; cases hc
      | some v =>
        rw [hv] at hc
        simp only [Bool.and_eq_true] at hc
        have hnf : m_nf ra = v.2.2 := by unfold m_nf; rw [hv]
        rw [hnf] at h
        exact m_j_new hx hb hown HB HE.1 hA hv (m_lay hv) (HB _ (m_wd_ok hc.1.1)) (HB _ (m_wd_ok hc.1.2)) (HB _ (m_wd_ok hc.2)) h.1.1 h.1.2 hd (hK _ _ _ _ _ _ h.2)
    · rw [if_neg hlt] at h
      have hbl : Nat.blt ra 13 = false := by
        cases hq : Nat.blt ra 13 with
        | false => rfl
        | true => exact absurd (by rw [Nat.blt_eq] at hq; exact hq) hlt
      rw [hbl] at hc
      dsimp only [cond_false] at hc
      simp only [Bool.and_eq_true, Bool.or_eq_true, decide_eq_true_eq, List.any_eq_true] at hc
      obtain ⟨⟨⟨⟨co, c1, c2, ci⟩, t, ht, ht2⟩, cd3⟩, c6⟩ := hc
      obtain ⟨hL, hRf, hRl, hrm, hk, hn, hQ⟩ := h
      subst co
      subst ci
      have ht' : t = (RX11, rb, t.2.2) := by
        have hall : ∀ t ∈ m_strs, t.1 = RX11 := by decide +kernel
        rw [← ht2, ← hall t ht]
      rw [ht'] at ht
      rcases c6 with ⟨⟨c4, c5⟩, c6⟩ | ⟨⟨c4, c5⟩, c6⟩
      · exact m_j_throw C0 (hex rfl) (x := ra - 100) (by omega) ht hL hd cd3 c4 c5 c6 hRf hRl hrm.1 hrm.2 hk hn hQ
      · exact m_j_throwW C0 (hex rfl) (x := ra - 100) (by omega) ht hL hd cd3 c4 c5 c6 hRf hRl hrm.1 hrm.2 hk hn hQ
  · -- newarray
    rename_i t
    dsimp only at hc
    simp only [Bool.and_eq_true, decide_eq_true_eq] at hc
    obtain ⟨⟨c1, c2, c3⟩, c4⟩ := hc
    unfold m_s_newa at h
    split at h
    · rename_i x st'
      obtain ⟨e1, e2, e3, h⟩ := h
      dsimp only at h
      obtain ⟨j, rfl⟩ : ∃ j, ra = j + 13 := ⟨ra - 13, by omega⟩
      rw [Nat.add_sub_cancel] at c3
      refine m_j_newa hx hb hown HB HE.1 HE.2.1 hA (by omega) c3 (HB _ (m_wd_ok c4)) e1 ?_ e3.1 e3.2 hd (hK _ _ _ _ _ _ h)
      have : componentBytes (newarray.typeOf t) ≤ 8 := by cases t <;> decide
      exact Nat.le_trans (Nat.mul_le_mul e2 this) (by decide)
    · exact h.elim
  · -- anewarray
    rename_i idx
    dsimp only at hc
    simp only [Bool.and_eq_true, decide_eq_true_eq] at hc
    obtain ⟨⟨c1, c2⟩, c3⟩ := hc
    cases hv : m_cls[m_el ra]? with
    | none => rw [hv] at c3; cases c3
    | some v =>
      rw [hv] at c3
      simp only [Bool.and_eq_true, decide_eq_true_eq] at c3
      unfold m_s_newa at h
      split at h
      · rename_i x st'
        obtain ⟨e1, e2, e3, h⟩ := h
        dsimp only at h
        obtain ⟨j, rfl⟩ : ∃ j, ra = j + 13 := ⟨ra - 13, by omega⟩
        rw [Nat.add_sub_cancel] at c3
        exact m_j_newq C0 (by omega) hv c3.1.1 (m_wd_ok c3.1.2) (m_od_ok c3.2) e1 (by omega) e3 hd (hK _ _ _ _ _ _ h)
      · exact h.elim
  · -- multianewarray
    rename_i idx d
    dsimp only at hc
    simp only [Bool.and_eq_true, decide_eq_true_eq] at hc
    obtain ⟨⟨⟨⟨c1, c2⟩, c3⟩, c4⟩, c5⟩ := hc
    subst c1
    unfold m_s_mna at h
    split at h
    · rename_i y x st'
      obtain ⟨e1, e2, e3, h⟩ := h
      subst e1; subst e2
      exact m_j_mna C0 (m_wd_ok c3) (m_od_ok c4) (m_wd_ok c5) e3 hd (hK _ _ _ _ _ _ h)
    · exact h.elim
  · -- invokevirtual
    rename_i idx
    dsimp only at hc
    obtain ⟨hL, h⟩ := h
    cases hy : mt[ra]? with
    | none => rw [hy] at h; exact h.elim
    | some y =>
      rw [hy] at h hc
      dsimp only at h hc
      cases hv : m_cls[m_p (.invokevirtual idx, ln, ra, rb, rz, rp) 5]? with
      | none => rw [hv] at hc; cases hc
      | some v =>
        rw [hv] at hc
        simp only [Bool.and_eq_true, decide_eq_true_eq, m_callB] at hc
        obtain ⟨⟨⟨⟨⟨c1, c2⟩, c3⟩, c4⟩, c9⟩, ⟨⟨c5, c6⟩, c7⟩, c8⟩ := hc
        obtain ⟨y1, y2, y3, y4, y5, hh⟩ := y
        have hh0 : hh = [] := List.isEmpty_iff.mp c9
        subst hh0
        unfold m_s_callV at h
        split at h
        · rename_i q st' hst
          obtain ⟨q1, q2⟩ := q
          obtain ⟨e1, e2, e3, e4, h⟩ := h
          dsimp only at e1 h hst
          subst e1
          have hst2 : st = (m_take st (.invokevirtual idx, ln, ra, rb, rz, rp)).reverse ++ .inr (.inr (some (m_p (.invokevirtual idx, ln, ra, rb, rz, rp) 5, q2))) :: st' := by
            rw [m_take, List.reverse_reverse, ← hst]; exact (List.take_append_drop _ _).symm
          have hlen : (m_take st (.invokevirtual idx, ln, ra, rb, rz, rp)).length = rb := by rw [m_take, List.length_reverse]; exact e2
          rw [hst2]
          have h9 := hCC _ _ _ _ _ hy h
          have h : m_Con l y1 (m_W y1 y2 y3 y4) y5 y5.cells y5.slots _ σ _ := h9
          exact m_j_callV C0 hv h (m_wd_ok c2) (m_wd_ok c3) (m_wd_ok c4) (m_wd_ok c6) (m_wd_ok c5) ⟨c7.1, c7.2.1, by rw [c7.2.2, hlen]⟩ ⟨rfl, rfl, c8.1, c8.2⟩ hL e3 e4 (m_end_ret hK) (fun x σ' hq => hT _ _ _ _ _ _ hq) hd
        · exact h.elim
  · -- invokespecial
    rename_i idx
    dsimp only at hc
    obtain ⟨hL, h⟩ := h
    by_cases h2000 : ra = 2000
    · rw [if_pos h2000] at h
      have hbq : Nat.beq ra 2000 = true := by rw [h2000]; rfl
      rw [hbq] at hc
      dsimp only [cond_true] at hc
      simp only [Bool.and_eq_true, decide_eq_true_eq] at hc
      unfold m_s_obj at h
      split at h
      · rename_i q st'
        exact m_j_obj C0 (m_wd_ok hc.1.1.1) (m_wd_ok hc.1.1.2) (m_wd_ok hc.1.2) hL hc.2 h.1 hd (hK _ _ _ _ _ _ h.2)
      · exact h.elim
    · rw [if_neg h2000] at h
      have hbq : Nat.beq ra 2000 = false := by
        cases hq : Nat.beq ra 2000 with
        | false => rfl
        | true => exact absurd (Nat.eq_of_beq_eq_true hq) h2000
      rw [hbq] at hc
      dsimp only [cond_false] at hc
      cases hy : mt[ra]? with
      | none => rw [hy] at h; exact h.elim
      | some y =>
        rw [hy] at h hc
        dsimp only at h hc
        cases hv : m_cls[m_p (.invokespecial idx, ln, ra, rb, rz, rp) 5]? with
        | none => rw [hv] at hc; cases hc
        | some v =>
          rw [hv] at hc
          simp only [Bool.and_eq_true, Bool.or_eq_true, decide_eq_true_eq, m_callB] at hc
          obtain ⟨⟨⟨⟨⟨c0, c1, cr⟩, c9⟩, c2⟩, c3⟩, ⟨⟨c5, c6⟩, c7⟩, c8⟩ := hc
          obtain ⟨y1, y2, y3, y4, y5, hh⟩ := y
          have hh0 : hh = [] := List.isEmpty_iff.mp c9
          subst hh0
          dsimp only at cr
          subst cr
          unfold m_s_callV at h
          split at h
          · rename_i q st' hst
            obtain ⟨q1, q2⟩ := q
            obtain ⟨e1, e2, e3, e4, h⟩ := h
            dsimp only at e1 h hst
            subst e1
            have hst2 : st = (m_take st (.invokespecial idx, ln, ra, rb, rz, rp)).reverse ++ .inr (.inr (some (m_p (.invokespecial idx, ln, ra, rb, rz, rp) 5, q2))) :: st' := by
              rw [m_take, List.reverse_reverse, ← hst]; exact (List.take_append_drop _ _).symm
            have hlen : (m_take st (.invokespecial idx, ln, ra, rb, rz, rp)).length = rb := by rw [m_take, List.length_reverse]; exact e2
            rw [hst2]
            have h9 := hCC _ _ _ _ _ hy h
            have h : m_Con l y1 (m_W y1 y2 y3 none) y5 y5.cells y5.slots _ σ _ := h9
            rcases c2 with c2 | c2
            · exact m_j_callI (rt := none) C0 hv h (m_wd_ok c2) (m_wd_ok c3) c1 (m_wd_ok c6) (m_wd_ok c5) ⟨c7.1, c7.2.1, by rw [c7.2.2, hlen]⟩ ⟨rfl, rfl, c8.1, c8.2⟩ hL e3 e4 (m_end_ret hK) (fun x σ' hq => hT _ _ _ _ _ _ hq) hd
            · exact m_j_callIN (rt := none) C0 hv h (m_od_ok c2) (m_wd_ok c3) c1 (m_wd_ok c6) (m_wd_ok c5) ⟨c7.1, c7.2.1, by rw [c7.2.2, hlen]⟩ ⟨rfl, rfl, c8.1, c8.2⟩ hL e3 e4 (m_end_ret hK) (fun x σ' hq => hT _ _ _ _ _ _ hq) hd
          · exact h.elim
  · -- invokestatic
    rename_i idx
    dsimp only at hc
    obtain ⟨hL, hrm, h⟩ := h
    by_cases h1000 : 1000 ≤ ra
    · rw [if_pos h1000] at h
      have hbq : Nat.ble 1000 ra = true := by rw [Nat.ble_eq]; exact h1000
      rw [hbq] at hc
      dsimp only [cond_true] at hc
      simp only [Bool.and_eq_true, decide_eq_true_eq] at hc
      exact m_j_math (r := (.invokestatic idx, ln, ra, rb, rz, rp)) C0 hc.1.1 (m_wd_ok hc.1.2) hc.2 hL hrm hd h (fun st h => hK _ _ _ _ _ _ h)
    · rw [if_neg h1000] at h
      have hbq : Nat.ble 1000 ra = false := by
        cases hq : Nat.ble 1000 ra with
        | false => rfl
        | true => exact absurd (by rw [Nat.ble_eq] at hq; exact hq) h1000
      rw [hbq] at hc
      dsimp only [cond_false] at hc
      cases hy : mt[ra]? with
      | none => rw [hy] at h; exact h.elim
      | some y =>
        rw [hy] at h hc
        dsimp only at h hc
        simp only [Bool.and_eq_true, decide_eq_true_eq, m_callB] at hc
        obtain ⟨⟨c2, c3⟩, ⟨⟨c5, c6⟩, c7⟩, c8⟩ := hc
        unfold m_s_callS at h
        obtain ⟨e2, e3, e4, h⟩ := h
        have hst2 : st = (m_take st (.invokestatic idx, ln, ra, rb, rz, rp)).reverse ++ st.drop rb := by
          rw [m_take, List.reverse_reverse]; exact (List.take_append_drop _ _).symm
        have hlen : (m_take st (.invokestatic idx, ln, ra, rb, rz, rp)).length = rb := by rw [m_take, List.length_reverse]; exact e2
        rw [hst2]
        obtain ⟨y1, y2, y3, y4, y5, hh⟩ := y
        cases hh with
        | nil =>
          have h9 := hCC _ _ _ _ _ hy h
          have h : m_Con l y1 (m_W y1 y2 y3 y4) y5 y5.cells y5.slots _ σ _ := h9
          exact m_j_callS C0 h (m_wd_ok c2) (m_wd_ok c3) (m_wd_ok c6) (m_wd_ok c5) ⟨c7.1, c7.2.1, by rw [c7.2.2, hlen]⟩ ⟨rfl, rfl, c8.1, c8.2⟩ hL e3 e4 (m_end_ret hK) (fun x σ' hq => hT _ _ _ _ _ _ hq) hd
        | cons h0 ht =>
          have h9 := hCC _ _ _ _ _ hy h
          have h : m_Con l y1 (Cond.codeWith y1 y2 y3 y4 (h0 :: ht) :: m_BIG) y5 y5.cells y5.slots _ σ _ := h9
          exact m_j_callSX C0 h (m_wd_ok c2) (m_wd_ok c3) (m_wd_ok c6) (m_wd_ok c5) ⟨c7.1, c7.2.1, by rw [c7.2.2, hlen]⟩ ⟨rfl, rfl, c8.1, c8.2⟩ hL e3 e4 (m_end_ret hK) (fun x σ' hq => hT _ _ _ _ _ _ hq) hd
  · -- ireturn
    obtain ⟨hk, hn, h⟩ := h
    unfold m_s_iret at h
    split at h
    · rename_i v
      obtain ⟨h1, h⟩ := h
      rcases h1 with h1 | ⟨h1, hz⟩
      · exact m_j_zret hx hb (hrt.trans h1) rfl hlk hd hk hn h
      · exact m_j_zret hx hb (hrt.trans h1) (m_narrow_z hz) hlk hd hk hn h
    · exact h.elim
  · -- lreturn
    obtain ⟨hk, hn, h⟩ := h
    unfold m_s_lret at h
    split at h
    · rename_i v
      exact m_j_lret hx hb (hrt.trans h.1) hlk hd hk hn h.2
    · exact h.elim
  · -- areturn
    dsimp only at hc
    obtain ⟨hk, hn, h⟩ := h
    unfold m_s_aret at h
    split at h
    · rename_i v
      refine m_j_aret hx hb (rt := rt.getD .int) (hrt.trans ?_) ?_ hlk hd hk hn h.2
      · cases rt with
        | none => exact absurd h.1 (by decide)
        | some z => rfl
      · cases rt with
        | none => exact absurd h.1 (by decide)
        | some z => cases z <;> first | exact Or.inl ⟨_, rfl⟩ | exact Or.inr ⟨_, rfl⟩ | exact absurd h.1 (by decide)
    · exact h.elim
  · -- return
    obtain ⟨hk, hn, h1, h2, h⟩ := h
    subst h2
    exact m_j_vret hx hb (hrt.trans h1) hlk hd hk hn h
  · -- else
    have hP := m_rowP_of HB hq0
    unfold m_s_bare at h
    cases hcd : m_cond (ig, ln, ra, rb, rz, rp) st with
    | some z =>
      obtain ⟨P, st'⟩ := z
      rw [hcd] at h
      exact m_j_cond hx hb hd hP hcd (fun ρ σ H hX => hX.1) (fun z => hK _ _ _ _ _ _ (h.1 z)) (fun z => hK _ _ _ _ _ _ (h.2 z))
    | none =>
      rw [hcd] at h
      dsimp only at h
      cases hp : m_pure (ig, ln, ra, rb, rz, rp) pc L st with
      | none => rw [hp] at h; exact h.elim
      | some z =>
        obtain ⟨pc', L', st'⟩ := z
        rw [hp] at h
        exact m_j_pure hx hb hown hd hP hp (hK _ _ _ _ _ _ h)
end MGO
section MGR
variable {p : Program} {l : Launch} {e : Env} {R : Room} {s : State} {m : MethodId} {args : Array Value} {below : List Frame} {meth : Method} {cd : Code} {A : Nat → Prop} {ρ0 : Nat → Nat → Option Nat} {cc : ByteArray} {own : String} {D : va_G} {ty : List (ClassId × FieldType)} {xs : Option (Nat × (Nat → Int32))} {nL : Nat}
variable {mc ms : Nat} {Q : mX → mS → Prop} {mt : List mMt} {CC : Nat → List mV → mS → (mX → mS → Prop) → Prop} {rt : Option FieldType} {ini : Bool} {rows : List (Nat × mRow)}
/-- many steps -/
theorem m_goes (C : m_C p l s m args meth cd cc own nL D ty A) (hex : own = RX11 → ∀ x ∈ cd.exceptionTable.toList, False) (hrt : meth.sig.returnType = rt) (hini : ini = true → meth.name = "<init>") (hCC : ∀ j y avs σ Q, mt[j]? = some y → CC j avs σ Q → m_Con l y.1 (m_ws y) y.2.2.2.2.1 y.2.2.2.2.1.cells y.2.2.2.2.1.slots avs σ Q) (hok : ∀ q ∈ rows, m_rowB mt own ini cc R q = true) {T : Nat → List (Option mV) → mS → Nat → Nat → Nat → Prop} (hT : ∀ pc L σ k n x, T pc L σ k n x → m_JX p l e R s m args below meth cd (vx_MQ below (m_Qc D ty xs A ρ0 Q) (m_XC D ty xs A ρ0 Q) args s mc ms A) A ρ0 (m_X D ty s xs) pc L σ k n x) {cuts : List Nat} {K : Nat → List (Option mV) → List mV → mS → Nat → Nat → Prop}
    (hK : ∀ pc L st σ k n, K pc L st σ k n → m_J p l e R s m args below meth cd (vx_MQ below (m_Qc D ty xs A ρ0 Q) (m_XC D ty xs A ρ0 Q) args s mc ms A) A ρ0 (m_X D ty s xs) pc L st σ k n) :
    ∀ (f pc : Nat) (L : List (Option mV)) (st : List mV) (σ : mS) (k n : Nat), m_run mt CC rt R nL rows mc ms Q none T K cuts f pc L st σ k n → m_J p l e R s m args below meth cd (vx_MQ below (m_Qc D ty xs A ρ0 Q) (m_XC D ty xs A ρ0 Q) args s mc ms A) A ρ0 (m_X D ty s xs) pc L st σ k n
  | 0, pc, L, st, σ, k, n, h => hK _ _ _ _ _ _ h
  | f + 1, pc, L, st, σ, k, n, h => by
    have h' : (bif cuts.contains pc then K pc L st σ k n else m_step mt CC rt R nL rows mc ms Q none T (m_run mt CC rt R nL rows mc ms Q none T K cuts f) pc L st σ k n) := h
    cases hc : cuts.contains pc with
    | true => rw [hc] at h'; exact hK _ _ _ _ _ _ h'
    | false => rw [hc] at h'; exact m_go C hex hrt hini hCC hok (m_step_none h') hT (m_goes C hex hrt hini hCC hok hT hK f)
end MGR
