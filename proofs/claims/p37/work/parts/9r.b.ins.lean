/-! runs backwards: arrays, divisions, Math, calls that give something back -/
section EI2
variable {F f j : Nat} {z : mAl} {pc : Nat} {L : List (Option mV)} {st : List mV} {σ : mS} {q : mX × mS} {e : Nat × Nat × Nat × Int × List Nat}
theorem ei_nw {o1 : Option (List mV)} {pc' k n : Nat} {f' : Nat} {s : ev_T} {o : ev_O} {st' : List mV} (h1 : ev_nw pc' L σ k n o1 = some o) (h2 : o1 = some st') (o2 : ev_ro (fun s' => ev_r none sm_all (ev_c sm_all F) j z f' s' = some q) (ev_c sm_all F) z s q o) : EV F f' j z pc' L st' σ q := by
  rw [h2] at h1
  cases h1
  exact ⟨k, n, o2⟩
theorem ei_iald {a : Nat} {x : Int32} {v : Int32} (h : EV F f j z pc L (.inl x :: .inr (.inr (some (13, a))) :: st) σ q) (hr : m_at z.2.1 pc = some (.iaload, e)) (hv : vp_in x (σ.2.1 13 a) → m_i σ 13 a x.toNatClampNeg = v) : vp_in x (σ.2.1 13 a) ∧ ∃ f', f' < f ∧ EV F f' j z (pc + 1) L (.inl v :: st) σ q := by
  obtain ⟨k, n, h⟩ := h
  obtain ⟨f', rfl, o, o1, o2⟩ := ei h
  unfold ev_st ev_nf at o1
  dsimp only at o1
  rw [hr] at o1
  dsimp only at o1
  have hx : m_isx (.inl x :: .inr (.inr (some (13, a))) :: st) 1 = false := rfl
  rw [hx] at o1
  dsimp only [cond_false] at o1
  by_cases hm : (13 : Nat) = 13 ∧ vp_in x (σ.2.1 13 a)
  · have : ev_ald 13 σ (.inl x :: .inr (.inr (some (13, a))) :: st) = some (.inl v :: st) := ev_if_some.mpr ⟨hm, by rw [← hv hm.2]; rfl⟩
    exact ⟨hm.2, f', Nat.lt_succ_self _, ei_nw o1 this o2⟩
  · have : ev_ald 13 σ (.inl x :: .inr (.inr (some (13, a))) :: st) = none := if_neg hm
    rw [this] at o1
    cases o1
theorem ei_lald {a : Nat} {x : Int32} {v : Int64} (h : EV F f j z pc L (.inl x :: .inr (.inr (some (14, a))) :: st) σ q) (hr : m_at z.2.1 pc = some (.laload, e)) (hv : vp_in x (σ.2.1 14 a) → m_l σ 14 a x.toNatClampNeg = v) : vp_in x (σ.2.1 14 a) ∧ ∃ f', f' < f ∧ EV F f' j z (pc + 1) L (.inr (.inl v) :: st) σ q := by
  obtain ⟨k, n, h⟩ := h
  obtain ⟨f', rfl, o, o1, o2⟩ := ei h
  unfold ev_st ev_nf at o1
  dsimp only at o1
  rw [hr] at o1
  dsimp only at o1
  by_cases hm : (14 : Nat) = 14 ∧ vp_in x (σ.2.1 14 a)
  · have : ev_ald 14 σ (.inl x :: .inr (.inr (some (14, a))) :: st) = some (.inr (.inl v) :: st) := ev_if_some.mpr ⟨hm, by rw [← hv hm.2]; rfl⟩
    exact ⟨hm.2, f', Nat.lt_succ_self _, ei_nw o1 this o2⟩
  · have : ev_ald 14 σ (.inl x :: .inr (.inr (some (14, a))) :: st) = none := if_neg hm
    rw [this] at o1
    cases o1
theorem ei_iast {a : Nat} {x v : Int32} (h : EV F f j z pc L (.inl v :: .inl x :: .inr (.inr (some (13, a))) :: st) σ q) (hr : m_at z.2.1 pc = some (.iastore, e)) : vp_in x (σ.2.1 13 a) ∧ ∃ f', f' < f ∧ EV F f' j z (pc + 1) L st (m_set σ 13 a x.toNatClampNeg (.inl v)) q := by
  obtain ⟨k, n, h⟩ := h
  obtain ⟨f', rfl, o, o1, o2⟩ := ei h
  unfold ev_st ev_nf at o1
  dsimp only at o1
  rw [hr] at o1
  dsimp only at o1
  by_cases hm : (13 : Nat) = 13 ∧ vp_in x (σ.2.1 13 a)
  · have : ev_iast σ (.inl v :: .inl x :: .inr (.inr (some (13, a))) :: st) = some (st, m_set σ 13 a x.toNatClampNeg (.inl v)) := ev_if_some.mpr ⟨hm, rfl⟩
    rw [this] at o1
    cases o1
    exact ⟨hm.2, f', Nat.lt_succ_self _, k, n, o2⟩
  · have : ev_iast σ (.inl v :: .inl x :: .inr (.inr (some (13, a))) :: st) = none := if_neg hm
    rw [this] at o1
    cases o1
theorem ei_last {a : Nat} {x : Int32} {v : Int64} (h : EV F f j z pc L (.inr (.inl v) :: .inl x :: .inr (.inr (some (14, a))) :: st) σ q) (hr : m_at z.2.1 pc = some (.lastore, e)) : vp_in x (σ.2.1 14 a) ∧ ∃ f', f' < f ∧ EV F f' j z (pc + 1) L st (m_set σ 14 a x.toNatClampNeg (.inr (.inl v))) q := by
  obtain ⟨k, n, h⟩ := h
  obtain ⟨f', rfl, o, o1, o2⟩ := ei h
  unfold ev_st ev_nf at o1
  dsimp only at o1
  rw [hr] at o1
  dsimp only at o1
  by_cases hm : (14 : Nat) = 14 ∧ vp_in x (σ.2.1 14 a)
  · have : ev_last σ (.inr (.inl v) :: .inl x :: .inr (.inr (some (14, a))) :: st) = some (st, m_set σ 14 a x.toNatClampNeg (.inr (.inl v))) := ev_if_some.mpr ⟨hm, rfl⟩
    rw [this] at o1
    cases o1
    exact ⟨hm.2, f', Nat.lt_succ_self _, k, n, o2⟩
  · have : ev_last σ (.inr (.inl v) :: .inl x :: .inr (.inr (some (14, a))) :: st) = none := if_neg hm
    rw [this] at o1
    cases o1
/-- an int's division -/
theorem ei_idiv {x y : Int32} (h : EV F f j z pc L (.inl y :: .inl x :: st) σ q) (hr : m_at z.2.1 pc = some (.idiv, e)) : y ≠ 0 ∧ ∃ f', f' < f ∧ EV F f' j z (pc + 1) L (.inl (x / y) :: st) σ q := by
  by_cases hy : y = 0
  · exact absurd ⟨rfl, by show (if y = 0 then none else some (pc + 1, L, .inl (x / y) :: st)) = none; rw [if_pos hy]⟩ (ei_ok h hr rfl)
  · obtain ⟨f', g, h⟩ := ei_p h hr rfl rfl (by show (if y = 0 then none else some (pc + 1, L, .inl (x / y) :: st)) = some _; rw [if_neg hy])
    exact ⟨hy, f', g, h⟩
theorem ei_ldiv {x y : Int64} (h : EV F f j z pc L (.inr (.inl y) :: .inr (.inl x) :: st) σ q) (hr : m_at z.2.1 pc = some (.ldiv, e)) : y ≠ 0 ∧ ∃ f', f' < f ∧ EV F f' j z (pc + 1) L (.inr (.inl (x / y)) :: st) σ q := by
  by_cases hy : y = 0
  · exact absurd ⟨rfl, by show (if y = 0 then none else some (pc + 1, L, .inr (.inl (x / y)) :: st)) = none; rw [if_pos hy]⟩ (ei_ok h hr rfl)
  · obtain ⟨f', g, h⟩ := ei_p h hr rfl rfl (by show (if y = 0 then none else some (pc + 1, L, .inr (.inl (x / y)) :: st)) = some _; rw [if_neg hy])
    exact ⟨hy, f', g, h⟩
/-- Math's own -/
theorem ei_m {i : Nat} {st' : List mV} (h : EV F f j z pc L st σ q) (hr : m_at z.2.1 pc = some (.invokestatic i, e)) (h1 : 1000 ≤ e.2.1) (hv : ∀ w, ev_math z.1.2.2.2.2.1 e.2.1 st = some w → w = st') : ∃ f', f' < f ∧ EV F f' j z (pc + 3) L st' σ q := by
  obtain ⟨k, n, h⟩ := h
  obtain ⟨f', rfl, o, o1, o2⟩ := ei h
  unfold ev_st ev_nf at o1
  dsimp only at o1
  rw [hr] at o1
  dsimp only at o1
  obtain ⟨-, o1⟩ := ev_if_some.mp o1
  rw [if_pos h1] at o1
  cases hm : ev_math z.1.2.2.2.2.1 e.2.1 st with
  | none => rw [hm] at o1; cases o1
  | some w => exact ⟨f', Nat.lt_succ_self _, by rw [← hv w hm]; exact ei_nw o1 hm o2⟩
/-- a static call -/
theorem ei_s {i : Nat} {as : List mV} (h : EV F f j z pc L (as ++ st) σ q) (hr : m_at z.2.1 pc = some (.invokestatic i, e)) (h1 : e.2.1 < 1000) (ha : as.length = e.2.2.1) (hh : z.1.2.2.2.2.2 = []) : ev_bk F f j z pc L st σ q e.2.1 as.reverse := by
  obtain ⟨k, n, h⟩ := h
  obtain ⟨f', rfl, o, o1, o2⟩ := ei h
  unfold ev_st ev_nf at o1
  dsimp only at o1
  rw [hr] at o1
  dsimp only at o1
  obtain ⟨-, o1⟩ := ev_if_some.mp o1
  rw [if_neg (by omega)] at o1
  cases hy : m_mt[e.2.1]? with
  | none => rw [hy] at o1; cases o1
  | some y =>
    rw [hy] at o1
    dsimp only at o1
    unfold ev_callS at o1
    obtain ⟨-, o1⟩ := ev_if_some.mp o1
    unfold m_take at o1
    have e1 : (as ++ st).drop e.2.2.1 = st := by rw [← ha, List.drop_left]
    have e2 : (as ++ st).take e.2.2.1 = as := by rw [← ha, List.take_left]
    dsimp only at o1
    rw [e1, e2] at o1
    cases o1
    exact ei_bk hh (Nat.lt_succ_self _) o2
/-- what a call gave back -/
def ev_bI (F f j : Nat) (z : mAl) (pc : Nat) (L : List (Option mV)) (st : List mV) (σ : mS) (q : mX × mS) (c : Nat) (avs : List mV) : Prop := ∃ (v : Int32) (σ1 : mS), ev_run sm_all c avs σ (.inl (some (.inl v))) σ1 ∧ ∃ f', f' < f ∧ EV F f' j z (pc + 3) L (.inl v :: st) σ1 q
def ev_bL (F f j : Nat) (z : mAl) (pc : Nat) (L : List (Option mV)) (st : List mV) (σ : mS) (q : mX × mS) (c : Nat) (avs : List mV) : Prop := ∃ (v : Int64) (σ1 : mS), ev_run sm_all c avs σ (.inl (some (.inr (.inl v)))) σ1 ∧ ∃ f', f' < f ∧ EV F f' j z (pc + 3) L (.inr (.inl v) :: st) σ1 q
def ev_bR (F f j : Nat) (z : mAl) (pc : Nat) (L : List (Option mV)) (st : List mV) (σ : mS) (q : mX × mS) (c : Nat) (avs : List mV) : Prop := ∃ (v : mR) (σ1 : mS), ev_run sm_all c avs σ (.inl (some (.inr (.inr v)))) σ1 ∧ ∃ f', f' < f ∧ EV F f' j z (pc + 3) L (.inr (.inr v) :: st) σ1 q
def ev_b0 (F f j : Nat) (z : mAl) (pc : Nat) (L : List (Option mV)) (st : List mV) (σ : mS) (q : mX × mS) (c : Nat) (avs : List mV) : Prop := ∃ (σ1 : mS), ev_run sm_all c avs σ (.inl none) σ1 ∧ ∃ f', f' < f ∧ EV F f' j z (pc + 3) L st σ1 q
variable {c : Nat} {avs : List mV} {zc : mAl}
theorem bk_nt (h : ev_bk F f j z pc L st σ q c avs) (hn : Snt.any (Nat.beq c) = true) : ∃ v σ1, ev_run sm_all c avs σ (.inl v) σ1 ∧ ∃ f', f' < f ∧ EV F f' j z (pc + 3) L (v.toList ++ st) σ1 q := by
  obtain ⟨x, σ1, r, ⟨v, rfl, g⟩ | ⟨b, rfl, -⟩⟩ := h
  · exact ⟨v, σ1, r, g⟩
  · obtain ⟨v, e⟩ := nt_run hn r
    cases e
theorem bk_I (h : ev_bk F f j z pc L st σ q c avs) (hn : Snt.any (Nat.beq c) = true) (hz : m_alF[c]? = some zc) (ht : zc.1.2.2.2.1 = some .int ∨ zc.1.2.2.2.1 = some .boolean) : ev_bI F f j z pc L st σ q c avs := by
  obtain ⟨v, σ1, r, g⟩ := bk_nt h hn
  have t := ev_ty hz r
  rcases v with _ | y | y | y
  · have t : zc.1.2.2.2.1 = none := t
    rcases ht with e | e <;> rw [e] at t <;> cases t
  · exact ⟨y, σ1, r, g⟩
  · have t : zc.1.2.2.2.1 = some .long := t
    rcases ht with e | e <;> rw [e] at t <;> cases t
  · have t : m_isr zc.1.2.2.2.1 = true := t
    rcases ht with e | e <;> rw [e] at t <;> cases t
theorem bk_L (h : ev_bk F f j z pc L st σ q c avs) (hn : Snt.any (Nat.beq c) = true) (hz : m_alF[c]? = some zc) (ht : zc.1.2.2.2.1 = some .long) : ev_bL F f j z pc L st σ q c avs := by
  obtain ⟨v, σ1, r, g⟩ := bk_nt h hn
  have t := ev_ty hz r
  rw [ht] at t
  rcases v with _ | y | y | y
  · cases t
  · rcases t with t | ⟨t, -⟩ <;> cases t
  · exact ⟨y, σ1, r, g⟩
  · cases t
theorem bk_R (h : ev_bk F f j z pc L st σ q c avs) (hn : Snt.any (Nat.beq c) = true) (hz : m_alF[c]? = some zc) (ht : m_isr zc.1.2.2.2.1 = true) : ev_bR F f j z pc L st σ q c avs := by
  obtain ⟨v, σ1, r, g⟩ := bk_nt h hn
  have t := ev_ty hz r
  rcases v with _ | y | y | y
  · have t : zc.1.2.2.2.1 = none := t
    rw [t] at ht; cases ht
  · have t : zc.1.2.2.2.1 = some .int ∨ (zc.1.2.2.2.1 = some .boolean ∧ (y = 0 ∨ y = 1)) := t
    rcases t with t | ⟨t, -⟩ <;> rw [t] at ht <;> cases ht
  · have t : zc.1.2.2.2.1 = some .long := t
    rw [t] at ht; cases ht
  · exact ⟨y, σ1, r, g⟩
theorem bk_0 (h : ev_bk F f j z pc L st σ q c avs) (hn : Snt.any (Nat.beq c) = true) (hz : m_alF[c]? = some zc) (ht : zc.1.2.2.2.1 = none) : ev_b0 F f j z pc L st σ q c avs := by
  obtain ⟨v, σ1, r, g⟩ := bk_nt h hn
  have t := ev_ty hz r
  rw [ht] at t
  rcases v with _ | y | y | y
  · exact ⟨σ1, r, g⟩
  · rcases t with t | ⟨t, -⟩ <;> cases t
  · cases t
  · cases t
end EI2
/-! conditions as facts of integers -/
theorem ic_lt {x y : Int32} : m_ic .lt x y ↔ x.toInt < y.toInt := Int32.lt_iff_toInt_lt
theorem ic_ge {x y : Int32} : m_ic .ge x y ↔ y.toInt ≤ x.toInt := Int32.le_iff_toInt_le
theorem ic_gt {x y : Int32} : m_ic .gt x y ↔ y.toInt < x.toInt := Int32.lt_iff_toInt_lt
theorem ic_le {x y : Int32} : m_ic .le x y ↔ x.toInt ≤ y.toInt := Int32.le_iff_toInt_le
theorem ic_eq {x y : Int32} : m_ic .eq x y ↔ x.toInt = y.toInt := Int32.toInt_inj.symm
theorem ic_ne {x y : Int32} : m_ic .ne x y ↔ x.toInt ≠ y.toInt := not_congr Int32.toInt_inj.symm
theorem vp_ok {x : Int32} {n : Nat} : vp_in x n ↔ 0 ≤ x.toInt ∧ x.toInt < (n : Int) ∧ x.toInt = (x.toNatClampNeg : Int) := by
  have e : x.toNatClampNeg = x.toInt.toNat := rfl
  have z : (0 : Int32).toInt = 0 := rfl
  unfold vp_in
  rw [Int32.lt_iff_toInt_lt, z, e]
  constructor
  · intro h
    by_cases h1 : x.toInt < 0
    · exact absurd (Or.inl h1) h
    · by_cases h2 : n ≤ x.toInt.toNat
      · exact absurd (Or.inr h2) h
      · omega
  · rintro ⟨h1, h2, h3⟩ (h | h) <;> omega
/-- the index of a heap that was written: without the length -/
theorem vp_lo {x : Int32} {n : Nat} (h : vp_in x n) : 0 ≤ x.toInt ∧ x.toInt = (x.toNatClampNeg : Int) := ⟨(vp_ok.mp h).1, (vp_ok.mp h).2.2⟩
