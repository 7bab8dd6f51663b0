/-! runs backwards of a method whose calls go by any function -/
abbrev ec_C : Type := Nat → List mV → mS → Option (mX × mS)
def EC (C : ec_C) (f j : Nat) (z : mAl) (pc : Nat) (L : List (Option mV)) (st : List mV) (σ : mS) (q : mX × mS) : Prop := ∃ k n, ev_r none sm_all C j z f (pc, L, st, σ, k, n) = some q
/-- the hall's own things, and the law's arrays -/
def lm (c : Nat) : Nat := match c with
  | 0 => 1
  | 2 => 1
  | 3 => 1
  | 4 => 1
  | 5 => 4
  | 6 => 6
  | 7 => 120
  | 8 => 3
  | 9 => 2
  | 10 => 200
  | 11 => 1
  | 13 => 18
  | 14 => 7
  | 16 => 1
  | 17 => 1
  | 18 => 1
  | 19 => 1
  | 20 => 1
  | 21 => 1
  | _ => 0
/-- those are the same, but for the other hall's place -/
def sF (σ σ' : mS) : Prop := (∀ c j k, j < lm c → ¬ (c = 11 ∧ k = 2) → m_get σ' c j k = m_get σ c j k) ∧ ∀ c j, 13 ≤ c → j < lm c → σ'.2.1 c j = σ.2.1 c j
/-- what is known of the calls: those of the class and of the law are runs; pieces are in their bounds, or all ends where one of 44 is asked for; replays answer yes -/
def CK (C : ec_C) : Prop := (∀ j avs σ x σ', j ≠ 171 → C j avs σ = some (x, σ') → ev_run sm_all j avs σ x σ') ∧ (∀ (k n : Int32) σ x σ', C 171 [rf 98 0, .inl k, .inl n] σ = some (x, σ') → 0 < n.toInt → (∃ v : Int32, x = .inl (some (.inl v)) ∧ (0 ≤ v.toInt ∧ v.toInt < n.toInt) ∧ σ' = σ) ∨ (n.toInt = 44 ∧ x = .inr 7 ∧ σ' = σ)) ∧ ∀ avs σ x σ', C 157 avs σ = some (x, σ') → ∃ v : Int32, x = .inl (some (.inl v)) ∧ v.toInt ≠ 0 ∧ sF σ σ'
section EC1
variable {C : ec_C} {f j : Nat} {z : mAl} {pc : Nat} {L : List (Option mV)} {st : List mV} {σ : mS} {q : mX × mS} {r : mRow}
theorem ec {s : ev_T} (h : ev_r none sm_all C j z f s = some q) : ∃ f', f = f' + 1 ∧ ∃ o, ev_st none z s = some o ∧ ev_ro (fun s' => ev_r none sm_all C j z f' s' = some q) C z s q o := by
  cases f with
  | zero => cases h
  | succ f =>
    obtain ⟨-, o, o1, o2⟩ := ev_r_succ.mp h
    exact ⟨f, rfl, o, o1, o2⟩
theorem ec_p (h : EC C f j z pc L st σ q) {pc' : Nat} {L' : List (Option mV)} {st' : List mV} (hr : m_at z.2.1 pc = some r) (hb : er_bareI r.1 = true) (hc : m_cond r st = none) (hp : m_pure r pc L st = some (pc', L', st')) : ∃ f', f' < f ∧ EC C f' j z pc' L' st' σ q := by
  obtain ⟨k, n, h⟩ := h
  obtain ⟨f', rfl, o, o1, o2⟩ := ec h
  rw [er_bare hr hb] at o1
  unfold ev_bare at o1
  rw [hc, hp] at o1
  cases o1
  exact ⟨f', Nat.lt_succ_self _, k, n, o2⟩
theorem ec_c (h : EC C f j z pc L st σ q) {P : Prop} {st' : List mV} (hr : m_at z.2.1 pc = some r) (hb : er_bareI r.1 = true) (hc : m_cond r st = some (P, st')) : (P ∧ ∃ f', f' < f ∧ EC C f' j z r.2.2.1 L st' σ q) ∨ (¬ P ∧ ∃ f', f' < f ∧ EC C f' j z (pc + 3) L st' σ q) := by
  obtain ⟨k, n, h⟩ := h
  obtain ⟨f', rfl, o, o1, o2⟩ := ec h
  rw [er_bare hr hb] at o1
  unfold ev_bare at o1
  rw [hc] at o1
  dsimp only at o1
  by_cases hP : P
  · rw [if_pos hP] at o1
    cases o1
    exact Or.inl ⟨hP, f', Nat.lt_succ_self _, k, n, o2⟩
  · rw [if_neg hP] at o1
    cases o1
    exact Or.inr ⟨hP, f', Nat.lt_succ_self _, k, n, o2⟩
def ec_bk (C : ec_C) (f j : Nat) (z : mAl) (pc : Nat) (L : List (Option mV)) (st : List mV) (σ : mS) (q : mX × mS) (c : Nat) (avs : List mV) : Prop := ∃ x σ1, C c avs σ = some (x, σ1) ∧ ((∃ v, x = .inl v ∧ ∃ f', f' < f ∧ EC C f' j z (pc + 3) L (v.toList ++ st) σ1 q) ∨ ∃ b, x = .inr b ∧ q = (.inr b, σ1))
theorem ec_bkt {s : ev_T} {f' : Nat} {c : Nat × mMt × List mV × List mV} (hh : z.1.2.2.2.2.2 = []) (hf : f' < f) (o2 : ev_ro (fun s' => ev_r none sm_all C j z f' s' = some q) C z s q (.inr (.inr c))) : ec_bk C f j z s.1 s.2.1 c.2.2.2 s.2.2.2.1 q c.1 c.2.2.1 := by
  obtain ⟨x, σ', g1, g2⟩ := o2
  refine ⟨x, σ', g1, ?_⟩
  cases x with
  | inl v => exact Or.inl ⟨v, rfl, f', hf, _, _, g2⟩
  | inr b =>
    rw [hh] at g2
    exact Or.inr ⟨b, rfl, g2.2.symm⟩
theorem ec_v {i : Nat} {e : Nat × Nat × Nat × Int × List Nat} {p : Nat × Nat} {as : List mV} (h : EC C f j z pc L (as ++ .inr (.inr (some p)) :: st) σ q) (hr : m_at z.2.1 pc = some (.invokevirtual i, e)) (ha : as.length = e.2.2.1) (hh : z.1.2.2.2.2.2 = []) : ec_bk C f j z pc L st σ q e.2.1 (.inr (.inr (some p)) :: as.reverse) := by
  obtain ⟨k, n, h⟩ := h
  obtain ⟨f', rfl, o, o1, o2⟩ := ec h
  unfold ev_st ev_nf at o1
  dsimp only at o1
  rw [hr] at o1
  dsimp only at o1
  obtain ⟨-, o1⟩ := ev_if_some.mp o1
  cases hy : m_mt[e.2.1]? with
  | none => rw [hy] at o1; cases o1
  | some y =>
    rw [hy] at o1
    dsimp only at o1
    unfold ev_callV at o1
    have e1 : (as ++ (.inr (.inr (some p)) : mV) :: st).drop e.2.2.1 = .inr (.inr (some p)) :: st := by rw [← ha, List.drop_left]
    have e2 : (as ++ (.inr (.inr (some p)) : mV) :: st).take e.2.2.1 = as := by rw [← ha, List.take_left]
    rw [e1] at o1
    dsimp only at o1
    obtain ⟨⟨p1, -⟩, o1⟩ := ev_if_some.mp o1
    unfold m_take at o1
    rw [e2, ← p1] at o1
    cases o1
    exact ec_bkt hh (Nat.lt_succ_self _) o2
theorem ec_ok (h : EC C f j z pc L st σ q) (hr : m_at z.2.1 pc = some r) (hb : er_bareI r.1 = true) : ¬ (m_cond r st = none ∧ m_pure r pc L st = none) := by
  rintro ⟨h1, h2⟩
  obtain ⟨k, n, h⟩ := h
  obtain ⟨f', rfl, o, o1, o2⟩ := ec h
  rw [er_bare hr hb] at o1
  unfold ev_bare at o1
  rw [h1, h2] at o1
  cases o1
theorem ec_iret {e : Nat × Nat × Nat × Int × List Nat} {v : Int32} (h : EC C f j z pc L [.inl v] σ q) (hr : m_at z.2.1 pc = some (.ireturn, e)) : q = (.inl (some (.inl v)), σ) := by
  obtain ⟨k, n, h⟩ := h
  obtain ⟨f', rfl, o, o1, o2⟩ := ec h
  unfold ev_st ev_nf at o1
  dsimp only at o1
  rw [hr] at o1
  obtain ⟨-, o1⟩ := ev_if_some.mp o1
  cases hy : ev_iret z.1.2.2.2.1 [.inl v] with
  | none => rw [hy] at o1; cases o1
  | some y =>
    rw [hy] at o1
    obtain ⟨-, g⟩ := ev_if_some.mp hy
    cases g
    cases o1
    exact o2.symm
variable {e : Nat × Nat × Nat × Int × List Nat}
theorem ec_nw {o1 : Option (List mV)} {pc' k n : Nat} {f' : Nat} {s : ev_T} {o : ev_O} {st' : List mV} (h1 : ev_nw pc' L σ k n o1 = some o) (h2 : o1 = some st') (o2 : ev_ro (fun s' => ev_r none sm_all C j z f' s' = some q) C z s q o) : EC C f' j z pc' L st' σ q := by
  rw [h2] at h1
  cases h1
  exact ⟨k, n, o2⟩
theorem ec_put {i : Nat} {e : Nat × Nat × Nat × Int × List Nat} {p : Nat × Nat} {v : mV} (h : EC C f j z pc L (v :: .inr (.inr (some p)) :: st) σ q) (hr : m_at z.2.1 pc = some (.putfield i, e)) : m_tp (m_ty e.2.1 e.2.2.1) v ∧ ∃ f', f' < f ∧ EC C f' j z (pc + 3) L st (m_set σ e.2.1 p.2 e.2.2.1 v) q := by
  obtain ⟨k, n, h⟩ := h
  obtain ⟨f', rfl, o, o1, o2⟩ := ec h
  unfold ev_st ev_nf at o1
  dsimp only at o1
  rw [hr] at o1
  dsimp only at o1
  by_cases hp : p.1 = e.2.1 ∧ m_tp (m_ty e.2.1 e.2.2.1) v
  · have : ev_put (.putfield i, e) σ (v :: .inr (.inr (some p)) :: st) = some (st, m_set σ e.2.1 p.2 e.2.2.1 v) := ev_if_some.mpr ⟨hp, rfl⟩
    rw [this] at o1
    cases o1
    exact ⟨hp.2, f', Nat.lt_succ_self _, k, n, o2⟩
  · have : ev_put (.putfield i, e) σ (v :: .inr (.inr (some p)) :: st) = none := if_neg hp
    rw [this] at o1
    cases o1
theorem ec_iald {a : Nat} {x : Int32} {v : Int32} (h : EC C f j z pc L (.inl x :: .inr (.inr (some (13, a))) :: st) σ q) (hr : m_at z.2.1 pc = some (.iaload, e)) (hv : vp_in x (σ.2.1 13 a) → m_i σ 13 a x.toNatClampNeg = v) : vp_in x (σ.2.1 13 a) ∧ ∃ f', f' < f ∧ EC C f' j z (pc + 1) L (.inl v :: st) σ q := by
  obtain ⟨k, n, h⟩ := h
  obtain ⟨f', rfl, o, o1, o2⟩ := ec h
  unfold ev_st ev_nf at o1
  dsimp only at o1
  rw [hr] at o1
  dsimp only at o1
  have hx : m_isx (.inl x :: .inr (.inr (some (13, a))) :: st) 1 = false := rfl
  rw [hx] at o1
  dsimp only [cond_false] at o1
  by_cases hm : (13 : Nat) = 13 ∧ vp_in x (σ.2.1 13 a)
  · have : ev_ald 13 σ (.inl x :: .inr (.inr (some (13, a))) :: st) = some (.inl v :: st) := ev_if_some.mpr ⟨hm, by rw [← hv hm.2]; rfl⟩
    exact ⟨hm.2, f', Nat.lt_succ_self _, ec_nw o1 this o2⟩
  · have : ev_ald 13 σ (.inl x :: .inr (.inr (some (13, a))) :: st) = none := if_neg hm
    rw [this] at o1
    cases o1
theorem ec_iast {a : Nat} {x v : Int32} (h : EC C f j z pc L (.inl v :: .inl x :: .inr (.inr (some (13, a))) :: st) σ q) (hr : m_at z.2.1 pc = some (.iastore, e)) : vp_in x (σ.2.1 13 a) ∧ ∃ f', f' < f ∧ EC C f' j z (pc + 1) L st (m_set σ 13 a x.toNatClampNeg (.inl v)) q := by
  obtain ⟨k, n, h⟩ := h
  obtain ⟨f', rfl, o, o1, o2⟩ := ec h
  unfold ev_st ev_nf at o1
  dsimp only at o1
  rw [hr] at o1
  dsimp only at o1
  by_cases hm : (13 : Nat) = 13 ∧ vp_in x (σ.2.1 13 a)
  · have : ev_iast σ (.inl v :: .inl x :: .inr (.inr (some (13, a))) :: st) = some (st, m_set σ 13 a x.toNatClampNeg (.inl v)) := ev_if_some.mpr ⟨hm, rfl⟩
    rw [this] at o1
    cases o1
    exact ⟨hm.2, f', Nat.lt_succ_self _, k, n, o2⟩
  · have : ev_iast σ (.inl v :: .inl x :: .inr (.inr (some (13, a))) :: st) = none := if_neg hm
    rw [this] at o1
    cases o1
theorem ec_idiv {x y : Int32} (h : EC C f j z pc L (.inl y :: .inl x :: st) σ q) (hr : m_at z.2.1 pc = some (.idiv, e)) : y ≠ 0 ∧ ∃ f', f' < f ∧ EC C f' j z (pc + 1) L (.inl (x / y) :: st) σ q := by
  by_cases hy : y = 0
  · exact absurd ⟨rfl, by show (if y = 0 then none else some (pc + 1, L, .inl (x / y) :: st)) = none; rw [if_pos hy]⟩ (ec_ok h hr rfl)
  · obtain ⟨f', g, h⟩ := ec_p h hr rfl rfl (by show (if y = 0 then none else some (pc + 1, L, .inl (x / y) :: st)) = some _; rw [if_neg hy])
    exact ⟨hy, f', g, h⟩
theorem ec_ldiv {x y : Int64} (h : EC C f j z pc L (.inr (.inl y) :: .inr (.inl x) :: st) σ q) (hr : m_at z.2.1 pc = some (.ldiv, e)) : y ≠ 0 ∧ ∃ f', f' < f ∧ EC C f' j z (pc + 1) L (.inr (.inl (x / y)) :: st) σ q := by
  by_cases hy : y = 0
  · exact absurd ⟨rfl, by show (if y = 0 then none else some (pc + 1, L, .inr (.inl (x / y)) :: st)) = none; rw [if_pos hy]⟩ (ec_ok h hr rfl)
  · obtain ⟨f', g, h⟩ := ec_p h hr rfl rfl (by show (if y = 0 then none else some (pc + 1, L, .inr (.inl (x / y)) :: st)) = some _; rw [if_neg hy])
    exact ⟨hy, f', g, h⟩
theorem ec_s {i : Nat} {as : List mV} (h : EC C f j z pc L (as ++ st) σ q) (hr : m_at z.2.1 pc = some (.invokestatic i, e)) (h1 : e.2.1 < 1000) (ha : as.length = e.2.2.1) (hh : z.1.2.2.2.2.2 = []) : ec_bk C f j z pc L st σ q e.2.1 as.reverse := by
  obtain ⟨k, n, h⟩ := h
  obtain ⟨f', rfl, o, o1, o2⟩ := ec h
  unfold ev_st ev_nf at o1
  dsimp only at o1
  rw [hr] at o1
  dsimp only at o1
  obtain ⟨-, o1⟩ := ev_if_some.mp o1
  rw [if_neg (by omega)] at o1
  cases hy : m_mt[e.2.1]? with
  | none => rw [hy] at o1; cases o1
  | some y =>
    rw [hy] at o1
    dsimp only at o1
    unfold ev_callS at o1
    obtain ⟨-, o1⟩ := ev_if_some.mp o1
    unfold m_take at o1
    have e1 : (as ++ st).drop e.2.2.1 = st := by rw [← ha, List.drop_left]
    have e2 : (as ++ st).take e.2.2.1 = as := by rw [← ha, List.take_left]
    dsimp only at o1
    rw [e1, e2] at o1
    cases o1
    exact ec_bkt hh (Nat.lt_succ_self _) o2
theorem ec_irem {j f pc : Nat} {C : ec_C} {z : mAl} {L : List (Option mV)} {st : List mV} {σ : mS} {q : mX × mS} {e : Nat × Nat × Nat × Int × List Nat} {x y : Int32} (h : EC C f j z pc L (.inl y :: .inl x :: st) σ q) (hr : m_at z.2.1 pc = some (.irem, e)) : y ≠ 0 ∧ ∃ f', f' < f ∧ EC C f' j z (pc + 1) L (.inl (x - x / y * y) :: st) σ q := by
  by_cases hy : y = 0
  · exact absurd ⟨rfl, by show (if y = 0 then none else some (pc + 1, L, .inl (x - x / y * y) :: st)) = none; rw [if_pos hy]⟩ (ec_ok h hr rfl)
  · obtain ⟨f', g, h⟩ := ec_p h hr rfl rfl (by show (if y = 0 then none else some (pc + 1, L, .inl (x - x / y * y) :: st)) = some _; rw [if_neg hy])
    exact ⟨hy, f', g, h⟩
end EC1
section EC2
variable {C : ec_C} {f j : Nat} {z : mAl} {pc : Nat} {L : List (Option mV)} {st : List mV} {σ : mS} {q : mX × mS} {c : Nat} {avs : List mV} {zc : mAl}
theorem ec_run (hC : CK C) (h : ec_bk C f j z pc L st σ q c avs) (hn : Nat.beq c 171 = false) : ∃ x σ1, ev_run sm_all c avs σ x σ1 ∧ ((∃ v, x = .inl v ∧ ∃ f', f' < f ∧ EC C f' j z (pc + 3) L (v.toList ++ st) σ1 q) ∨ ∃ b, x = .inr b ∧ q = (.inr b, σ1)) := by
  obtain ⟨x, σ1, r, g⟩ := h
  exact ⟨x, σ1, hC.1 _ _ _ _ _ (fun z => by rw [z] at hn; cases hn) r, g⟩
theorem cx_I (hC : CK C) (h : ec_bk C f j z pc L st σ q c avs) (hn : Nat.beq c 171 = false) (hz : m_alF[c]? = some zc) (ht : zc.1.2.2.2.1 = some .int ∨ zc.1.2.2.2.1 = some .boolean) : (∃ (v : Int32) (σ1 : mS), ev_run sm_all c avs σ (.inl (some (.inl v))) σ1 ∧ ∃ f', f' < f ∧ EC C f' j z (pc + 3) L (.inl v :: st) σ1 q) ∨ ∃ (b : Nat) (σ1 : mS), ev_run sm_all c avs σ (.inr b) σ1 ∧ q = (.inr b, σ1) := by
  obtain ⟨x, σ1, r, ⟨v, rfl, g⟩ | ⟨b, rfl, e⟩⟩ := ec_run hC h hn
  · have t := ev_ty hz r
    rcases v with _ | y | y | y
    · have t : zc.1.2.2.2.1 = none := t
      rcases ht with e | e <;> rw [e] at t <;> cases t
    · exact Or.inl ⟨y, σ1, r, g⟩
    · have t : zc.1.2.2.2.1 = some .long := t
      rcases ht with e | e <;> rw [e] at t <;> cases t
    · have t : m_isr zc.1.2.2.2.1 = true := t
      rcases ht with e | e <;> rw [e] at t <;> cases t
  · exact Or.inr ⟨b, σ1, r, e⟩
theorem cx_L (hC : CK C) (h : ec_bk C f j z pc L st σ q c avs) (hn : Nat.beq c 171 = false) (hz : m_alF[c]? = some zc) (ht : zc.1.2.2.2.1 = some .long) : (∃ (v : Int64) (σ1 : mS), ev_run sm_all c avs σ (.inl (some (.inr (.inl v)))) σ1 ∧ ∃ f', f' < f ∧ EC C f' j z (pc + 3) L (.inr (.inl v) :: st) σ1 q) ∨ ∃ (b : Nat) (σ1 : mS), ev_run sm_all c avs σ (.inr b) σ1 ∧ q = (.inr b, σ1) := by
  obtain ⟨x, σ1, r, ⟨v, rfl, g⟩ | ⟨b, rfl, e⟩⟩ := ec_run hC h hn
  · have t := ev_ty hz r
    rw [ht] at t
    rcases v with _ | y | y | y
    · cases t
    · rcases t with t | ⟨t, -⟩ <;> cases t
    · exact Or.inl ⟨y, σ1, r, g⟩
    · cases t
  · exact Or.inr ⟨b, σ1, r, e⟩
theorem ec_part44 (hC : CK C) {k n : Int32} (h : ec_bk C f j z pc L st σ q 171 [rf 98 0, .inl k, .inl n]) (hn : 0 < n.toInt) : (n.toInt = 44 ∧ q = (.inr 7, σ)) ∨ ∃ v : Int32, (0 ≤ v.toInt ∧ v.toInt < n.toInt) ∧ ∃ f', f' < f ∧ EC C f' j z (pc + 3) L (.inl v :: st) σ q := by
  obtain ⟨x, σ1, r, g⟩ := h
  rcases hC.2.1 k n σ x σ1 r hn with ⟨v, rfl, b, rfl⟩ | ⟨n4, rfl, rfl⟩
  · rcases g with ⟨v', e, g⟩ | ⟨b', e, _⟩
    · cases e
      exact Or.inr ⟨v, b, g⟩
    · cases e
  · rcases g with ⟨v', e, _⟩ | ⟨b', e, g⟩
    · cases e
    · cases e
      exact Or.inl ⟨n4, g⟩
theorem ec_part (hC : CK C) {k n : Int32} (h : ec_bk C f j z pc L st σ q 171 [rf 98 0, .inl k, .inl n]) (hn : 0 < n.toInt) (h4 : n.toInt ≠ 44) : ∃ v : Int32, (0 ≤ v.toInt ∧ v.toInt < n.toInt) ∧ ∃ f', f' < f ∧ EC C f' j z (pc + 3) L (.inl v :: st) σ q := by
  rcases ec_part44 hC h hn with ⟨a, _⟩ | h
  · exact absurd a h4
  · exact h
end EC2
def z157 : mAl := ((yX11_replays, cX11_replays, 3, (some .boolean), { frames := 7, cells := 347, slots := 4031, locals := 190 }, []), rw_X11_replays, false)
theorem z157_at : m_alF[157]? = some z157 := rfl
