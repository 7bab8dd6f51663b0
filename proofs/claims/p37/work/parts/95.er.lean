/-! runs by hand, instruction by instruction -/
def ER (j : Nat) (z : mAl) (s : ev_T) (q : mX × mS) : Prop := ∃ f, ev_r none sm_all (ev_c sm_all f) j z f s = some q
section ER1
variable {j : Nat} {z : mAl} {s s' : ev_T} {q : mX × mS}
theorem er_up {f f' : Nat} (h : ev_r none sm_all (ev_c sm_all f) j z f s = some q) (hf : f ≤ f') : ev_r none sm_all (ev_c sm_all f') j z f' s = some q :=
  ev_r_mono (fun j avs σ q h => ev_c_mono (fun _ _ _ h => h) _ _ j avs σ q hf h) (fun _ _ _ h => h) _ _ _ hf h
theorem er_nx (h : ev_st none z s = some (.inl s')) (K : ER j z s' q) : ER j z s q := by
  obtain ⟨f, K⟩ := K
  exact ⟨f + 1, ev_r_succ.mpr ⟨trivial, _, h, ev_r_mono (fun j avs σ q h => ev_c_mono (fun _ _ _ h => h) f (f + 1) j avs σ q (Nat.le_succ f) h) (fun _ _ _ h => h) f f s' (Nat.le_refl f) K⟩⟩
theorem er_fin {e : mX × mS} (h : ev_st none z s = some (.inr (.inl e))) : ER j z s e := ⟨1, ev_r_succ.mpr ⟨trivial, _, h, rfl⟩⟩
theorem er_cl {c : Nat × mMt × List mV × List mV} {v : Option mV} {σ' : mS} (h : ev_st none z s = some (.inr (.inr c))) (hc : ev_run sm_all c.1 c.2.2.1 s.2.2.2.1 (.inl v) σ') (K : ER j z (ev_nxt s c v σ') q) : ER j z s q := by
  obtain ⟨f, K⟩ := K
  obtain ⟨f0, hc⟩ := hc
  refine ⟨max f0 f + 1, ev_r_succ.mpr ⟨trivial, _, h, .inl v, σ', ev_c_mono (fun _ _ _ h => h) _ _ _ _ _ _ (Nat.le_trans (Nat.le_max_left f0 f) (Nat.le_succ _)) hc, ?_⟩⟩
  exact ev_r_mono (fun j avs σ q h => ev_c_mono (fun _ _ _ h => h) _ _ j avs σ q (Nat.le_trans (Nat.le_max_right f0 f) (Nat.le_succ _)) h) (fun _ _ _ h => h) f _ _ (Nat.le_max_right f0 f) K
theorem er_go {avs : List mV} {σ σ' : mS} {x : mX} (hz : m_alF[j]? = some z) (hn : (m_args avs).length ≤ z.1.2.2.1) (h : ER j z (0, m_L0 z.1.2.2.1 avs, [], σ, 0, 0) (x, σ')) : ev_run sm_all j avs σ x σ' := by
  obtain ⟨f, h⟩ := h
  exact ⟨f + 1, ev_c_succ.mpr ⟨z, hz, hn, h⟩⟩
variable {pc : Nat} {r : mRow} {L : List (Option mV)} {st : List mV} {σ : mS} {k n : Nat}
def er_bareI (i : Instr) : Bool := match i with
  | .getfield _ => false
  | .putfield _ => false
  | .arraylength => false
  | .iaload => false
  | .laload => false
  | .baload => false
  | .aaload => false
  | .iastore => false
  | .lastore => false
  | .bastore => false
  | .aastore => false
  | .new _ => false
  | .newarray _ => false
  | .anewarray _ => false
  | .multianewarray _ _ => false
  | .invokevirtual _ => false
  | .invokespecial _ => false
  | .invokestatic _ => false
  | .ireturn => false
  | .lreturn => false
  | .areturn => false
  | .return_ => false
  | _ => true
theorem er_bare (hr : m_at z.2.1 pc = some r) (hb : er_bareI r.1 = true) : ev_st none z (pc, L, st, σ, k, n) = ev_bare r pc L st σ k n := by
  unfold ev_st ev_nf
  dsimp only
  rw [hr]
  obtain ⟨ig, ln, ra, rb, rz, rp⟩ := r
  cases ig <;> first | rfl | cases hb
theorem er_p {w : Nat × List (Option mV) × List mV} (hr : m_at z.2.1 pc = some r) (hb : er_bareI r.1 = true) (hc : m_cond r st = none) (hp : m_pure r pc L st = some w) (K : ER j z (w.1, w.2.1, w.2.2, σ, k, n) q) : ER j z (pc, L, st, σ, k, n) q := by
  refine er_nx ?_ K
  rw [er_bare hr hb]
  unfold ev_bare
  rw [hc, hp]
theorem er_ct {P : Prop} {st' : List mV} (hr : m_at z.2.1 pc = some r) (hb : er_bareI r.1 = true) (hc : m_cond r st = some (P, st')) (hP : P) (K : ER j z (r.2.2.1, L, st', σ, k, n) q) : ER j z (pc, L, st, σ, k, n) q := by
  refine er_nx ?_ K
  rw [er_bare hr hb]
  unfold ev_bare
  rw [hc]
  dsimp only
  rw [if_pos hP]
theorem er_cf {P : Prop} {st' : List mV} (hr : m_at z.2.1 pc = some r) (hb : er_bareI r.1 = true) (hc : m_cond r st = some (P, st')) (hP : ¬ P) (K : ER j z (pc + 3, L, st', σ, k, n) q) : ER j z (pc, L, st, σ, k, n) q := by
  refine er_nx ?_ K
  rw [er_bare hr hb]
  unfold ev_bare
  rw [hc]
  dsimp only
  rw [if_neg hP]
theorem er_get {i : Nat} {e : Nat × Nat × Nat × Int × List Nat} {p : Nat × Nat} {v : mV} (hr : m_at z.2.1 pc = some (.getfield i, e)) (hp : p.1 = e.2.1) (hv : m_get σ e.2.1 p.2 e.2.2.1 = v) (K : ER j z (pc + 3, L, v :: st, σ, k, n) q) : ER j z (pc, L, .inr (.inr (some p)) :: st, σ, k, n) q := by
  refine er_nx ?_ K
  unfold ev_st ev_nf
  dsimp only
  rw [hr]
  dsimp only
  have : ev_get (.getfield i, e) σ (.inr (.inr (some p)) :: st) = some (m_get σ e.2.1 p.2 e.2.2.1 :: st) := ev_if_some.mpr ⟨hp, rfl⟩
  rw [this, hv]
  rfl
theorem er_put {i : Nat} {e : Nat × Nat × Nat × Int × List Nat} {p : Nat × Nat} {v : mV} (hr : m_at z.2.1 pc = some (.putfield i, e)) (hp : p.1 = e.2.1) (ht : m_tp (m_ty e.2.1 e.2.2.1) v) (K : ER j z (pc + 3, L, st, m_set σ e.2.1 p.2 e.2.2.1 v, k, n) q) : ER j z (pc, L, v :: .inr (.inr (some p)) :: st, σ, k, n) q := by
  refine er_nx ?_ K
  unfold ev_st ev_nf
  dsimp only
  rw [hr]
  dsimp only
  have : ev_put (.putfield i, e) σ (v :: .inr (.inr (some p)) :: st) = some (st, m_set σ e.2.1 p.2 e.2.2.1 v) := ev_if_some.mpr ⟨⟨hp, ht⟩, rfl⟩
  rw [this]
  rfl
theorem er_len {e : Nat × Nat × Nat × Int × List Nat} {p : Nat × Nat} {l : Nat} (hr : m_at z.2.1 pc = some (.arraylength, e)) (hp : 13 ≤ p.1 ∧ p.1 ≤ 21) (hl : σ.2.1 p.1 p.2 = l) (K : ER j z (pc + 1, L, .inl (Int32.ofNat l) :: st, σ, k, n) q) : ER j z (pc, L, .inr (.inr (some p)) :: st, σ, k, n) q := by
  refine er_nx ?_ K
  unfold ev_st ev_nf
  dsimp only
  rw [hr]
  dsimp only
  have hxs : m_isx (.inr (.inr (some p)) :: st) 0 = false := by
    show Nat.beq p.1 98 = false
    cases hb : Nat.beq p.1 98 with
    | true => have := Nat.eq_of_beq_eq_true hb; omega
    | false => rfl
  rw [hxs]
  have : ev_len σ (.inr (.inr (some p)) :: st) = some (.inl (Int32.ofNat (σ.2.1 p.1 p.2)) :: st) := ev_if_some.mpr ⟨hp, rfl⟩
  dsimp only [cond_false]
  rw [this, hl]
  rfl
theorem er_new {i : Nat} {e : Nat × Nat × Nat × Int × List Nat} (hr : m_at z.2.1 pc = some (.new i, e)) (hc : e.2.1 < 13) (hm : m_rm z.1.2.2.2.2.1 (k + 1) (n + m_nf e.2.1)) (K : ER j z (pc + 3, L, .inr (.inr (some (e.2.1, σ.1 e.2.1))) :: st, m_nu σ e.2.1 0, k + 1, n + m_nf e.2.1) q) : ER j z (pc, L, st, σ, k, n) q := by
  refine er_nx ?_ K
  unfold ev_st ev_nf
  dsimp only
  rw [hr]
  dsimp only
  rw [if_pos hc]
  exact ev_if_some.mpr ⟨hm, rfl⟩
theorem er_nwa {t : Nat} {st' : List mV} {l : Nat} {x : Int32} {e : Nat × Nat × Nat × Int × List Nat} {i : Nat} (hr : m_at z.2.1 pc = some (.anewarray i, e)) (hl : x.toNatClampNeg = l) (hm : ¬ x < 0 ∧ l ≤ 1000000 ∧ m_rm z.1.2.2.2.2.1 (k + 1) (n + l)) (K : ER j z (pc + 3, L, .inr (.inr (some (e.2.1, σ.1 e.2.1))) :: st, m_nu σ e.2.1 l, k + 1, n + l) q) : ER j z (pc, L, .inl x :: st, σ, k, n) q := by
  refine er_nx ?_ K
  unfold ev_st ev_nf
  dsimp only
  rw [hr]
  dsimp only
  subst hl
  have : ev_newa z.1.2.2.2.2.1 (.anewarray i, e) σ (.inl x :: st) k n = some (.inr (.inr (some (e.2.1, σ.1 e.2.1))) :: st, m_nu σ e.2.1 x.toNatClampNeg, n + x.toNatClampNeg) := ev_if_some.mpr ⟨hm, rfl⟩
  rw [this]
  rfl
theorem er_ast {e : Nat × Nat × Nat × Int × List Nat} {p d : Nat × Nat} {x : Int32} {l : Nat} (hr : m_at z.2.1 pc = some (.aastore, e)) (hl : x.toNatClampNeg = l) (hm : d.1 = m_el p.1 ∧ (16 ≤ p.1 ∧ p.1 ≤ 20) ∧ vp_in x (σ.2.1 p.1 p.2)) (K : ER j z (pc + 1, L, st, m_set σ p.1 p.2 l (.inr (.inr (some d))), k, n) q) : ER j z (pc, L, .inr (.inr (some d)) :: .inl x :: .inr (.inr (some p)) :: st, σ, k, n) q := by
  refine er_nx ?_ K
  unfold ev_st ev_nf
  dsimp only
  rw [hr]
  dsimp only
  subst hl
  have : ev_astq σ (.inr (.inr (some d)) :: .inl x :: .inr (.inr (some p)) :: st) = some (st, m_set σ p.1 p.2 x.toNatClampNeg (.inr (.inr (some d)))) := ev_if_some.mpr ⟨hm, rfl⟩
  rw [this]
  rfl
theorem er_obj {i : Nat} {e : Nat × Nat × Nat × Int × List Nat} {p : Nat × Nat} (hr : m_at z.2.1 pc = some (.invokespecial i, e)) (h2 : e.2.1 = 2000) (hL : L.length = z.1.2.2.1) (hs : (st.map m_cat).sum + 12 ≤ z.1.2.2.2.2.1.locals) (K : ER j z (pc + 3, L, st, σ, k, n) q) : ER j z (pc, L, .inr (.inr (some p)) :: st, σ, k, n) q := by
  refine er_nx ?_ K
  unfold ev_st ev_nf
  dsimp only
  rw [hr]
  dsimp only
  refine ev_if_some.mpr ⟨hL, ?_⟩
  rw [if_pos h2]
  have : ev_obj z.1.2.2.2.2.1 (.inr (.inr (some p)) :: st) = some st := ev_if_some.mpr ⟨hs, rfl⟩
  rw [this]
  rfl
theorem er_spc {i : Nat} {e : Nat × Nat × Nat × Int × List Nat} {p : Nat × Nat} {as : List mV} {y : mMt} {v : Option mV} {σ' : mS} (hr : m_at z.2.1 pc = some (.invokespecial i, e)) (h2 : e.2.1 ≠ 2000) (hy : m_mt[e.2.1]? = some y) (hp : p.1 = m_p (.invokespecial i, e) 5) (ha : as.length = e.2.2.1) (hL : L.length = z.1.2.2.1) (hm : (st.map m_cat).sum ≤ 8 ∧ m_rm z.1.2.2.2.2.1 (k + y.2.2.2.2.1.cells) (n + y.2.2.2.2.1.slots))
    (hc : ev_run sm_all e.2.1 (.inr (.inr (some p)) :: as.reverse) σ (.inl v) σ') (K : ER j z (pc + 3, L, v.toList ++ st, σ', k + y.2.2.2.2.1.cells, n + y.2.2.2.2.1.slots) q) : ER j z (pc, L, as ++ .inr (.inr (some p)) :: st, σ, k, n) q := by
  refine er_cl (c := (e.2.1, y, .inr (.inr (some p)) :: as.reverse, st)) ?_ hc K
  unfold ev_st ev_nf
  dsimp only
  rw [hr]
  dsimp only
  refine ev_if_some.mpr ⟨hL, ?_⟩
  rw [if_neg h2, hy]
  dsimp only
  unfold ev_callV
  have e1 : (as ++ (.inr (.inr (some p)) : mV) :: st).drop e.2.2.1 = .inr (.inr (some p)) :: st := by rw [← ha, List.drop_left]
  have e2 : (as ++ (.inr (.inr (some p)) : mV) :: st).take e.2.2.1 = as := by rw [← ha, List.take_left]
  rw [e1]
  dsimp only
  refine ev_if_some.mpr ⟨⟨hp, by rw [e2]; exact ha, hm.1, hm.2⟩, ?_⟩
  unfold m_take
  rw [e2, ← hp]
theorem er_ret {e : Nat × Nat × Nat × Int × List Nat} (hr : m_at z.2.1 pc = some (.return_, e)) (hk : k ≤ z.1.2.2.2.2.1.cells ∧ n ≤ z.1.2.2.2.2.1.slots) (ht : z.1.2.2.2.1 = none) : ER j z (pc, L, [], σ, k, n) (.inl none, σ) := by
  refine er_fin ?_
  unfold ev_st ev_nf
  dsimp only
  rw [hr]
  exact ev_if_some.mpr ⟨⟨hk.1, hk.2, ht, rfl⟩, rfl⟩
end ER1
def z97s : mAl := ((yX7_init, cX7_init, 2, none, rm_X7_init, []), rw_X7_init, true)
theorem z97s_at : m_alF[97]? = some z97s := rfl
theorem er_97 {σ : mS} {a : Nat} {x : Int32} : ev_run sm_all 97 [.inr (.inr (some (7, a))), .inl x] σ (.inl none) (m_set σ 7 a 0 (.inl x)) := by
  refine er_go z97s_at (Nat.le_of_ble_eq_true rfl) ?_
  refine er_p rfl rfl rfl rfl ?_
  refine er_obj rfl rfl rfl (by decide) ?_
  refine er_p rfl rfl rfl rfl ?_
  refine er_p rfl rfl rfl rfl ?_
  refine er_put rfl rfl (Or.inl rfl) ?_
  exact er_ret rfl (by decide) rfl
