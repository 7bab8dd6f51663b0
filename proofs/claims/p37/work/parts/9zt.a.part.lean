/-! a piece of the script: the run of part, exactly -/
def gx (xs : ab_X) (C : ec_C) (j : Nat) (z : mAl) (s : ev_T) (q : mX × mS) : Prop := ∃ f, ev_r xs sm_all C j z f s = some q
section GX
variable {xs : ab_X} {C : ec_C} {j : Nat} {z : mAl} {pc k n : Nat} {L : List (Option mV)} {st : List mV} {σ : mS} {q : mX × mS} {r : mRow}
theorem gx_st {s s' : ev_T} (h : ev_st xs z s = some (.inl s')) (K : gx xs C j z s' q) : gx xs C j z s q := by
  obtain ⟨f, K⟩ := K
  exact ⟨f + 1, ev_r_succ.mpr ⟨trivial, _, h, K⟩⟩
theorem gx_bare (hr : m_at z.2.1 pc = some r) (hb : er_bareI r.1 = true) : ev_st xs z (pc, L, st, σ, k, n) = ev_bare r pc L st σ k n := by
  unfold ev_st ev_nf
  dsimp only
  rw [hr]
  obtain ⟨ig, ln, ra, rb, rz, rp⟩ := r
  cases ig <;> first | rfl | cases hb
theorem gx_p (hr : m_at z.2.1 pc = some r) (hb : er_bareI r.1 = true) (hc : m_cond r st = none) {pc' : Nat} {L' : List (Option mV)} {st' : List mV} (hp : m_pure r pc L st = some (pc', L', st')) (K : gx xs C j z (pc', L', st', σ, k, n) q) : gx xs C j z (pc, L, st, σ, k, n) q := by
  refine gx_st (s' := (pc', L', st', σ, k, n)) ?_ K
  rw [gx_bare hr hb]
  unfold ev_bare
  rw [hc, hp]
theorem gx_c (hr : m_at z.2.1 pc = some r) (hb : er_bareI r.1 = true) {P : Prop} {st' : List mV} (hc : m_cond r st = some (P, st')) (K1 : P → gx xs C j z (r.2.2.1, L, st', σ, k, n) q) (K2 : ¬ P → gx xs C j z (pc + 3, L, st', σ, k, n) q) : gx xs C j z (pc, L, st, σ, k, n) q := by
  by_cases hP : P
  · refine gx_st (s' := (r.2.2.1, L, st', σ, k, n)) ?_ (K1 hP)
    rw [gx_bare hr hb]
    unfold ev_bare
    rw [hc]
    dsimp only
    rw [if_pos hP]
  · refine gx_st (s' := (pc + 3, L, st', σ, k, n)) ?_ (K2 hP)
    rw [gx_bare hr hb]
    unfold ev_bare
    rw [hc]
    dsimp only
    rw [if_neg hP]
theorem gx_irem {e : Nat × Nat × Nat × Int × List Nat} {x y : Int32} (hr : m_at z.2.1 pc = some (.irem, e)) (hy : y ≠ 0) (K : gx xs C j z (pc + 1, L, .inl (x - x / y * y) :: st, σ, k, n) q) : gx xs C j z (pc, L, .inl y :: .inl x :: st, σ, k, n) q := gx_p hr rfl rfl (by show (if y = 0 then none else some (pc + 1, L, .inl (x - x / y * y) :: st)) = some _; rw [if_neg hy]) K
end GX
theorem i32_and {x y : Int32} (hy : 0 ≤ y.toInt) : 0 ≤ (x &&& y).toInt := by
  have h2 : y.toBitVec.msb = false := by rw [BitVec.msb_eq_toInt]; exact decide_eq_false (by show ¬ y.toInt < 0; omega)
  have h3 : (x &&& y).toBitVec.msb = false := by
    show (x.toBitVec &&& y.toBitVec).msb = false
    rw [BitVec.msb_and, h2, Bool.and_false]
  rw [BitVec.msb_eq_toInt] at h3
  have h4 := of_decide_eq_false h3
  have h5 : ¬ (x &&& y).toInt < 0 := h4
  omega
def n_pv (x n : Int32) : Int32 := (x &&& Int32.ofInt 2147483647) - (x &&& Int32.ofInt 2147483647) / n * n
theorem n_pv_b {x n : Int32} (hn : 0 < n.toInt) : 0 ≤ (n_pv x n).toInt ∧ (n_pv x n).toInt < n.toInt := by
  have h := i32_and (x := x) (y := Int32.ofInt 2147483647) (by decide)
  unfold n_pv
  rw [md32 h hn]
  exact ⟨Int.emod_nonneg _ (by omega), Int.emod_lt_of_pos _ hn⟩
theorem n_part_tail {xs : ab_X} {C : ec_C} {k n x : Int32} {L3 : Option mV} {σ : mS} (hn : 0 < n.toInt) : gx xs C 171 z171 (25, [some (rf 98 0), some (.inl k), some (.inl n), L3], [.inl x], σ, 0, 0) (.inl (some (.inl (n_pv x n))), σ) := by
  refine gx_p rfl rfl rfl rfl ?_
  show gx xs C 171 z171 (26, [some (rf 98 0), some (.inl k), some (.inl n), some (.inl x)], [], σ, 0, 0) _
  refine gx_p rfl rfl rfl rfl ?_
  show gx xs C 171 z171 (27, [some (rf 98 0), some (.inl k), some (.inl n), some (.inl x)], [.inl x], σ, 0, 0) _
  refine gx_p rfl rfl rfl rfl ?_
  show gx xs C 171 z171 (29, [some (rf 98 0), some (.inl k), some (.inl n), some (.inl x)], [.inl (Int32.ofInt 2147483647), .inl x], σ, 0, 0) _
  refine gx_p rfl rfl rfl rfl ?_
  show gx xs C 171 z171 (30, [some (rf 98 0), some (.inl k), some (.inl n), some (.inl x)], [.inl (x &&& Int32.ofInt 2147483647)], σ, 0, 0) _
  refine gx_p rfl rfl rfl rfl ?_
  show gx xs C 171 z171 (31, [some (rf 98 0), some (.inl k), some (.inl n), some (.inl x)], [.inl n, .inl (x &&& Int32.ofInt 2147483647)], σ, 0, 0) _
  have hne : n ≠ 0 := fun z => by rw [z] at hn; exact absurd hn (by decide)
  refine gx_irem rfl hne ?_
  show gx xs C 171 z171 (32, [some (rf 98 0), some (.inl k), some (.inl n), some (.inl x)], [.inl (n_pv x n)], σ, 0, 0) _
  refine ⟨1, ev_r_succ.mpr ⟨trivial, .inr (.inl (.inl (some (.inl (n_pv x n))), σ)), ?_, rfl⟩⟩
  show ev_if (0 ≤ 0 ∧ 0 ≤ 0) (ev_ny σ (ev_iret (some .int) [.inl (n_pv x n)])) = _
  refine ev_if_some.mpr ⟨⟨Nat.le_refl _, Nat.le_refl _⟩, ?_⟩
  have : ev_iret (some .int) [.inl (n_pv x n)] = some (some (.inl (n_pv x n))) := ev_if_some.mpr ⟨Or.inl rfl, rfl⟩
  rw [this]
  rfl
theorem n_part_run {len : Nat} {fc : Nat → Int32} {C : ec_C} (hlen : len < 2147483648) {k n : Int32} {σ : mS} (hk : 0 ≤ k.toInt) (hn : 0 < n.toInt) : ∃ v : Int32, gx (some (len, fc)) C 171 z171 (0, m_L0 4 [rf 98 0, .inl k, .inl n], [], σ, 0, 0) (.inl (some (.inl v)), σ) ∧ 0 ≤ v.toInt ∧ v.toInt < n.toInt := by
  by_cases hc : (Int32.ofNat len) ≤ k
  · refine ⟨n_pv (Int32.ofInt 661 * k + Int32.ofInt 547 * k * k) n, ?_, n_pv_b hn⟩
    show gx _ _ 171 z171 (0, [some (rf 98 0), some (.inl k), some (.inl n), none], [], σ, 0, 0) _
    refine gx_p rfl rfl rfl rfl ?_
    refine gx_p rfl rfl rfl rfl ?_
    show gx _ _ 171 z171 (2, [some (rf 98 0), some (.inl k), some (.inl n), none], [rf 98 0, .inl k], σ, 0, 0) _
    refine gx_st (s' := (3, [some (rf 98 0), some (.inl k), some (.inl n), none], [.inl (Int32.ofNat len), .inl k], σ, 0, 0)) ?_ ?_
    · show ev_nw 3 _ σ 0 0 (ev_if (len < 2147483648) (some [.inl (Int32.ofNat len), .inl k])) = _
      have : ev_if (len < 2147483648) (some ([.inl (Int32.ofNat len), .inl k] : List mV)) = some [.inl (Int32.ofNat len), .inl k] := ev_if_some.mpr ⟨hlen, rfl⟩
      rw [this]
      rfl
    refine gx_c rfl rfl rfl (fun _ => ?_) (fun z => absurd hc z)
    show gx _ _ 171 z171 (12, [some (rf 98 0), some (.inl k), some (.inl n), none], [], σ, 0, 0) _
    refine gx_p rfl rfl rfl rfl ?_
    refine gx_p rfl rfl rfl rfl ?_
    refine gx_p rfl rfl rfl rfl ?_
    show gx _ _ 171 z171 (17, [some (rf 98 0), some (.inl k), some (.inl n), none], [.inl (Int32.ofInt 661 * k)], σ, 0, 0) _
    refine gx_p rfl rfl rfl rfl ?_
    refine gx_p rfl rfl rfl rfl ?_
    refine gx_p rfl rfl rfl rfl ?_
    refine gx_p rfl rfl rfl rfl ?_
    refine gx_p rfl rfl rfl rfl ?_
    show gx _ _ 171 z171 (24, [some (rf 98 0), some (.inl k), some (.inl n), none], [.inl (Int32.ofInt 547 * k * k), .inl (Int32.ofInt 661 * k)], σ, 0, 0) _
    refine gx_p rfl rfl rfl rfl ?_
    exact n_part_tail hn
  · refine ⟨n_pv (fc k.toNatClampNeg) n, ?_, n_pv_b hn⟩
    have hlt : k.toInt < (len : Int) := by
      have e : (Int32.ofNat len).toInt = (len : Int) := Int32.toInt_ofNat_of_lt (by omega)
      have h1 : ¬ (Int32.ofNat len).toInt ≤ k.toInt := fun z => hc (Int32.le_iff_toInt_le.mpr z)
      omega
    have hv : vp_in k len := vp_ok.mpr ⟨hk, hlt, (i_nat hk).symm⟩
    show gx _ _ 171 z171 (0, [some (rf 98 0), some (.inl k), some (.inl n), none], [], σ, 0, 0) _
    refine gx_p rfl rfl rfl rfl ?_
    refine gx_p rfl rfl rfl rfl ?_
    show gx _ _ 171 z171 (2, [some (rf 98 0), some (.inl k), some (.inl n), none], [rf 98 0, .inl k], σ, 0, 0) _
    refine gx_st (s' := (3, [some (rf 98 0), some (.inl k), some (.inl n), none], [.inl (Int32.ofNat len), .inl k], σ, 0, 0)) ?_ ?_
    · show ev_nw 3 _ σ 0 0 (ev_if (len < 2147483648) (some [.inl (Int32.ofNat len), .inl k])) = _
      have : ev_if (len < 2147483648) (some ([.inl (Int32.ofNat len), .inl k] : List mV)) = some [.inl (Int32.ofNat len), .inl k] := ev_if_some.mpr ⟨hlen, rfl⟩
      rw [this]
      rfl
    refine gx_c rfl rfl rfl (fun z => absurd z hc) (fun _ => ?_)
    show gx _ _ 171 z171 (6, [some (rf 98 0), some (.inl k), some (.inl n), none], [], σ, 0, 0) _
    refine gx_p rfl rfl rfl rfl ?_
    refine gx_p rfl rfl rfl rfl ?_
    show gx _ _ 171 z171 (8, [some (rf 98 0), some (.inl k), some (.inl n), none], [.inl k, rf 98 0], σ, 0, 0) _
    refine gx_st (s' := (9, [some (rf 98 0), some (.inl k), some (.inl n), none], [.inl (fc k.toNatClampNeg)], σ, 0, 0)) ?_ ?_
    · show ev_nw 9 _ σ 0 0 (ev_if (vp_in k len) (some [.inl (fc k.toNatClampNeg)])) = _
      have : ev_if (vp_in k len) (some ([.inl (fc k.toNatClampNeg)] : List mV)) = some [.inl (fc k.toNatClampNeg)] := ev_if_some.mpr ⟨hv, rfl⟩
      rw [this]
      rfl
    refine gx_p rfl rfl rfl rfl ?_
    exact n_part_tail hn
theorem gx_uni {xs : ab_X} {C : ec_C} {j : Nat} {z : mAl} {s : ev_T} {q q' : mX × mS} (h : gx xs C j z s q) (g : gx xs C j z s q') : q = q' := by
  obtain ⟨f, h⟩ := h
  obtain ⟨f', g⟩ := g
  have a := ev_r_mono (fun _ _ _ _ h => h) (fun _ _ _ h => h) f (max f f') s (Nat.le_max_left _ _) h
  have b := ev_r_mono (fun _ _ _ _ h => h) (fun _ _ _ h => h) f' (max f f') s (Nat.le_max_right _ _) g
  rw [a] at b
  cases b
  rfl
/-! the calls of main, as a function -/
def n_R (xs : ab_X) (j : Nat) (avs : List mV) (σ : mS) (q : mX × mS) : Prop := (j = 171 ∧ (∃ k n : Int32, avs = [rf 98 0, .inl k, .inl n] ∧ 0 ≤ k.toInt ∧ 0 < n.toInt) ∧ gx xs (fun _ _ _ => none) 171 z171 (0, m_L0 4 avs, [], σ, 0, 0) q) ∨ (j = 157 ∧ ev_run sm_all 157 avs σ q.1 q.2 ∧ (∃ v : Int32, q.1 = .inl (some (.inl v)) ∧ v.toInt ≠ 0) ∧ sF σ q.2) ∨ (j ≠ 171 ∧ j ≠ 157 ∧ ev_run sm_all j avs σ q.1 q.2)
theorem n_R_uni {xs : ab_X} {j : Nat} {avs : List mV} {σ : mS} {q q' : mX × mS} (h : n_R xs j avs σ q) (g : n_R xs j avs σ q') : q = q' := by
  have run : ∀ {j : Nat}, ev_run sm_all j avs σ q.1 q.2 → ev_run sm_all j avs σ q'.1 q'.2 → q = q' := fun a b => by
    obtain ⟨e1, e2⟩ := run_fn a b
    exact Prod.ext e1 e2
  rcases h with ⟨j1, _, h⟩ | ⟨j1, h, _⟩ | ⟨j1, j2, h⟩ <;> rcases g with ⟨j3, _, g⟩ | ⟨j3, g, _⟩ | ⟨j3, j4, g⟩
  · exact gx_uni h g
  · omega
  · omega
  · omega
  · exact run h g
  · omega
  · omega
  · omega
  · exact run h g
noncomputable def n_Cf (xs : ab_X) : ec_C := fun j avs σ => @dite _ (∃ q, n_R xs j avs σ q) (Classical.propDecidable _) (fun h => some (Classical.choose h)) (fun _ => none)
theorem n_Cf_R {xs : ab_X} {j : Nat} {avs : List mV} {σ : mS} {q : mX × mS} (h : n_Cf xs j avs σ = some q) : n_R xs j avs σ q := by
  unfold n_Cf at h
  by_cases hq : ∃ q, n_R xs j avs σ q
  · rw [dif_pos hq] at h
    cases h
    exact Classical.choose_spec hq
  · rw [dif_neg hq] at h
    cases h
theorem n_R_Cf {xs : ab_X} {j : Nat} {avs : List mV} {σ : mS} {q : mX × mS} (h : n_R xs j avs σ q) : n_Cf xs j avs σ = some q := by
  unfold n_Cf
  have hq : ∃ q, n_R xs j avs σ q := ⟨q, h⟩
  rw [dif_pos hq]
  exact congrArg some (n_R_uni (Classical.choose_spec hq) h)
theorem n_Cf_F {len : Nat} {fc : Nat → Int32} (hlen : len < 2147483648) (σ0 : mS) : n_F (n_Cf (some (len, fc))) σ0 := ⟨fun j avs σ x σ' h1 h2 r => n_R_Cf (Or.inr (Or.inr ⟨h1, h2, r⟩)), fun k n σ hk hn => by
  obtain ⟨v, r, b⟩ := n_part_run (fc := fc) (C := fun _ _ _ => none) (σ := σ) hlen hk hn
  exact ⟨v, n_R_Cf (Or.inl ⟨rfl, ⟨k, n, rfl, hk, hn⟩, r⟩), b⟩⟩
theorem n_Cf_7 {xs : ab_X} {σ0 : mS} (hx0 : hxs (fun _ => 0) σ0) (h10 : σ0.1 1 = 0) : n_F7 (n_Cf xs) σ0 := fun σ hK hI => by
  obtain ⟨σ', r, i, k, c, fl, fm⟩ := iv_replay hx0 h10 hK hI
  exact ⟨σ', n_R_Cf (Or.inr (Or.inl ⟨rfl, r, ⟨1, rfl, by decide⟩, sF_fo fl fm⟩)), i, k, c⟩
theorem n_Cf_K {len : Nat} {fc : Nat → Int32} (hlen : len < 2147483648) (τ : mS) : CK (n_D (n_Cf (some (len, fc))) (n_Dh τ)) := by
  refine ⟨fun j avs σ x σ' hj h => ?_, fun k n σ x σ' h hn => ?_, fun avs σ x σ' h => ?_⟩
  · rw [n_D_n (fun z => hj z.1)] at h
    rcases n_Cf_R h with ⟨e, _⟩ | ⟨e, r, _⟩ | ⟨_, _, r⟩
    · exact absurd e hj
    · rw [e]; exact r
    · exact r
  · by_cases hD : n_Dh τ 171 [rf 98 0, .inl k, .inl n] σ
    · rw [n_D_y hD] at h
      cases h
      obtain ⟨-, -, kk, e⟩ := hD
      refine Or.inr ⟨?_, rfl, rfl⟩
      injection e with _ e
      injection e with _ e
      injection e with e _
      injection e with e
      rw [e]
      decide
    · rw [n_D_n hD] at h
      rcases n_Cf_R h with ⟨_, ⟨k', n', e, hk, _⟩, r⟩ | ⟨e, _⟩ | ⟨e, _⟩
      · injection e with _ e
        injection e with e1 e
        injection e with e2 _
        injection e1 with e1
        injection e2 with e2
        subst e1; subst e2
        obtain ⟨v, r2, b⟩ := n_part_run (fc := fc) (C := fun _ _ _ => none) (σ := σ) hlen hk hn
        have := gx_uni r r2
        cases this
        exact Or.inl ⟨v, rfl, b, rfl⟩
      · cases e
      · exact absurd rfl e
  · rw [n_D_n (fun z => by cases z.1)] at h
    rcases n_Cf_R h with ⟨e, _⟩ | ⟨_, _, ⟨v, ev, hv⟩, hs⟩ | ⟨_, e, _⟩
    · cases e
    · exact ⟨v, ev, hv, hs⟩
    · exact absurd rfl e
