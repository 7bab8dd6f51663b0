/-! a scenario's turn, and main's turns -/
theorem n_scen {n : Int} {N c : Nat} {k : Kt} {τ σ' : mS} {x2 x3 x4 x5 x6 x7 x8 x9 : Int32} {w : Int64} (h : S n N c k τ) (l : LI N k (tc τ) 0 τ) (hc : c ≤ 900000) (hk : x2.toInt = 10) (p : P172 τ x2 x3 x4 x5 x6 x7 x8 x9 (.inl (some (.inr (.inl w)))) σ') : w.toInt ≤ 0 ∨ (1 ≤ w.toInt ∧ ∃ (g : Nat) (y : Int32), g < 4 ∧ m_get σ' 13 17 1 = .inl y ∧ y.toInt = (g : Int)) := by
  obtain ⟨y, p146, g, _, ev⟩ := d172_10 hk p
  have h6 := h.1.2.2.2.2.2.1
  have nn := i_nat h6
  rcases a146 (s := (m_i τ 2 0 6).toNatClampNeg) h hc nn.symm p146 with ⟨a, ey, e⟩ | ⟨a, s4, ey, e⟩ | ⟨a, s4, v, ey, vn, _⟩
  · refine Or.inl ?_
    have tv : w.toInt = -2000000000 := by rw [ev, ey]; exact hv1
    omega
  · refine Or.inl ?_
    have tv : w.toInt = -1000000000 := by rw [ev, ey]; exact hv2
    omega
  · have tv : w.toInt = v.toInt := by rw [ev, ey]; exact l32 (by omega) (by omega)
    have gg : m_i σ' 13 17 1 = m_i τ 13 17 1 := g.i (by omega) 1
    have g1 := l.g1
    refine Or.inr ⟨by omega, (m_i τ 2 0 6).toNatClampNeg, m_i σ' 13 17 1, s4, rfl, ?_⟩
    rw [gg]
    omega
theorem n_ld13 {a0 a1 a2 a3 a4 a5 a6 a7 a8 a9 a10 a11 a12 a13 a14 a15 a16 a17 b13 b14 : Option mV} {i : Nat} (h : i < 13) : m_ld [a0, a1, a2, a3, a4, a5, a6, a7, a8, a9, a10, a11, a12, b13, b14, a15, a16, a17] i = m_ld [a0, a1, a2, a3, a4, a5, a6, a7, a8, a9, a10, a11, a12, a13, a14, a15, a16, a17] i := by
  unfold m_ld
  have : ([a0, a1, a2, a3, a4, a5, a6, a7, a8, a9, a10, a11, a12, b13, b14, a15, a16, a17] : List (Option mV))[i]? = [a0, a1, a2, a3, a4, a5, a6, a7, a8, a9, a10, a11, a12, a13, a14, a15, a16, a17][i]? := by
    match i, h with
    | 0, _ => rfl
    | 1, _ => rfl
    | 2, _ => rfl
    | 3, _ => rfl
    | 4, _ => rfl
    | 5, _ => rfl
    | 6, _ => rfl
    | 7, _ => rfl
    | 8, _ => rfl
    | 9, _ => rfl
    | 10, _ => rfl
    | 11, _ => rfl
    | 12, _ => rfl
  rw [this]
section NQ
variable {CC : Nat → List mV → mS → (mX → mS → Prop) → Prop} {Gd : ev_G} {J : Nat → List (Option mV) → List mV → mS → Nat → Nat → Prop} {Q : mX → mS → Prop} {pc k n : Nat} {L : List (Option mV)} {st : List mV} {σ : mS} {e : Nat × Nat × Nat × Int × List Nat} {x y : Int32}
theorem nj_irem (hJ : ev_cl Gd CC 18 ab_main none Q J) (hG : Gd 18 ab_main (pc, L, .inl y :: .inl x :: st, σ, k, n)) (hr : m_at ab_main.2.1 pc = some (.irem, e)) (hy : y ≠ 0) (K : J (pc + 1) L (.inl (x - x / y * y) :: st) σ k n) : J pc L (.inl y :: .inl x :: st) σ k n := nj_p hJ hG hr rfl rfl (by show (if y = 0 then none else some (pc + 1, L, .inl (x - x / y * y) :: st)) = some _; rw [if_neg hy]) K
theorem nj_idiv (hJ : ev_cl Gd CC 18 ab_main none Q J) (hG : Gd 18 ab_main (pc, L, .inl y :: .inl x :: st, σ, k, n)) (hr : m_at ab_main.2.1 pc = some (.idiv, e)) (hy : y ≠ 0) (K : J (pc + 1) L (.inl (x / y) :: st) σ k n) : J pc L (.inl y :: .inl x :: st) σ k n := nj_p hJ hG hr rfl rfl (by show (if y = 0 then none else some (pc + 1, L, .inl (x / y) :: st)) = some _; rw [if_neg hy]) K
end NQ
section NT
variable {C : ec_C} {σ0 : mS} {s0 : ev_T}
/-- a call of a method of the law -/
theorem nj_s {CC : Nat → List mV → mS → (mX → mS → Prop) → Prop} {Gd : ev_G} {J : Nat → List (Option mV) → List mV → mS → Nat → Nat → Prop} {pc k n : Nat} {L : List (Option mV)} {st as : List mV} {σ : mS} (hJ : ev_cl Gd CC 18 ab_main none (fun _ _ => True) J) {i : Nat} {e : Nat × Nat × Nat × Int × List Nat} {y : mMt} (hG : Gd 18 ab_main (pc, L, as ++ st, σ, k, n)) (hr : m_at ab_main.2.1 pc = some (.invokestatic i, e)) (h1 : e.2.1 < 1000) (hy : m_mt[e.2.1]? = some y) (ha : as.length = e.2.2.1) (hL : L.length = 18) (hm : (st.map m_cat).sum ≤ 8 ∧ m_rm ab_main.1.2.2.2.2.1 (k + y.2.2.2.2.1.cells) (n + y.2.2.2.2.1.slots)) (hk : m_rm ab_main.1.2.2.2.2.1 k n) (K : CC e.2.1 as.reverse σ (fun x σ' => ∀ v, x = .inl v → J (pc + 3) L (v.toList ++ st) σ' (k + y.2.2.2.2.1.cells) (n + y.2.2.2.2.1.slots))) (hCC : ac_CCm CC) : J pc L (as ++ st) σ k n := by
  have e1 : (as ++ st).drop e.2.2.1 = st := by rw [← ha, List.drop_left]
  have e2 : (as ++ st).take e.2.2.1 = as := by rw [← ha, List.take_left]
  refine hJ _ _ _ _ _ _ hG (ev_nf_ok.mpr ⟨.inr (.inr (e.2.1, y, as.reverse, st)), ?_, ?_⟩)
  · show ev_st none ab_main (pc, L, as ++ st, σ, k, n) = _
    unfold ev_st ev_nf
    dsimp only
    rw [hr]
    dsimp only
    refine ev_if_some.mpr ⟨⟨hL, hk⟩, ?_⟩
    rw [if_neg (by omega), hy]
    dsimp only
    unfold ev_callS
    dsimp only
    rw [e1, e2]
    refine ev_if_some.mpr ⟨⟨ha, hm.1, hm.2⟩, ?_⟩
    unfold m_take
    dsimp only
    rw [e2]
  · refine hCC _ _ _ _ _ (fun x σ' hx => ?_) K
    cases x with
    | inl v => exact hx v rfl
    | inr b => exact ⟨hm.2.1, hm.2.2, trivial⟩
def n_bk (m : Nat) : Nat := 2000 + 3000 * m
def n_bn (m : Nat) : Nat := 30000 + 27000 * m
/-- a place's claim -/
def n_Cl (C : ec_C) (σ0 : mS) (s0 : ev_T) (T : v_Tm) (m c dk dn : Nat) : Prop := ∀ Lc σ b n (y : Int32), v_In (ac_K0, n_WX) σ 18 T Lc σ → m_ld Lc 8 = some (.inl y) → y.toInt = (m : Int) → σ.1 1 ≤ c → b ≤ n_bk m + dk → n ≤ n_bn m + dn → n_J C σ0 s0 T.1 Lc [] σ b n
theorem n_cells : 400000 ≤ ab_main.1.2.2.2.2.1.cells ∧ 5000000 ≤ ab_main.1.2.2.2.2.1.slots := ⟨by decide, by decide⟩
/-- a stretch from a place to one other -/
theorem n_cl1 (hF : n_F C σ0) {T T' : v_Tm} {dl : Int} {ds rk rn c s m m' c0 dk dn dk' dn' : Nat} (hck : n_ck n_gd (n_SP (ac_K0, n_WX)) T [] [(T', dl, ds)] rk rn c s = true) {lo hi : Int} {ls : List (Nat × ab_T)} (hT0 : T.2 = (8, (0, 0, lo, hi, 0, 0)) :: ls) (hm : m ≤ 62) (hm' : (m' : Int) = m + dl) (hc0 : c0 + 8 ≤ 512) (hcs : c ≤ 2400 ∧ s ≤ 21600 ∧ dk ≤ 3000 ∧ dn ≤ 27000) (hk : n_bk m + dk + rk ≤ n_bk m' + dk') (hn : n_bn m + dn + rn ≤ n_bn m' + dn') (h : n_Cl C σ0 s0 T' m' (c0 + ds) dk' dn') : n_Cl C σ0 s0 T m c0 dk dn := by
  intro Lc σ b n y hin hy hym hc hb hnn
  have q := n_cells
  have e1 : n_bk m = 2000 + 3000 * m := rfl
  have e2 : n_bn m = 30000 + 27000 * m := rfl
  refine n_seg n_rule n_CCm n_gd_ok n_hG (n_SP_ok hF) hck hT0 n_J_cl hin hy (by omega) (fun _ _ _ _ o ho => by cases ho) (by omega) (by omega) (fun p hp Lc' σ' b' n' y' hin' hy' ey hc' hb' hn' => ?_)
  have ep := List.mem_singleton.mp hp
  subst ep
  exact h Lc' σ' b' n' y' ⟨hin'.1, hin'.2.1, hin'.2.2.1, ac_fr.rf⟩ hy' (by have ey : y'.toInt = y.toInt + dl := ey; omega) (by have hc' : σ'.1 1 ≤ σ.1 1 + ds := hc'; omega) (by omega) (by omega)
theorem n_c977 (hF : n_F C σ0) {m : Nat} (hm : m ≤ 61) (h : n_Cl C σ0 s0 n_T162 (m + 1) (2 * (m + 1)) 0 0) : n_Cl C σ0 s0 n_T977 m (2 * (m + 1)) 2400 21700 := n_cl1 hF n_k977 rfl (by omega) (by omega) (by omega) (by decide) (by unfold n_bk; omega) (by unfold n_bn; omega) h
theorem n_c925 (hF : n_F C σ0) {m : Nat} (hm : m ≤ 61) (h : n_Cl C σ0 s0 n_T162 (m + 1) (2 * (m + 1)) 0 0) : n_Cl C σ0 s0 n_T925 m (2 * (m + 1)) 2330 21000 := n_cl1 hF n_k925 rfl (by omega) (by omega) (by omega) (by decide) (by unfold n_bk; omega) (by unfold n_bn; omega) (n_c977 hF hm h)
theorem n_c221 (hF : n_F C σ0) {m : Nat} (hm : m ≤ 61) (h : n_Cl C σ0 s0 n_T162 (m + 1) (2 * (m + 1)) 0 0) : n_Cl C σ0 s0 n_T221 m (2 * m) 0 0 := n_cl1 hF n_k221 rfl (by omega) (by omega) (by omega) (by decide) (by unfold n_bk; omega) (by unfold n_bn; omega) (n_c925 hF hm h)
theorem n_c245 (hF : n_F C σ0) {m : Nat} (hm : m ≤ 61) (h : n_Cl C σ0 s0 n_T162 (m + 1) (2 * (m + 1)) 0 0) : n_Cl C σ0 s0 n_T245 m (2 * m) 0 0 := n_cl1 hF n_k245 rfl (by omega) (by omega) (by omega) (by decide) (by unfold n_bk; omega) (by unfold n_bn; omega) (n_c925 hF hm h)
theorem n_c269 (hF : n_F C σ0) {m : Nat} (hm : m ≤ 61) (h : n_Cl C σ0 s0 n_T162 (m + 1) (2 * (m + 1)) 0 0) : n_Cl C σ0 s0 n_T269 m (2 * m) 0 0 := n_cl1 hF n_k269 rfl (by omega) (by omega) (by omega) (by decide) (by unfold n_bk; omega) (by unfold n_bn; omega) (n_c925 hF hm h)
theorem n_c304 (hF : n_F C σ0) {m : Nat} (hm : m ≤ 61) (h : n_Cl C σ0 s0 n_T162 (m + 1) (2 * (m + 1)) 0 0) : n_Cl C σ0 s0 n_T304 m (2 * m) 0 0 := n_cl1 hF n_k304 rfl (by omega) (by omega) (by omega) (by decide) (by unfold n_bk; omega) (by unfold n_bn; omega) (n_c925 hF hm h)
theorem n_c355 (hF : n_F C σ0) {m : Nat} (hm : m ≤ 61) (h : n_Cl C σ0 s0 n_T162 (m + 1) (2 * (m + 1)) 0 0) : n_Cl C σ0 s0 n_T355 m (2 * m) 0 0 := n_cl1 hF n_k355 rfl (by omega) (by omega) (by omega) (by decide) (by unfold n_bk; omega) (by unfold n_bn; omega) (n_c925 hF hm h)
theorem n_c382 (hF : n_F C σ0) {m : Nat} (hm : m ≤ 61) (h : n_Cl C σ0 s0 n_T162 (m + 1) (2 * (m + 1)) 0 0) : n_Cl C σ0 s0 n_T382 m (2 * m) 0 0 := n_cl1 hF n_k382 rfl (by omega) (by omega) (by omega) (by decide) (by unfold n_bk; omega) (by unfold n_bn; omega) (n_c925 hF hm h)
theorem n_c595 (hF : n_F C σ0) {m : Nat} (hm : m ≤ 61) (h : n_Cl C σ0 s0 n_T162 (m + 1) (2 * (m + 1)) 0 0) : n_Cl C σ0 s0 n_T595 m (2 * m) 0 0 := n_cl1 hF n_k595 rfl (by omega) (by omega) (by omega) (by decide) (by unfold n_bk; omega) (by unfold n_bn; omega) (n_c925 hF hm h)
theorem n_c459 (hF : n_F C σ0) {m : Nat} (hm : m ≤ 61) (h : n_Cl C σ0 s0 n_T162 (m + 1) (2 * (m + 1)) 0 0) : n_Cl C σ0 s0 n_T459 m (2 * (m + 1)) 100 900 := n_cl1 hF n_k459 rfl (by omega) (by omega) (by omega) (by decide) (by unfold n_bk; omega) (by unfold n_bn; omega) (n_c925 hF hm h)
theorem n_Oc {σ : mS} {g : Nat} {y : Int32} (h1 : m_get σ 13 17 1 = .inl y) (h2 : y.toInt = (g : Int)) (n : Nat) (ν : ab_N) (hn : 0 < n) (h0 : ν 0 = 0) : ∀ o ∈ [((13, (0, 17), (0, 1), .inl (0, (g : Int))) : ac_O)], ac_ov n ν σ o := by
  intro o ho
  have e := List.mem_singleton.mp ho
  subst e
  refine ⟨⟨hn, hn⟩, hn, fun i k hi hk => ?_⟩
  have hi : (i : Int) = ν 0 + 17 := hi
  have hk : (k : Int) = ν 0 + 1 := hk
  have e1 : i = 17 := by omega
  have e2 : k = 1 := by omega
  subst e1; subst e2
  show ab_Vr n ν (.inl (0, (g : Int))) (m_get σ 13 17 1)
  rw [h1]
  exact ⟨hn, by show y.toInt = ν 0 + (g : Int); omega⟩
set_option maxRecDepth 100000 in
theorem n_c426 (hF : n_F C σ0) {m : Nat} (hm : m ≤ 61) (h : n_Cl C σ0 s0 n_T162 (m + 1) (2 * (m + 1)) 0 0) {t : Int} {τ : mS} (ht : t ≤ 61) (hP : PS IVt t τ) {Lc : List (Option mV)} {b n : Nat} {y : Int32} (hin : v_In (ac_K0, n_WX) τ 18 n_T426 Lc τ) (hy : m_ld Lc 8 = some (.inl y)) (hym : y.toInt = (m : Int)) (hc : τ.1 1 ≤ 2 * m) (hb : b ≤ n_bk m) (hn : n ≤ n_bn m) : n_J C σ0 s0 426 Lc [] τ b n := by
  have hJ := n_J_cl (C := C) (σ0 := σ0) (s0 := s0)
  have q := n_cells
  have e1 : n_bk m = 2000 + 3000 * m := rfl
  have e2 : n_bn m = 30000 + 27000 * m := rfl
  obtain ⟨a0, a1, a2, a3, a4, a5, a6, a7, a8, a9, a10, a11, a12, a13, a14, a15, a16, a17, eL⟩ := ls18 hin.1
  obtain ⟨x11, ex11, t11⟩ := hin.2.1 (11, (0, 0, 0, 69999, 0, 0)) (by decide)
  obtain ⟨y11, rfl, -, -⟩ := v_Ti t11
  obtain ⟨x12, ex12, t12⟩ := hin.2.1 (12, (0, 0, (-51), 51, 0, 0)) (by decide)
  obtain ⟨y12, rfl, -, -⟩ := v_Ti t12
  obtain ⟨x1, ex1, t1⟩ := hin.2.1 (1, (2, 11, 0, 0, 1, 1)) (by decide)
  have t1 := n_rf (c := 11) (i := 0) t1
  subst t1
  have hin' := hin
  subst eL
  obtain rfl := m_ld_o (o := a1) rfl ex1
  obtain rfl := m_ld_o (o := a11) rfl ex11
  obtain rfl := m_ld_o (o := a12) rfl ex12
  refine nj_p hJ ⟨rfl, Or.inl rfl⟩ rfl rfl rfl rfl ?_
  show n_J C σ0 s0 427 [a0, some (rf 11 0), a2, a3, a4, a5, a6, a7, a8, a9, a10, some (.inl y11), some (.inl y12), a13, a14, a15, a16, a17] [rf 11 0] τ b n
  refine nj_p hJ ⟨rfl, Or.inl rfl⟩ rfl rfl rfl rfl ?_
  show n_J C σ0 s0 429 [a0, some (rf 11 0), a2, a3, a4, a5, a6, a7, a8, a9, a10, some (.inl y11), some (.inl y12), a13, a14, a15, a16, a17] [.inl (Int32.ofInt 10), rf 11 0] τ b n
  refine nj_p hJ ⟨rfl, Or.inl rfl⟩ rfl rfl rfl rfl ?_
  show n_J C σ0 s0 431 [a0, some (rf 11 0), a2, a3, a4, a5, a6, a7, a8, a9, a10, some (.inl y11), some (.inl y12), a13, a14, a15, a16, a17] [.inl y12, .inl (Int32.ofInt 10), rf 11 0] τ b n
  refine nj_p hJ ⟨rfl, Or.inl rfl⟩ rfl rfl rfl rfl ?_
  show n_J C σ0 s0 433 [a0, some (rf 11 0), a2, a3, a4, a5, a6, a7, a8, a9, a10, some (.inl y11), some (.inl y12), a13, a14, a15, a16, a17] [.inl y11, .inl y12, .inl (Int32.ofInt 10), rf 11 0] τ b n
  refine nj_p hJ ⟨rfl, Or.inl rfl⟩ rfl rfl rfl rfl ?_
  show n_J C σ0 s0 435 [a0, some (rf 11 0), a2, a3, a4, a5, a6, a7, a8, a9, a10, some (.inl y11), some (.inl y12), a13, a14, a15, a16, a17] [.inl (Int32.ofInt 101), .inl y11, .inl y12, .inl (Int32.ofInt 10), rf 11 0] τ b n
  refine nj_irem hJ ⟨rfl, Or.inl rfl⟩ rfl (by decide) ?_
  show n_J C σ0 s0 436 [a0, some (rf 11 0), a2, a3, a4, a5, a6, a7, a8, a9, a10, some (.inl y11), some (.inl y12), a13, a14, a15, a16, a17] [.inl (y11 - y11 / (Int32.ofInt 101) * (Int32.ofInt 101)), .inl y12, .inl (Int32.ofInt 10), rf 11 0] τ b n
  refine nj_p hJ ⟨rfl, Or.inl rfl⟩ rfl rfl rfl rfl ?_
  show n_J C σ0 s0 438 [a0, some (rf 11 0), a2, a3, a4, a5, a6, a7, a8, a9, a10, some (.inl y11), some (.inl y12), a13, a14, a15, a16, a17] [.inl (Int32.ofInt 50), .inl (y11 - y11 / (Int32.ofInt 101) * (Int32.ofInt 101)), .inl y12, .inl (Int32.ofInt 10), rf 11 0] τ b n
  refine nj_p hJ ⟨rfl, Or.inl rfl⟩ rfl rfl rfl rfl ?_
  show n_J C σ0 s0 439 [a0, some (rf 11 0), a2, a3, a4, a5, a6, a7, a8, a9, a10, some (.inl y11), some (.inl y12), a13, a14, a15, a16, a17] [.inl ((y11 - y11 / (Int32.ofInt 101) * (Int32.ofInt 101)) - (Int32.ofInt 50)), .inl y12, .inl (Int32.ofInt 10), rf 11 0] τ b n
  refine nj_p hJ ⟨rfl, Or.inl rfl⟩ rfl rfl rfl rfl ?_
  show n_J C σ0 s0 441 [a0, some (rf 11 0), a2, a3, a4, a5, a6, a7, a8, a9, a10, some (.inl y11), some (.inl y12), a13, a14, a15, a16, a17] [.inl y11, .inl ((y11 - y11 / (Int32.ofInt 101) * (Int32.ofInt 101)) - (Int32.ofInt 50)), .inl y12, .inl (Int32.ofInt 10), rf 11 0] τ b n
  refine nj_p hJ ⟨rfl, Or.inl rfl⟩ rfl rfl rfl rfl ?_
  show n_J C σ0 s0 443 [a0, some (rf 11 0), a2, a3, a4, a5, a6, a7, a8, a9, a10, some (.inl y11), some (.inl y12), a13, a14, a15, a16, a17] [.inl (Int32.ofInt 101), .inl y11, .inl ((y11 - y11 / (Int32.ofInt 101) * (Int32.ofInt 101)) - (Int32.ofInt 50)), .inl y12, .inl (Int32.ofInt 10), rf 11 0] τ b n
  refine nj_idiv hJ ⟨rfl, Or.inl rfl⟩ rfl (by decide) ?_
  show n_J C σ0 s0 444 [a0, some (rf 11 0), a2, a3, a4, a5, a6, a7, a8, a9, a10, some (.inl y11), some (.inl y12), a13, a14, a15, a16, a17] [.inl (y11 / (Int32.ofInt 101)), .inl ((y11 - y11 / (Int32.ofInt 101) * (Int32.ofInt 101)) - (Int32.ofInt 50)), .inl y12, .inl (Int32.ofInt 10), rf 11 0] τ b n
  refine nj_p hJ ⟨rfl, Or.inl rfl⟩ rfl rfl rfl rfl ?_
  show n_J C σ0 s0 446 [a0, some (rf 11 0), a2, a3, a4, a5, a6, a7, a8, a9, a10, some (.inl y11), some (.inl y12), a13, a14, a15, a16, a17] [.inl (Int32.ofInt 101), .inl (y11 / (Int32.ofInt 101)), .inl ((y11 - y11 / (Int32.ofInt 101) * (Int32.ofInt 101)) - (Int32.ofInt 50)), .inl y12, .inl (Int32.ofInt 10), rf 11 0] τ b n
  refine nj_irem hJ ⟨rfl, Or.inl rfl⟩ rfl (by decide) ?_
  show n_J C σ0 s0 447 [a0, some (rf 11 0), a2, a3, a4, a5, a6, a7, a8, a9, a10, some (.inl y11), some (.inl y12), a13, a14, a15, a16, a17] [.inl ((y11 / (Int32.ofInt 101)) - (y11 / (Int32.ofInt 101)) / (Int32.ofInt 101) * (Int32.ofInt 101)), .inl ((y11 - y11 / (Int32.ofInt 101) * (Int32.ofInt 101)) - (Int32.ofInt 50)), .inl y12, .inl (Int32.ofInt 10), rf 11 0] τ b n
  refine nj_p hJ ⟨rfl, Or.inl rfl⟩ rfl rfl rfl rfl ?_
  show n_J C σ0 s0 449 [a0, some (rf 11 0), a2, a3, a4, a5, a6, a7, a8, a9, a10, some (.inl y11), some (.inl y12), a13, a14, a15, a16, a17] [.inl (Int32.ofInt 50), .inl ((y11 / (Int32.ofInt 101)) - (y11 / (Int32.ofInt 101)) / (Int32.ofInt 101) * (Int32.ofInt 101)), .inl ((y11 - y11 / (Int32.ofInt 101) * (Int32.ofInt 101)) - (Int32.ofInt 50)), .inl y12, .inl (Int32.ofInt 10), rf 11 0] τ b n
  refine nj_p hJ ⟨rfl, Or.inl rfl⟩ rfl rfl rfl rfl ?_
  show n_J C σ0 s0 450 [a0, some (rf 11 0), a2, a3, a4, a5, a6, a7, a8, a9, a10, some (.inl y11), some (.inl y12), a13, a14, a15, a16, a17] [.inl (((y11 / (Int32.ofInt 101)) - (y11 / (Int32.ofInt 101)) / (Int32.ofInt 101) * (Int32.ofInt 101)) - (Int32.ofInt 50)), .inl ((y11 - y11 / (Int32.ofInt 101) * (Int32.ofInt 101)) - (Int32.ofInt 50)), .inl y12, .inl (Int32.ofInt 10), rf 11 0] τ b n
  refine nj_p hJ ⟨rfl, Or.inl rfl⟩ rfl rfl rfl rfl ?_
  show n_J C σ0 s0 451 [a0, some (rf 11 0), a2, a3, a4, a5, a6, a7, a8, a9, a10, some (.inl y11), some (.inl y12), a13, a14, a15, a16, a17] [.inl (Int32.ofInt 0), .inl (((y11 / (Int32.ofInt 101)) - (y11 / (Int32.ofInt 101)) / (Int32.ofInt 101) * (Int32.ofInt 101)) - (Int32.ofInt 50)), .inl ((y11 - y11 / (Int32.ofInt 101) * (Int32.ofInt 101)) - (Int32.ofInt 50)), .inl y12, .inl (Int32.ofInt 10), rf 11 0] τ b n
  refine nj_p hJ ⟨rfl, Or.inl rfl⟩ rfl rfl rfl rfl ?_
  show n_J C σ0 s0 452 [a0, some (rf 11 0), a2, a3, a4, a5, a6, a7, a8, a9, a10, some (.inl y11), some (.inl y12), a13, a14, a15, a16, a17] [.inl (Int32.ofInt 0), .inl (Int32.ofInt 0), .inl (((y11 / (Int32.ofInt 101)) - (y11 / (Int32.ofInt 101)) / (Int32.ofInt 101) * (Int32.ofInt 101)) - (Int32.ofInt 50)), .inl ((y11 - y11 / (Int32.ofInt 101) * (Int32.ofInt 101)) - (Int32.ofInt 50)), .inl y12, .inl (Int32.ofInt 10), rf 11 0] τ b n
  refine nj_p hJ ⟨rfl, Or.inl rfl⟩ rfl rfl rfl rfl ?_
  show n_J C σ0 s0 453 [a0, some (rf 11 0), a2, a3, a4, a5, a6, a7, a8, a9, a10, some (.inl y11), some (.inl y12), a13, a14, a15, a16, a17] [.inl (Int32.ofInt 0), .inl (Int32.ofInt 0), .inl (Int32.ofInt 0), .inl (((y11 / (Int32.ofInt 101)) - (y11 / (Int32.ofInt 101)) / (Int32.ofInt 101) * (Int32.ofInt 101)) - (Int32.ofInt 50)), .inl ((y11 - y11 / (Int32.ofInt 101) * (Int32.ofInt 101)) - (Int32.ofInt 50)), .inl y12, .inl (Int32.ofInt 10), rf 11 0] τ b n
  refine nj_p hJ ⟨rfl, Or.inl rfl⟩ rfl rfl rfl rfl ?_
  show n_J C σ0 s0 454 [a0, some (rf 11 0), a2, a3, a4, a5, a6, a7, a8, a9, a10, some (.inl y11), some (.inl y12), a13, a14, a15, a16, a17] [.inl (Int32.ofInt 0), .inl (Int32.ofInt 0), .inl (Int32.ofInt 0), .inl (Int32.ofInt 0), .inl (((y11 / (Int32.ofInt 101)) - (y11 / (Int32.ofInt 101)) / (Int32.ofInt 101) * (Int32.ofInt 101)) - (Int32.ofInt 50)), .inl ((y11 - y11 / (Int32.ofInt 101) * (Int32.ofInt 101)) - (Int32.ofInt 50)), .inl y12, .inl (Int32.ofInt 10), rf 11 0] τ b n
  refine nj_s hJ (as := [.inl (Int32.ofInt 0), .inl (Int32.ofInt 0), .inl (Int32.ofInt 0), .inl (Int32.ofInt 0), .inl (((y11 / (Int32.ofInt 101)) - (y11 / (Int32.ofInt 101)) / (Int32.ofInt 101) * (Int32.ofInt 101)) - (Int32.ofInt 50)), .inl ((y11 - y11 / (Int32.ofInt 101) * (Int32.ofInt 101)) - (Int32.ofInt 50)), .inl y12, .inl (Int32.ofInt 10), rf 11 0]) (st := []) ⟨rfl, Or.inl rfl⟩ rfl (by decide) rfl rfl rfl ⟨by decide, ?_⟩ ⟨by omega, by omega⟩ ?_ n_CCm
  · show m_rm _ (b + 66) (n + 438)
    exact ⟨by omega, by omega⟩
  intro hI
  have hTs : ac_TrL v_c172b.2.1 [rf 11 0, .inl (Int32.ofInt 10), .inl y12, .inl ((y11 - y11 / (Int32.ofInt 101) * (Int32.ofInt 101)) - (Int32.ofInt 50)), .inl (((y11 / (Int32.ofInt 101)) - (y11 / (Int32.ofInt 101)) / (Int32.ofInt 101) * (Int32.ofInt 101)) - (Int32.ofInt 50)), .inl (Int32.ofInt 0), .inl (Int32.ofInt 0), .inl (Int32.ofInt 0), .inl (Int32.ofInt 0)] := And.intro ⟨rfl, rfl, rfl, by decide, by decide⟩ (And.intro ⟨rfl, by decide, by decide⟩ (And.intro T0_i (And.intro T0_i (And.intro T0_i (And.intro T0_i (And.intro T0_i (And.intro T0_i (And.intro T0_i trivial))))))))
  obtain ⟨x, σ', r, i, kk, fr, cnt, res⟩ := v_c172b_ok (σ0 := σ0) _ τ hTs hin.2.2.1 (by show τ.1 1 + 1 ≤ 512; omega) (fun x σ' => ac_KK ac_K0 σ' ∧ ac_fr v_c172b.2.2.1 τ σ' ∧ v_post (some 1) τ σ' ∧ ac_res v_c172b _ x σ') (fun x σ' a b c d => ⟨a, b, c, d⟩) hI
  refine ⟨x, σ', hF.1 _ _ _ _ _ (by decide) (by decide) r, i, fun v ev => ?_⟩
  subst ev
  obtain ⟨⟨T, t1, t2⟩, -⟩ := res
  cases t1
  cases v with
  | none => exact t2.elim
  | some v =>
  rcases v with w | w | w
  · cases t2.1
  rotate_left
  · rcases w with _ | w
    · cases t2.1
    · cases t2.1
  have cnt : σ'.1 1 ≤ τ.1 1 + 1 := cnt
  obtain ⟨nn, N, cc, k, hS, hl, -, b1, b2, b3⟩ := hP
  have p := x172 ⟨hS.1.1, hl.gh⟩ r
  show n_J C σ0 s0 457 [a0, some (rf 11 0), a2, a3, a4, a5, a6, a7, a8, a9, a10, some (.inl y11), some (.inl y12), a13, a14, a15, a16, a17] [.inr (.inl w)] σ' (b + 66) (n + 438)
  refine nj_p hJ ⟨rfl, Or.inl rfl⟩ rfl rfl rfl rfl ?_
  show n_J C σ0 s0 459 [a0, some (rf 11 0), a2, a3, a4, a5, a6, a7, a8, a9, a10, some (.inl y11), some (.inl y12), some (.inr (.inl w)), none, a15, a16, a17] [] σ' (b + 66) (n + 438)
  have wr : w.toInt ≤ 9223372036854775807 ∧ -9223372036854775808 ≤ w.toInt := ⟨(ab_r64 w).2, (ab_r64 w).1⟩
  rcases n_scen hS hl (by omega) (by decide) p with hw | ⟨hw, g, yg, g4, eg, eyg⟩
  · refine n_c459 hF hm h _ σ' (b + 66) (n + 438) y ⟨rfl, fun q hq => ?_, kk, ac_fr.rf⟩ hy hym (by omega) (by omega) (by omega)
    have hs : ∀ q ∈ n_T459.2, q ∈ ((13, (1, 0, (-9223372036854775808), 0, 0, 0)) : Nat × ab_T) :: n_T426.2.filter (fun q => Nat.ble (q.1 + 1) 13) := by decide
    rcases List.mem_cons.mp (hs q hq) with rfl | hq
    · exact ⟨_, rfl, rfl, wr.2, hw⟩
    · obtain ⟨hs1, hs2⟩ := List.mem_filter.mp hq
      obtain ⟨x, x1, x2⟩ := hin'.2.1 q hs1
      exact ⟨x, (n_ld13 (Nat.le_of_ble_eq_true hs2)).trans x1, x2⟩
  · have kg := List.all_eq_true.mp n_k4590 g (List.mem_range.mpr g4)
    refine n_seg n_rule n_CCm n_gd_ok n_hG (n_SP_ok hF) kg rfl hJ (T := n_T4590) (y := y) (σ := σ') ⟨rfl, fun q hq => ?_, kk, ac_fr.rf⟩ hy (by omega) (n_Oc eg eyg) (by omega) (by omega) (fun p hp Lc' σ2 b' n' y' hin2 hy2 ey hc2 hb2 hn2 => ?_)
    · have hs : ∀ q ∈ n_T4590.2, q ∈ ((13, (1, 0, 1, 9223372036854775807, 0, 0)) : Nat × ab_T) :: n_T426.2.filter (fun q => Nat.ble (q.1 + 1) 13) := by decide
      rcases List.mem_cons.mp (hs q hq) with rfl | hq
      · exact ⟨_, rfl, rfl, hw, wr.1⟩
      · obtain ⟨hs1, hs2⟩ := List.mem_filter.mp hq
        obtain ⟨x, x1, x2⟩ := hin'.2.1 q hs1
        exact ⟨x, (n_ld13 (Nat.le_of_ble_eq_true hs2)).trans x1, x2⟩
    · have ep := List.mem_singleton.mp hp
      subst ep
      exact n_c925 hF hm h Lc' σ2 b' n' y' ⟨hin2.1, hin2.2.1, hin2.2.2.1, ac_fr.rf⟩ hy2 (by have ey : y'.toInt = y.toInt + 0 := ey; omega) (by have hc2 : σ2.1 1 ≤ σ'.1 1 + 0 := hc2; omega) (by omega) (by omega)
end NT
