/-! the law's loop -/
theorem hy_fo {σ τ : mS} (h : hy (fun _ => 0) σ) (hl : ∀ c i, 13 ≤ c → fo c i → τ.2.1 c i = σ.2.1 c i) (hf : ∀ c i k, fo c i → ¬ (c = 11 ∧ k = 2) → m_get τ c i k = m_get σ c i k) : hy (fun _ => 0) τ := by
  have lo : ∀ {c i}, i < sm_off c → fo c i := fun h => Or.inl h
  have f : ∀ {c i k v}, m_get σ c i k = v → i < sm_off c → c ≠ 11 → m_get τ c i k = v := fun e hi hc => (hf _ _ _ (lo hi) (fun z => hc z.1)).trans e
  have g : ∀ {c i n}, σ.2.1 c i = n → 13 ≤ c → i < sm_off c → τ.2.1 c i = n := fun e hc hi => (hl _ _ hc (lo hi)).trans e
  obtain ⟨⟨a1, a2⟩, a3, a4, ⟨a5, a6⟩, a7, ⟨b0, b1, b2, b3, b4⟩, b5, b6, b7, b8, b9, ⟨l1, l2, l3, l4, l5, l6⟩⟩ := h
  refine ⟨⟨f a1 (by decide) (by decide), fun k hk => f (a2 k hk) (by decide) (by decide)⟩, g a3 (by decide) (by decide), fun k hk => ⟨f (a4 k hk).1 (by decide) (by decide), f (a4 k hk).2 (by show 0 + k < 120; omega) (by decide)⟩, ⟨f a5 (by decide) (by decide), f a6 (by decide) (by decide)⟩, fun k hk => f (a7 k hk) (by decide) (by decide), ⟨f b0 (by decide) (by decide), f b1 (by decide) (by decide), f b2 (by decide) (by decide), f b3 (by decide) (by decide), f b4 (by decide) (by decide)⟩, fun m hm => ⟨f (b5 m hm).1 (by show 0 + m < 6; omega) (by decide), f (b5 m hm).2.1 (by show 0 + m < 6; omega) (by decide), fun k hk => f ((b5 m hm).2.2 k hk) (by show 0 + m < 6; omega) (by decide)⟩, fun k hk => f (b6 k hk) (by decide) (by decide), fun k hk => ⟨f (b7 k hk).1 (by decide) (by decide), f (b7 k hk).2.1 (by show 0 + k < 3; omega) (by decide), fun j hj => f ((b7 k hk).2.2 j hj) (by show 0 + k < 3; omega) (by decide)⟩, fun k hk => f (b8 k hk) (by decide) (by decide), fun k hk => f (b9 k hk) (by decide) (by decide), ⟨g l1 (by decide) (by decide), g l2 (by decide) (by decide), g l3 (by decide) (by decide), g l4 (by decide) (by decide), fun k hk => g (l5 k hk) (by decide) (by show 0 + k < 42; omega), fun m hm => g (l6 m hm) (by decide) (by show 0 + m < 23; omega)⟩⟩
/-- the replay answers yes, and what is held stays -/
theorem iv_replay {σ0 σ : mS} (hx0 : hx (fun _ => 0) σ0) (h10 : σ0.1 1 = 0) (hK : ac_KK ac_K0 σ) (hI : iv σ0 σ) : ∃ σ', ev_run sm_all 157 [rf 11 0] σ (.inl (some (.inl 1))) σ' ∧ iv σ0 σ' ∧ ac_KK ac_K0 σ' ∧ σ'.1 1 = σ.1 1 ∧ (∀ c i, 13 ≤ c → fo c i → σ'.2.1 c i = σ.2.1 c i) ∧ ∀ c i k, fo c i → ¬ (c = 11 ∧ k = 2) → m_get σ' c i k = m_get σ c i k := by
  obtain ⟨⟨m, m1, m2⟩, t, Y⟩ := hI
  obtain ⟨σ', r, k1, k2, k3, k4, k5⟩ := rp_run hx0 h10 hK m2
  exact ⟨σ', r, ⟨⟨m, by rw [k3]; exact m1, k1⟩, fun p hp => (k5 8 p 7 (Or.inl (by show p < 3; exact hp)) (fun z => by cases z.1)).trans (t p hp), hy_fo Y k4 k5⟩, k2, k3, k4, k5⟩
def ac_Qt : mX → mS → Prop := fun x _ => x = .inl (some (.inl 1))
theorem ac_OTb : ac_OT.all (fun o => Nat.beq o.2.1.1 0 && (ab_le 0 o.2.1.2 && foB o.1 o.2.1.2.toNat)) = true := by decide +kernel
theorem ac_OTc : ac_OT.all (fun o => !(Nat.beq o.1 11)) = true := by decide +kernel
theorem ac_OT_fo {σ σ' : mS} {ν : ab_N} (h : ∀ o ∈ ac_OT, ac_ov 14 ν σ o) (h0 : ν 0 = 0) (fr : ∀ c i k, fo c i → ¬ (c = 11 ∧ k = 2) → m_get σ' c i k = m_get σ c i k) : ∀ o ∈ ac_OT, ac_ov 14 ν σ' o := by
  intro o ho
  obtain ⟨q1, q2, q3⟩ := h o ho
  refine ⟨q1, q2, fun i k hi hk => ?_⟩
  have hb := List.all_eq_true.mp ac_OTb o ho
  rw [Bool.and_eq_true, Bool.and_eq_true] at hb
  obtain ⟨b1, b2, b3⟩ := hb
  have e1 := Nat.eq_of_beq_eq_true b1
  rw [ab_le_ok] at b2
  have hi' : (i : Int) = o.2.1.2 := by
    have hi : (i : Int) = ν o.2.1.1 + o.2.1.2 := hi
    rw [e1, h0] at hi
    omega
  rw [fr o.1 i k (foB_ok b3 (by omega)) (fun z => by
    have := List.all_eq_true.mp ac_OTc o ho
    rw [z.1] at this
    cases this)]
  exact q3 i k hi hk
theorem ac_Iv.mono {c m n c' m' n' : Int} {ν : ab_N} (h : ac_Iv c m n ν) (h1 : c ≤ c') (h2 : m ≤ m') (h3 : n ≤ n') : ac_Iv c' m' n' ν := by
  obtain ⟨⟨i0, i1, i2, i3, i4⟩, ⟨i5, i6, i7, i8, i9, i10⟩, r⟩ := h
  exact ⟨⟨i0, i1, by omega, i3, by omega⟩, ⟨i5, by omega, i7, by omega, i9, i10⟩, r⟩
theorem ac_bd {c m n im cm mm nm : Int} {ν : ab_N} (hI : ac_Iv c m n ν) (h1 : 0 ≤ ν 1 ∧ ν 1 ≤ 4096) (h2 : 0 ≤ ν 2 ∧ ν 2 ≤ im) (hc : c ≤ cm) (hm : m ≤ mm) (hn : n ≤ nm) : ∀ j q, ([(0, 0), (0, 4096), (0, im), (0, cm), (0, mm), (0, nm), (0, nm), (0, 4), (0, 3), (0, 3), (0, 3), (1, 125), (1, 125), (1, 125)] : ab_Bx)[j]? = some q → q.1 ≤ ν j ∧ ν j ≤ q.2 := by
  obtain ⟨⟨i0, i1, i2, i3, i4⟩, ⟨i5, i6, i7, i8, i9, i10⟩, ⟨a1, a2, a3, a4⟩, ⟨b1, b2, b3, b4⟩, ⟨c1, c2, c3, c4⟩⟩ := hI
  have p1 := ac_p5_le (ν 8)
  have p2 := ac_p5_le (ν 9)
  have p3 := ac_p5_le (ν 10)
  intro j q hq
  match j, hq with
  | 0, hq => cases hq; exact ⟨by dsimp only; omega, by dsimp only; omega⟩
  | 1, hq => cases hq; exact h1
  | 2, hq => cases hq; exact h2
  | 3, hq => cases hq; exact ⟨i1, by dsimp only; omega⟩
  | 4, hq => cases hq; exact ⟨i3, by dsimp only; omega⟩
  | 5, hq => cases hq; exact ⟨i5, by dsimp only; omega⟩
  | 6, hq => cases hq; exact ⟨i7, by dsimp only; omega⟩
  | 7, hq => cases hq; exact ⟨i9, i10⟩
  | 8, hq => cases hq; exact ⟨a1, a2⟩
  | 9, hq => cases hq; exact ⟨b1, b2⟩
  | 10, hq => cases hq; exact ⟨c1, c2⟩
  | 11, hq => cases hq; exact ⟨a3, by dsimp only; omega⟩
  | 12, hq => cases hq; exact ⟨b3, by dsimp only; omega⟩
  | 13, hq => cases hq; exact ⟨c3, by dsimp only; omega⟩
  | j + 14, hq => cases hq
theorem ac_cxF {xs : ab_X} {B : ab_Bx} {ν : ab_N} (h0 : ν 0 = 0) (hn : 2 < B.length) (h : ∀ j q, B[j]? = some q → q.1 ≤ ν j ∧ ν j ≤ q.2) (hf : ν 2 ≤ ν 1 + -8) : ab_cx xs (B, [(2, 1, -8)], []) ν := ⟨⟨h0, h⟩, by show 0 < B.length; omega, fun q hq => by
    have e := List.mem_singleton.mp hq
    subst e
    exact ⟨hn, by show 1 < B.length; omega, hf⟩, fun q hq => (by cases hq)⟩
/-- what is held in a turn, t turns behind -/
def ac_At (σ9 : mS) (L t : Nat) (ν : ab_N) (Lc : List (Option mV)) (σ : mS) : Prop := (ν 1 = (L : Int) ∧ ν 2 = 8 * (t : Int)) ∧ ac_Iv (t : Int) (60000 * (t : Int)) (60001 * (t : Int)) ν ∧ ab_Ls 14 ν ac_LT Lc ∧ ac_hp ac_kT σ 14 ν ac_HT σ ∧ iv σ9 σ
def ac_Rm (t k n : Nat) : Prop := k ≤ 414 + 694 * t ∧ n ≤ 251731 + 8062 * t
theorem ac_end0 {xs : ab_X} {C : ab_C} {ν : ab_N} {σ0 : mS} {J : Nat → List (Option mV) → List mV → mS → Nat → Nat → Prop} (e : ac_Q) (hz : ac_ok0 (.inl e) = true) : ac_zo ac_kT σ0 xs C ν J ac_Qt (.inl e) := by
  obtain ⟨C', o, H'⟩ := e
  unfold ac_ok0 at hz
  dsimp only at hz
  intro ν' x σ' u hx hp
  dsimp only at u hx
  split at hz
  · rename_i v
    have e1 := ab_eE_ok hz
    subst e1
    cases x with
    | inr y => exact hx.elim
    | inl y =>
      cases y with
      | none => exact hx.elim
      | some w =>
        have hx : ab_Vr C'.1.length ν' (.inl (0, 1)) w := hx
        obtain ⟨y, rfl, g⟩ := ab_Vi hx
        have g2 : y.toInt = ν' 0 + 1 := g.2
        rw [u.1.1.1] at g2
        have g3 : y = 1 := Int32.toInt_inj.mp (by rw [g2]; decide)
        rw [g3]
        rfl
  · cases hz
theorem ac_tgt0 {xs : ab_X} {ν ν' : ab_N} {σ0 σ : mS} {S : ac_S} {Lc : List (Option mV)} {sc : List mV} (hz : ac_ok0 (.inr S) = true) (u : ab_up xs ac_CH ν S.1 ν') (hL : ab_Ls S.1.1.length ν' S.2.2.1 Lc) (hs : ab_Vs S.1.1.length ν' S.2.2.2.1 sc) (hp : ac_hp ac_kT σ0 S.1.1.length ν' S.2.2.2.2.1 σ) :
    S.2.1 ∈ ac_tgs ∧ sc = [] ∧ S.2.2.2.2.2.1 = 0 ∧ S.2.2.2.2.2.2 = 0 ∧ (ν' 1 = ν 1 ∧ ν' 2 = ν 2) ∧ (∀ c m n, ac_Iv c m n ν → ac_Iv c m n ν') ∧ ab_Ls 14 ν' ac_LT Lc ∧ ac_hp ac_kT σ 14 ν' ac_HT σ ∧ (ν' 2 + 8 ≤ ν' 1 ∧ ν' 2 ≤ 4088) := by
  have hz : (ac_tgs.any (Nat.beq S.2.1) && (match ac_esT S (2, 0) with
    | none => false
    | some es => ac_can S es ac_TT0 && (ac_idB es && (ab_leq S.1 (2, 8) (1, 0) && (ab_le (ab_iv S.1.1 (2, 0)).2 4088 && (Nat.beq S.2.2.2.2.2.1 0 && Nat.beq S.2.2.2.2.2.2 0)))))) = true := hz
  rw [Bool.and_eq_true] at hz
  obtain ⟨z1, z2⟩ := hz
  obtain ⟨p, p1, p2⟩ := List.any_eq_true.mp z1
  cases he : ac_esT S (2, 0) with
  | none => rw [he] at z2; cases z2
  | some es =>
    rw [he] at z2
    simp only [Bool.and_eq_true, ab_le_ok] at z2
    obtain ⟨z2, z3, z4, z5, z6, z7⟩ := z2
    obtain ⟨b1, b2, b3, b4, -⟩ := ac_can_ok u.1 hL hs hp z2
    obtain ⟨hlen, -⟩ := ac_esT_len he
    rw [hlen] at b2 b3
    have hN : 14 ≤ S.1.1.length := u.2.2
    have hid : ab_ex 14 (ac_nu es ν') ν' := fun j hj => by
      have g := ab_eE_ok (List.all_eq_true.mp z3 j (List.mem_range.mpr hj))
      rw [ac_nu_ge (by omega), g]
      exact (Int.add_zero _).symm
    have hu : ab_ex 14 ν ν' := fun j hj => u.2.1 j hj
    refine ⟨by rw [Nat.eq_of_beq_eq_true p2]; exact p1, b1, Nat.eq_of_beq_eq_true z6, Nat.eq_of_beq_eq_true z7, ⟨hu 1 (by decide), hu 2 (by decide)⟩, fun c m n h => h.ex hu, b2.ex hid (Nat.le_refl _), ?_, ?_, ?_⟩
    · exact ac_reb (b3.ex hid (Nat.le_refl _)) ac_WT
    · have := ab_leq_ok u.1 (e := (2, 8)) (f := (1, 0)) (x := ν' 2 + 8) (y := ν' 1 + 0) ⟨by show 2 < _; omega, rfl⟩ ⟨by show 1 < _; omega, rfl⟩ z4
      omega
    · have := ab_iv_ok u.1.1 (e := (2, 0)) (x := ν' 2 + 0) ⟨by show 2 < _; omega, rfl⟩
      omega
section ACM
variable {xs : ab_X} {l : Launch} {σ9 : mS} {J : Nat → List (Option mV) → List mV → mS → Nat → Nat → Prop} {L t : Nat} {fc : Nat → Int32}
/-- the next turn's head -/
def ac_Hd (σ9 : mS) (J : Nat → List (Option mV) → List mV → mS → Nat → Nat → Prop) (L t : Nat) : Prop := ∀ ν Lc σ k n, ac_At σ9 L t ν Lc σ → ac_Rm t k n → J 23 Lc [] σ k n
theorem ac_xlT {C : ab_C} {ν : ab_N} (h1 : 1 < C.1.length) (hL : L ≤ 4096) (h : ν 1 = (L : Int)) : ab_xl true (some (L, fc)) C ν := fun _ => ⟨(L, fc), rfl, by dsimp only; omega, h1, by show (L : Int) = ν 1 + 0; omega⟩
theorem ac_clT (hJ : ab_cl l ac_main0 xs ac_Qt J) {k n : Nat} (hk : k ≤ 414 + 694 * 512) (hn : n ≤ 251731 + 8062 * 512) : ev_cl lw_G (lw_CC l σ9) 999 ac_mainT xs ac_Qt (lw_J σ9 (fun pc L st σ a b => J pc L st σ (k + a) (n + b))) :=
  lw_cl (fun _ _ _ h => h) (ac_clS (z := ac_main0) rfl hJ (by show k + 347 ≤ 608340; omega) (by show n + 4031 ≤ 7271085; omega))
/-- from the middle of a turn to its end -/
theorem ac_toB (hl : l.stackTraces = false) (hL : L ≤ 4096) (hJ : ab_cl l ac_main0 (some (L, fc)) ac_Qt J) {C : ab_C} {p : Nat} (hs : ac_seg C p 23 (2, 8) 0 60000 = true) (hN : 14 ≤ C.1.length) (IH : ac_Hd σ9 J L (t + 1)) {ν ν0 : ab_N} {Lc : List (Option mV)} {σ : mS} {k n : Nat} (h : ab_cx (some (L, fc)) C ν) (hx : ab_ex 14 ν0 ν) (ht : t ≤ 511)
    (h1 : ν0 1 = (L : Int)) (h2 : ν0 2 = 8 * (t : Int)) (hI : ac_Iv ((t : Int) + 1) (60000 * (t : Int)) (60001 * (t : Int) + 1) ν0) (hLs : ab_Ls 14 ν0 ac_LT Lc) (hp : ac_hp ac_kT σ 14 ν0 ac_HT σ) (hM : iv σ9 σ) (hk : k ≤ 414 + 694 * t + 347) (hn : n ≤ 251731 + 8062 * t + 4031) : J p Lc [] σ k n := by
  have e1 : ν 1 = (L : Int) := (hx 1 (by decide)).trans h1
  have e2 : ν 2 = 8 * (t : Int) := (hx 2 (by decide)).trans h2
  have key := ac_segL (J := lw_J σ9 (fun pc L st σ a b => J pc L st σ (k + a) (n + b))) hl hs hN (by decide) (ac_clT hJ (by omega) (by omega)) (ac_xlT (by omega) hL e1) h (hLs.ex hx hN) (hp.ex hx hN) (hI.ex hx) (by omega) (fun ν2 Lc' σ' k' n' q1 q2 q3 q4 q5 q6 q7 q8 hI9 => by
    refine IH ν2 Lc' σ' (k + k') (n + n') ⟨⟨q2.trans e1, ?_⟩, ?_, q4, q5, hI9⟩ ⟨by omega, by omega⟩
    · have q3 : ν2 2 = ν 2 + 8 := q3
      have : ((t + 1 : Nat) : Int) = (t : Int) + 1 := rfl
      rw [this]; omega
    · have : ((t + 1 : Nat) : Int) = (t : Int) + 1 := rfl
      rw [this]
      exact q1.mono (by omega) (by omega) (by omega))
  exact key hM
theorem ac_turnB (hl : l.stackTraces = false) (hL : L ≤ 4096) (hJ : ab_cl l ac_main0 (some (L, fc)) ac_Qt J) {p : Nat} (hs : ac_seg ac_CB p 23 (2, 8) 0 60000 = true) (IH : ac_Hd σ9 J L (t + 1)) {ν : ab_N} {Lc : List (Option mV)} {σ : mS} {k n : Nat} (ht : t ≤ 511) (hi : ν 2 + 8 ≤ ν 1)
    (h1 : ν 1 = (L : Int)) (h2 : ν 2 = 8 * (t : Int)) (hI : ac_Iv ((t : Int) + 1) (60000 * (t : Int)) (60001 * (t : Int) + 1) ν) (hLs : ab_Ls 14 ν ac_LT Lc) (hp : ac_hp ac_kT σ 14 ν ac_HT σ) (hM : iv σ9 σ) (hk : k ≤ 414 + 694 * t + 347) (hn : n ≤ 251731 + 8062 * t + 4031) : J p Lc [] σ k n :=
  ac_toB (C := ac_CB) hl hL hJ hs (by decide) IH (ac_cxF (B := ac_BB) hI.1.1 (by decide) (ac_bd (im := 4088) (cm := 512) (mm := 30660000) (nm := 30720511) hI (by omega) (by omega) (by omega) (by omega) (by omega)) (by omega)) (fun _ _ => rfl) ht h1 h2 hI hLs hp hM hk hn
/-- the class's half of a turn -/
theorem ac_toA (hl : l.stackTraces = false) (hL : L ≤ 4096) (hJ : ab_cl l ac_main0 (some (L, fc)) ac_Qt J) {p q : Nat} {ie : ab_E} {dm : Int} (hie : ie.1 < 14) (hs : ac_seg ac_CA p q ie 1 dm = true) {ν : ab_N} {Lc : List (Option mV)} {σ : mS} {k n : Nat} (ht : t ≤ 511) (hA : ac_At σ9 L t ν Lc σ) (hR : ac_Rm t k n) (hi : ν 2 + 8 ≤ ν 1)
    (cont : ∀ ν2 Lc' σ' k' n', ν2 1 = (L : Int) → ν2 2 = ν ie.1 + ie.2 → ac_Iv ((t : Int) + 1) (60000 * (t : Int) + dm) (60001 * (t : Int) + 1) ν2 → ab_Ls 14 ν2 ac_LT Lc' → ac_hp ac_kT σ' 14 ν2 ac_HT σ' → iv σ9 σ' → k' ≤ 414 + 694 * t + 347 → n' ≤ 251731 + 8062 * t + 4031 → J q Lc' [] σ' k' n') : J p Lc [] σ k n := by
  obtain ⟨⟨h1, h2⟩, hI, hLs, hp, hM⟩ := hA
  obtain ⟨hk, hn⟩ := hR
  have hcx : ab_cx (some (L, fc)) ac_CA ν := ac_cxF (B := ac_BA) hI.1.1 (by decide) (ac_bd (im := 4088) (cm := 511) (mm := 30660000) (nm := 30720511) hI (by omega) (by omega) (by omega) (by omega) (by omega)) (by omega)
  exact ac_segL (C := ac_CA) (J := lw_J σ9 (fun pc L st σ a b => J pc L st σ (k + a) (n + b))) hl hs (by decide) hie (ac_clT hJ (by omega) (by omega)) (ac_xlT (by decide) hL h1) hcx hLs hp hI (by omega) (fun ν2 Lc' σ' k' n' q1 q2 q3 q4 q5 q6 q7 q8 hI9 => cont ν2 Lc' σ' (k + k') (n + n') (q2.trans h1) q3 q1 q4 q5 hI9 (by omega) (by omega)) hM
/-- a turn that is gone through at once -/
theorem ac_turnW (hl : l.stackTraces = false) (hL : L ≤ 4096) (hJ : ab_cl l ac_main0 (some (L, fc)) ac_Qt J) {p : Nat} (hs : ac_seg ac_CA p 23 (2, 8) 1 60000 = true) (IH : ac_Hd σ9 J L (t + 1)) {ν : ab_N} {Lc : List (Option mV)} {σ : mS} {k n : Nat} (ht : t ≤ 511) (hA : ac_At σ9 L t ν Lc σ) (hk : k ≤ 414 + 694 * t + 347) (hn : n ≤ 251731 + 8062 * t + 4031) (hi : ν 2 + 8 ≤ ν 1) : J p Lc [] σ k n := by
  obtain ⟨⟨h1, h2⟩, hI, hLs, hp, hM⟩ := hA
  have hcx : ab_cx (some (L, fc)) ac_CA ν := ac_cxF (B := ac_BA) hI.1.1 (by decide) (ac_bd (im := 4088) (cm := 511) (mm := 30660000) (nm := 30720511) hI (by omega) (by omega) (by omega) (by omega) (by omega)) (by omega)
  have e9 : ((t + 1 : Nat) : Int) = (t : Int) + 1 := rfl
  exact ac_segL (C := ac_CA) (J := lw_J σ9 (fun pc L st σ a b => J pc L st σ (k + a) (n + b))) hl hs (by decide) (by decide) (ac_clT hJ (by omega) (by omega)) (ac_xlT (by decide) hL h1) hcx hLs hp hI (by omega) (fun ν2 Lc' σ' k' n' q1 q2 q3 q4 q5 q6 q7 q8 hI9 => IH ν2 Lc' σ' (k + k') (n + n') ⟨⟨q2.trans h1, by have q3 : ν2 2 = ν 2 + 8 := q3; rw [e9]; omega⟩, by rw [e9]; exact q1.mono (by omega) (by omega) (by omega), q4, q5, hI9⟩ ⟨by omega, by omega⟩) hM
/-- a turn that is gone through at once, from something on the stack -/
theorem ac_turnWs {ν : ab_N} (hl : l.stackTraces = false) (hL : L ≤ 4096) (hJ : ab_cl l ac_main0 (some (L, fc)) ac_Qt J) {p : Nat} {vs : List ab_V} {sv : List mV} (hs : ac_segs ac_CA p vs 23 (2, 8) 1 60000 = true) (hv : ab_Vs 14 ν vs sv) (IH : ac_Hd σ9 J L (t + 1)) {Lc : List (Option mV)} {σ : mS} {k n : Nat} (ht : t ≤ 511) (hA : ac_At σ9 L t ν Lc σ) (hk : k ≤ 414 + 694 * t + 347) (hn : n ≤ 251731 + 8062 * t + 4031) (hi : ν 2 + 8 ≤ ν 1) : J p Lc sv σ k n := by
  obtain ⟨⟨h1, h2⟩, hI, hLs, hp, hM⟩ := hA
  have hcx : ab_cx (some (L, fc)) ac_CA ν := ac_cxF (B := ac_BA) hI.1.1 (by decide) (ac_bd (im := 4088) (cm := 511) (mm := 30660000) (nm := 30720511) hI (by omega) (by omega) (by omega) (by omega) (by omega)) (by omega)
  have e9 : ((t + 1 : Nat) : Int) = (t : Int) + 1 := rfl
  exact ac_segsL (C := ac_CA) (J := lw_J σ9 (fun pc L st σ a b => J pc L st σ (k + a) (n + b))) hl hs hv (by decide) (by decide) (ac_clT hJ (by omega) (by omega)) (ac_xlT (by decide) hL h1) hcx hLs hp hI (by omega) (fun ν2 Lc' σ' k' n' q1 q2 q3 q4 q5 q6 q7 q8 hI9 => IH ν2 Lc' σ' (k + k') (n + n') ⟨⟨q2.trans h1, by have q3 : ν2 2 = ν 2 + 8 := q3; rw [e9]; omega⟩, by rw [e9]; exact q1.mono (by omega) (by omega) (by omega), q4, q5, hI9⟩ ⟨by omega, by omega⟩) hM
theorem ac_turnAB (hl : l.stackTraces = false) (hL : L ≤ 4096) (hJ : ab_cl l ac_main0 (some (L, fc)) ac_Qt J) {q : Nat × Nat} (hq : q ∈ ac_AB) (IH : ac_Hd σ9 J L (t + 1)) {ν : ab_N} {Lc : List (Option mV)} {σ : mS} {k n : Nat} (ht : t ≤ 511) (hA : ac_At σ9 L t ν Lc σ) (hR : ac_Rm t k n) (hi : ν 2 + 8 ≤ ν 1) : J q.1 Lc [] σ k n := by
  have hs : ac_seg ac_CA q.1 q.2 (2, 0) 1 0 = true := List.all_eq_true.mp ac_sA q hq
  have hs2 : ac_seg ac_CB q.2 23 (2, 8) 0 60000 = true := List.all_eq_true.mp ac_sB q hq
  have h1 := hA.1.1
  have h2 := hA.1.2
  refine ac_toA hl hL hJ (by decide) hs ht hA hR hi (fun ν2 Lc' σ' k' n' q1 q2 q3 q4 q5 q6 q7 q8 => ?_)
  have q2 : ν2 2 = ν 2 + 0 := q2
  exact ac_turnB hl hL hJ hs2 IH ht (by omega) q1 (by omega) (q3.mono (by omega) (by omega) (by omega)) q4 q5 q6 q7 q8
/-- the turn of a split: by the instrument and by how often that was split -/
theorem ac_turnS (hl : l.stackTraces = false) (hL : L ≤ 4096) (hJ : ab_cl l ac_main0 (some (L, fc)) ac_Qt J) (IH : ac_Hd σ9 J L (t + 1)) {ν : ab_N} {Lc : List (Option mV)} {σ : mS} {k n : Nat} (ht : t ≤ 511) (hA : ac_At σ9 L t ν Lc σ) (hR : ac_Rm t k n) (hi : ν 2 + 8 ≤ ν 1) : J 848 Lc [] σ k n := by
  have hs : ac_seg ac_CA 848 867 (2, 0) 1 0 = true := ac_sAs
  have h1 := hA.1.1
  have h2 := hA.1.2
  refine ac_toA hl hL hJ (by decide) hs ht hA hR hi (fun ν2 Lc' σ' k' n' q1 q2 q3 q4 q5 q6 q7 q8 => ?_)
  have q2 : ν2 2 = ν 2 + 0 := q2
  have i2 : ν2 2 + 8 ≤ ν2 1 := by omega
  have e2 : ν2 2 = 8 * (t : Int) := by omega
  have q3 := q3.mono (c' := (t : Int) + 1) (m' := 60000 * (t : Int)) (n' := 60001 * (t : Int) + 1) (by omega) (by omega) (by omega)
  have hcx : ab_cx (some (L, fc)) ac_CB ν2 := ac_cxF (B := ac_BB) q3.1.1 (by decide) (ac_bd (im := 4088) (cm := 512) (mm := 30660000) (nm := 30720511) q3 (by omega) (by omega) (by omega) (by omega) (by omega)) (by omega)
  have cell : ∀ {B : ab_Bx}, ab_cx (some (L, fc)) (B, [(2, 1, -8)], []) ν2 → B.length = 14 → ∀ {lo hi : Int}, lo ≤ (fc (8 * t + 1)).toInt → (fc (8 * t + 1)).toInt ≤ hi → ab_cx (some (L, fc)) (B ++ [(lo, hi)], [(2, 1, -8)], [((2, 1), (14, 0))]) (ab_put ν2 14 (fc (8 * t + 1)).toInt) ∧ ab_ex 14 ν2 (ab_put ν2 14 (fc (8 * t + 1)).toInt) := by
    intro B hB hlen lo hi hlo hhi
    have u := hB.add hlo hhi
    rw [hlen] at u
    refine ⟨⟨u.1.1, u.1.2.1, u.1.2.2.1, fun q hq => ?_⟩, ab_put_ex _ _ _⟩
    have e := List.mem_singleton.mp hq
    subst e
    have e14 : (B ++ [(lo, hi)]).length = 15 := by rw [List.length_append, hlen]; rfl
    refine ⟨by show 2 < (B ++ [(lo, hi)]).length; omega, by show 14 < (B ++ [(lo, hi)]).length; omega, (L, fc), rfl, fun j hj => ?_⟩
    have hj : (j : Int) = ab_put ν2 14 (fc (8 * t + 1)).toInt 2 + 1 := hj
    have p2 : ab_put ν2 14 (fc (8 * t + 1)).toInt 2 = ν2 2 := ab_put_ex _ _ _ 2 (by decide)
    have p14 : ab_put ν2 14 (fc (8 * t + 1)).toInt 14 = (fc (8 * t + 1)).toInt := if_pos rfl
    have ej : j = 8 * t + 1 := by omega
    subst ej
    show (fc (8 * t + 1)).toInt = ab_put ν2 14 (fc (8 * t + 1)).toInt 14 + 0
    rw [p14]; omega
  have go : ∀ {C : ab_C}, ac_segS C = true → 14 ≤ C.1.length → ab_cx (some (L, fc)) C (ab_put ν2 14 (fc (8 * t + 1)).toInt) → J 867 Lc' [] σ' k' n' := fun hS hN hC =>
    ac_toB hl hL hJ hS hN IH hC (ab_put_ex _ _ _) ht q1 e2 q3 q4 q5 q6 q7 q8
  have r32 := ab_r32 (fc (8 * t + 1))
  have s0 := ac_sS0
  rw [Bool.and_eq_true] at s0
  by_cases c1 : (fc (8 * t + 1)).toInt < 0
  · exact go s0.1 (by decide) (cell (B := ac_BB) hcx rfl (lo := -2147483648) (hi := -1) (by omega) (by omega)).1
  by_cases c2 : 2 < (fc (8 * t + 1)).toInt
  · exact go s0.2 (by decide) (cell (B := ac_BB) hcx rfl (lo := 3) (hi := 2147483647) (by omega) (by omega)).1
  have one : ∀ (kk : Nat), kk < 3 → (fc (8 * t + 1)).toInt = (kk : Int) → ac_Rel (ν2 (8 + kk)) (ν2 (11 + kk)) → (List.range 4).all (fun v => ac_segS (ac_spB ((kk : Int), (kk : Int)) kk (v : Int))) = true → J 867 Lc' [] σ' k' n' := by
    intro kk hkk hw hr hall
    obtain ⟨r1, r2, r3, r4⟩ := hr
    have hv : ((ν2 (8 + kk)).toNat : Int) = ν2 (8 + kk) := Int.toNat_of_nonneg r1
    have hS := List.all_eq_true.mp hall (ν2 (8 + kk)).toNat (List.mem_range.mpr (by omega))
    rw [hv] at hS
    have b1 := ab_set_ok (j := 8 + kk) (q := (ν2 (8 + kk), ν2 (8 + kk))) hcx.1 ⟨Int.le_refl _, Int.le_refl _⟩
    have b2 := ab_set_ok (j := 11 + kk) (q := (1, ac_p5 (ν2 (8 + kk)))) b1 ⟨r3, r4⟩
    have hlen : ((ac_BB.set (8 + kk) (ν2 (8 + kk), ν2 (8 + kk))).set (11 + kk) (1, ac_p5 (ν2 (8 + kk)))).length = 14 := by rw [List.length_set, List.length_set]; rfl
    have hB := (ab_cx_B hcx ⟨b2, hlen⟩).1
    exact go hS (by show 14 ≤ (((ac_BB.set (8 + kk) (ν2 (8 + kk), ν2 (8 + kk))).set (11 + kk) (1, ac_p5 (ν2 (8 + kk)))) ++ [((kk : Int), (kk : Int))]).length; rw [List.length_append, hlen]; exact Nat.le_add_right 14 _) (cell hB hlen (lo := (kk : Int)) (hi := (kk : Int)) (by omega) (by omega)).1
  obtain ⟨r1, r2, r3⟩ := q3.2.2
  have c3 : (fc (8 * t + 1)).toInt = 0 ∨ (fc (8 * t + 1)).toInt = 1 ∨ (fc (8 * t + 1)).toInt = 2 := by omega
  rcases c3 with c3 | c3 | c3
  · exact one 0 (by decide) c3 r1 ac_sS1
  · exact one 1 (by decide) c3 r2 ac_sS2
  · exact one 2 (by decide) c3 r3 ac_sS3
def ac_isAl (o : Option mRow) : Bool := match o with
  | some (.aload_n n, a, b, c, d, []) => decide (n = 1) && (Nat.beq a 0 && (Nat.beq b 0 && (Nat.beq c 0 && decide (d = 0))))
  | _ => false
theorem ac_isAl_ok {o : Option mRow} (h : ac_isAl o = true) : o = some (.aload_n 1, 0, 0, 0, 0, []) := by
  unfold ac_isAl at h
  split at h
  · simp only [Bool.and_eq_true, decide_eq_true_eq] at h
    rw [h.1, Nat.eq_of_beq_eq_true h.2.1, Nat.eq_of_beq_eq_true h.2.2.1, Nat.eq_of_beq_eq_true h.2.2.2.1, h.2.2.2.2]
  · cases h
theorem ac_row1 : m_at ac_main0.2.1 1458 = some (.aload_n 1, 0, 0, 0, 0, []) := ac_isAl_ok (by decide +kernel)
/-- the turn of a replay -/
theorem ac_turnR (hl : l.stackTraces = false) (hL : L ≤ 4096) (hJ : ab_cl l ac_main0 (some (L, fc)) ac_Qt J) (hx9 : hx (fun _ => 0) σ9) (h19 : σ9.1 1 = 0) (IH : ac_Hd σ9 J L (t + 1)) {ν : ab_N} {Lc : List (Option mV)} {σ : mS} {k n : Nat} (ht : t ≤ 511) (hA : ac_At σ9 L t ν Lc σ) (hR : ac_Rm t k n) (hi : ν 2 + 8 ≤ ν 1) : J 1458 Lc [] σ k n := by
  obtain ⟨⟨h1, h2⟩, hI, hLs, hp, hM⟩ := hA
  obtain ⟨hk, hn⟩ := hR
  have hld : m_ld Lc 1 = some (.inr (.inr (some (11, 0)))) := by
    obtain ⟨x, x1, x2⟩ := hLs.2 1 (.inr (.inr (.inl (11, (0, 0), (0, 1))))) rfl
    obtain ⟨r, rfl, g⟩ := ab_Va x2
    cases r with
    | none =>
      have g3 : ν 0 + 1 = 0 := g.2.2
      rw [hI.1.1] at g3
      cases g3
    | some p =>
      obtain ⟨p1, p2⟩ := p
      obtain ⟨-, -, -, g4, g5⟩ := g
      have g4 : p1 = 11 := g4
      have g5 : (p2 : Int) = ν 0 + 0 := g5
      rw [hI.1.1] at g5
      have e2 : p2 = 0 := by omega
      subst g4; subst e2
      exact x1
  have hlen : Lc.length = 8 := hLs.1
  refine hJ 1458 Lc [] σ k n ?_
  unfold m_step
  have hr1 : m_at ac_main0.2.1 1458 = some (.aload_n 1, 0, 0, 0, 0, []) := ac_row1
  rw [hr1]
  show m_s_bare (.aload_n 1, 0, 0, 0, 0, []) 1458 Lc [] (fun pc L st => J pc L st σ k n)
  have hb : m_pure (.aload_n 1, 0, 0, 0, 0, []) 1458 Lc [] = some (1459, Lc, [.inr (.inr (some (11, 0)))]) := by
    show m_nx 1459 Lc (m_lda Lc 1 []) = _
    unfold m_lda
    rw [hld]
    rfl
  unfold m_s_bare
  rw [show m_cond (.aload_n 1, 0, 0, 0, 0, []) [] = none from rfl]
  dsimp only
  rw [hb]
  dsimp only
  refine hJ 1459 Lc _ σ k n ?_
  unfold m_step
  cases hr2 : m_at ac_main0.2.1 1459 with
  | none => exact absurd (congrArg Option.isSome hr2) (by rw [show (m_at ac_main0.2.1 1459).isSome = true by decide +kernel]; decide)
  | some r =>
    obtain ⟨ig, ln, ra, rb, rz, rp⟩ := r
    have hq : (m_at ac_main0.2.1 1459).map (fun r => (r.2.2.1, r.2.2.2.1, m_p r 5)) = some (157, 0, 11) := by decide +kernel
    have hv : (match m_at ac_main0.2.1 1459 with
      | some r => (match r.1 with
        | .invokevirtual _ => true
        | _ => false)
      | none => false) = true := by decide +kernel
    rw [hr2] at hq hv
    dsimp only at hv ⊢
    have hq' : (ra, rb, m_p (ig, ln, ra, rb, rz, rp) 5) = (157, 0, 11) := Option.some.inj hq
    have e1 : ra = 157 := congrArg (fun q => q.1) hq'
    have e2 : rb = 0 := congrArg (fun q => q.2.1) hq'
    have e3 : m_p (ig, ln, ra, rb, rz, rp) 5 = 11 := congrArg (fun q => q.2.2) hq'
    subst e1; subst e2
    cases ig
    case invokevirtual i =>
      dsimp only
      refine ⟨hlen, ?_⟩
      cases hy : m_mt[157]? with
      | none => exact absurd (congrArg Option.isSome hy) (by rw [show (m_mt[157]?).isSome = true by decide +kernel]; decide)
      | some y =>
        have hyr : (m_mt[157]?).map (fun y => (y.2.2.2.2.1.cells, y.2.2.2.2.1.slots)) = some (347, 4031) := by decide +kernel
        rw [hy] at hyr
        have hyr' : (y.2.2.2.2.1.cells, y.2.2.2.2.1.slots) = (347, 4031) := Option.some.inj hyr
        have c1y : y.2.2.2.2.1.cells = 347 := congrArg (fun q => q.1) hyr'
        have c2y : y.2.2.2.2.1.slots = 4031 := congrArg (fun q => q.2) hyr'
        dsimp only
        show m_s_callV (m_ConI l) room_1 _ y (.invokevirtual i, ln, 157, 0, rz, rp) σ [.inr (.inr (some (11, 0)))] k n _
        unfold m_s_callV
        dsimp only [List.drop_zero, List.take_zero]
        refine ⟨e3.symm, rfl, by decide, ⟨by rw [c1y]; show k + 347 ≤ 608340; omega, by rw [c2y]; show n + 4031 ≤ 7271085; omega⟩, ?_⟩
        rw [e3]
        obtain ⟨σ', r, i1, kk, c1, ln, fr⟩ := iv_replay hx9 h19 hp.1 hM
        refine ev_run_con hl r ?_
        show J 1462 Lc [.inl 1] σ' (k + y.2.2.2.2.1.cells) (n + y.2.2.2.2.1.slots)
        rw [c1y, c2y]
        have g1 : ac_hp ac_kT σ' 14 ν ac_HT σ' := ⟨kk, ac_fr.rf, by show ab_I 14 ν (3, 0) (σ'.1 1 : Int); rw [c1]; exact hp.2.2.1, fun o ho => ac_OT_fo hp.2.2.2.1 hI.1.1 fr o ho, fun g hg => by cases hg⟩
        exact ac_turnWs hl hL hJ ac_sR (show ab_Vs 14 ν [.inl (0, 1)] [.inl (1 : Int32)] from And.intro (show ab_I 14 ν (0, 1) (1 : Int32).toInt from ⟨by decide, by show (1 : Int32).toInt = ν 0 + 1; rw [hI.1.1]; decide⟩) trivial) IH ht ⟨⟨h1, h2⟩, hI, hLs, g1, i1⟩ (by omega) (by omega) hi
    all_goals cases hv
theorem ac_tgB : ac_tgs.all (fun p => ac_AB.any (fun q => Nat.beq q.1 p) || (ac_Wh.any (Nat.beq p) || (Nat.beq p 848 || Nat.beq p 1458))) = true := by decide +kernel
theorem ac_turn (hl : l.stackTraces = false) (hL : L ≤ 4096) (hJ : ab_cl l ac_main0 (some (L, fc)) ac_Qt J) (hx9 : hx (fun _ => 0) σ9) (h19 : σ9.1 1 = 0) (IH : ac_Hd σ9 J L (t + 1)) {p : Nat} (hpt : p ∈ ac_tgs) {ν : ab_N} {Lc : List (Option mV)} {σ : mS} {k n : Nat} (ht : t ≤ 511) (hA : ac_At σ9 L t ν Lc σ) (hR : ac_Rm t k n) (hi : ν 2 + 8 ≤ ν 1) : J p Lc [] σ k n := by
  have g := List.all_eq_true.mp ac_tgB p hpt
  rcases (Bool.or_eq_true _ _).mp g with g | g
  · obtain ⟨q, q1, q2⟩ := List.any_eq_true.mp g
    have e := Nat.eq_of_beq_eq_true q2
    subst e
    exact ac_turnAB hl hL hJ q1 IH ht hA hR hi
  rcases (Bool.or_eq_true _ _).mp g with g | g
  · obtain ⟨q, q1, q2⟩ := List.any_eq_true.mp g
    have e := Nat.eq_of_beq_eq_true q2
    subst e
    exact ac_turnW hl hL hJ (List.all_eq_true.mp ac_sW p q1) IH ht hA (by have := hR.1; omega) (by have := hR.2; omega) hi
  rcases (Bool.or_eq_true _ _).mp g with g | g
  · have e := Nat.eq_of_beq_eq_true g
    subst e
    exact ac_turnS hl hL hJ IH ht hA hR hi
  · have e := Nat.eq_of_beq_eq_true g
    subst e
    exact ac_turnR hl hL hJ hx9 h19 IH ht hA hR hi
/-- the loop -/
theorem ac_law (hl : l.stackTraces = false) (hL : L ≤ 4096) (hJ : ab_cl l ac_main0 (some (L, fc)) ac_Qt J) (hx9 : hx (fun _ => 0) σ9) (h19 : σ9.1 1 = 0) : ∀ d t : Nat, t + d = 512 → ac_Hd σ9 J L t := by
  intro d
  induction d with
  | zero =>
    intro t ht ν Lc σ k n hA hR
    have hA0 := hA
    obtain ⟨⟨h1, h2⟩, hI, hLs, hp, hM⟩ := hA
    obtain ⟨hk, hn⟩ := hR
    obtain ⟨outs, o1, o2⟩ := ac_allZ_ok ac_s0
    have hcx : ab_cx (some (L, fc)) ac_CH ν := ac_cxB (B := ac_BH) hI.1.1 (by decide) (ac_bd (im := 4096) (cm := 512) (mm := 30720000) (nm := 30720512) hI (by omega) (by omega) (by omega) (by omega) (by omega))
    refine ar_go_ok (lw_rule hl σ9) (lw_gd_ok ac_kT) (lw_SP_ok hl) 4000 true 999 ac_mainT [] (ac_TS ac_CH 23) outs o1 _ _ ν σ Lc [] σ ac_Qt (lw_J σ9 (fun pc L st σ a b => J pc L st σ (k + a) (n + b))) (fun _ => rfl) (ac_xlT (C := ac_CH) (by decide) hL h1) (ac_clT hJ (by omega) (by omega)) (fun p hp => by cases hp) hcx hLs trivial hp (fun z hz => ?_) hM
    have hz := o2 z hz
    cases z with
    | inl e => exact ac_end0 e hz
    | inr S =>
      intro ν' Lc' sc' σ' u hL' hs' hp' hI9
      obtain ⟨a1, a2, a3, a4, a5, a6, a7, a8, a9⟩ := ac_tgt0 hz u hL' hs' hp'
      exfalso
      have e5 := a5.2
      have e9 := a9.2
      omega
  | succ d ih =>
    intro t ht ν Lc σ k n hA hR
    have IH := ih (t + 1) (by omega)
    obtain ⟨⟨h1, h2⟩, hI, hLs, hp, hM⟩ := hA
    obtain ⟨hk, hn⟩ := hR
    obtain ⟨outs, o1, o2⟩ := ac_allZ_ok ac_s0
    have hcx : ab_cx (some (L, fc)) ac_CH ν := ac_cxB (B := ac_BH) hI.1.1 (by decide) (ac_bd (im := 4096) (cm := 512) (mm := 30720000) (nm := 30720512) hI (by omega) (by omega) (by omega) (by omega) (by omega))
    refine ar_go_ok (lw_rule hl σ9) (lw_gd_ok ac_kT) (lw_SP_ok hl) 4000 true 999 ac_mainT [] (ac_TS ac_CH 23) outs o1 _ _ ν σ Lc [] σ ac_Qt (lw_J σ9 (fun pc L st σ a b => J pc L st σ (k + a) (n + b))) (fun _ => rfl) (ac_xlT (C := ac_CH) (by decide) hL h1) (ac_clT hJ (by omega) (by omega)) (fun p hp => by cases hp) hcx hLs trivial hp (fun z hz => ?_) hM
    have hz := o2 z hz
    cases z with
    | inl e => exact ac_end0 e hz
    | inr S =>
      intro ν' Lc' sc' σ' u hL' hs' hp' hI9
      obtain ⟨a1, a2, a3, a4, a5, a6, a7, a8, a9⟩ := ac_tgt0 hz u hL' hs' hp'
      rw [a2, a3, a4]
      exact ac_turn hl hL hJ hx9 h19 IH a1 (by omega) ⟨⟨a5.1.trans h1, a5.2.trans h2⟩, a6 _ _ _ hI, a7, a8, hI9⟩ ⟨by omega, by omega⟩ a9.1
end ACM
