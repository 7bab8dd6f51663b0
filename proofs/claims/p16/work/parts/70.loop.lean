/-! the law's loop -/
def ac_Qt : mX → mS → Prop := fun x _ => x = .inl (some (.inl 1))
def ac_cnA : List (Nat × Nat) := [(0, 1), (2, 1), (3, 1), (4, 1), (5, 4), (6, 6), (7, 120), (8, 3), (9, 2), (10, 200), (11, 1), (12, 1), (13, 42), (14, 23), (15, 2), (16, 1), (17, 1), (18, 1), (19, 1), (20, 1), (21, 1)]
/-- ahead of the first replay, and behind it -/
def ac_MdA (σ : mS) : Prop := m_get σ 11 0 2 = .inr (.inr none) ∧ ∀ q ∈ ac_cnA, σ.1 q.1 = q.2
def ac_Md (σ : mS) : Prop := ac_MdA σ ∨ ac_KK ac_KB σ
def ac_RepOK (l : Launch) : Prop := ∀ (σ : mS) (ν : ab_N), ac_hp ac_kT σ 14 ν ac_HT σ → ν 0 = 0 → ac_Md σ → ∀ Q : mX → mS → Prop, (∀ v σ', ac_hp ac_kT σ' 14 ν ac_HT σ' → ac_KK ac_KB σ' → Q (.inl (some (.inl v))) σ') → m_ConI l 157 [.inr (.inr (some (11, 0)))] σ Q
theorem ac_liftT : ac_lift ac_K0 ac_KB ac_WT = true := by decide +kernel
theorem ac_WTa : ac_WT.all (fun b => !(Nat.beq b.1 11 && (Nat.ble b.2.2.2.1 2 && Nat.ble 2 b.2.2.2.2.1))) = true := by decide +kernel
theorem ac_cnA1 : ac_cnA.all (fun q => !(Nat.beq q.1 1)) = true := by decide
theorem ac_Md.fr {σ σ' : mS} (h : ac_Md σ) (hK : ac_KK ac_K0 σ') (hf : ac_fr ac_WT σ σ') : ac_Md σ' := by
  rcases h with ⟨h1, h2⟩ | h
  · refine Or.inl ⟨?_, fun q hq => ?_⟩
    · rcases hf.2.2.2 11 0 2 (fun z => by cases z.1) with e | ⟨b, b1, ⟨f1, f2, f3, f4, f5⟩, -⟩
      · rw [e]; exact h1
      · have g := List.all_eq_true.mp ac_WTa b b1
        have g2 : (Nat.beq b.1 11 && (Nat.ble b.2.2.2.1 2 && Nat.ble 2 b.2.2.2.2.1)) = true := by
          rw [Bool.and_eq_true, Bool.and_eq_true, Nat.ble_eq, Nat.ble_eq]
          exact ⟨by rw [f1]; rfl, f4, f5⟩
        rw [g2] at g
        cases g
    · rw [hf.1 q.1 (fun z => by
        have g := List.all_eq_true.mp ac_cnA1 q hq
        rw [z] at g
        cases g)]
      exact h2 q hq
  · exact Or.inr (ac_lift_ok h hK hf ac_liftT)
theorem ac_Iv.mono {c m n c' m' n' : Int} {ν : ab_N} (h : ac_Iv c m n ν) (h1 : c ≤ c') (h2 : m ≤ m') (h3 : n ≤ n') : ac_Iv c' m' n' ν := by
  obtain ⟨⟨i0, i1, i2, i3, i4⟩, ⟨i5, i6, i7, i8, i9, i10⟩, r⟩ := h
  exact ⟨⟨i0, i1, by omega, i3, by omega⟩, ⟨i5, by omega, i7, by omega, i9, i10⟩, r⟩
theorem ac_bd {c m n im cm mm nm : Int} {ν : ab_N} (hI : ac_Iv c m n ν) (h1 : 0 ≤ ν 1 ∧ ν 1 ≤ 4096) (h2 : 0 ≤ ν 2 ∧ ν 2 ≤ im) (hc : c ≤ cm) (hm : m ≤ mm) (hn : n ≤ nm) : ∀ j q, ([(0, 0), (0, 4096), (0, im), (0, cm), (0, mm), (0, nm), (0, nm), (0, 4), (0, 3), (0, 3), (0, 3), (1, 125), (1, 125), (1, 125)] : ab_Bx)[j]? = some q → q.1 ≤ ν j ∧ ν j ≤ q.2 := by
  obtain ⟨⟨i0, i1, i2, i3, i4⟩, ⟨i5, i6, i7, i8, i9, i10⟩, ⟨a1, a2, a3, a4⟩, ⟨b1, b2, b3, b4⟩, ⟨c1, c2, c3, c4⟩⟩ := hI
  have p1 := ac_p5_le (ν 8)
  have p2 := ac_p5_le (ν 9)
  have p3 := ac_p5_le (ν 10)
  intro j q hq
  match j, hq with
  | 0, hq => cases hq; exact ⟨by dsimp only; omega, by dsimp only; omega⟩
  | 1, hq => cases hq; exact h1
  | 2, hq => cases hq; exact h2
  | 3, hq => cases hq; exact ⟨i1, by dsimp only; omega⟩
  | 4, hq => cases hq; exact ⟨i3, by dsimp only; omega⟩
  | 5, hq => cases hq; exact ⟨i5, by dsimp only; omega⟩
  | 6, hq => cases hq; exact ⟨i7, by dsimp only; omega⟩
  | 7, hq => cases hq; exact ⟨i9, i10⟩
  | 8, hq => cases hq; exact ⟨a1, a2⟩
  | 9, hq => cases hq; exact ⟨b1, b2⟩
  | 10, hq => cases hq; exact ⟨c1, c2⟩
  | 11, hq => cases hq; exact ⟨a3, by dsimp only; omega⟩
  | 12, hq => cases hq; exact ⟨b3, by dsimp only; omega⟩
  | 13, hq => cases hq; exact ⟨c3, by dsimp only; omega⟩
  | j + 14, hq => cases hq
theorem ac_cxF {xs : ab_X} {B : ab_Bx} {ν : ab_N} (h0 : ν 0 = 0) (hn : 2 < B.length) (h : ∀ j q, B[j]? = some q → q.1 ≤ ν j ∧ ν j ≤ q.2) (hf : ν 2 ≤ ν 1 + -8) : ab_cx xs (B, [(2, 1, -8)], []) ν := ⟨⟨h0, h⟩, by show 0 < B.length; omega, fun q hq => by
    have e := List.mem_singleton.mp hq
    subst e
    exact ⟨hn, by show 1 < B.length; omega, hf⟩, fun q hq => (by cases hq)⟩
/-- what is held in a turn, t turns behind -/
def ac_At (L t : Nat) (ν : ab_N) (Lc : List (Option mV)) (σ : mS) : Prop := (ν 1 = (L : Int) ∧ ν 2 = 8 * (t : Int)) ∧ ac_Iv (t : Int) (60000 * (t : Int)) (60001 * (t : Int)) ν ∧ ab_Ls 14 ν ac_LT Lc ∧ ac_hp ac_kT σ 14 ν ac_HT σ ∧ ac_Md σ
def ac_Rm (t k n : Nat) : Prop := k ≤ 414 + 694 * t ∧ n ≤ 251731 + 8062 * t
theorem ac_end0 {xs : ab_X} {C : ab_C} {ν : ab_N} {σ0 : mS} {J : Nat → List (Option mV) → List mV → mS → Nat → Nat → Prop} (e : ac_Q) (hz : ac_ok0 (.inl e) = true) : ac_zo ac_kT σ0 xs C ν J ac_Qt (.inl e) := by
  obtain ⟨C', o, H'⟩ := e
  unfold ac_ok0 at hz
  dsimp only at hz
  intro ν' x σ' u hx hp
  dsimp only at u hx
  split at hz
  · rename_i v
    have e1 := ab_eE_ok hz
    subst e1
    cases x with
    | inr y => exact hx.elim
    | inl y =>
      cases y with
      | none => exact hx.elim
      | some w =>
        have hx : ab_Vr C'.1.length ν' (.inl (0, 1)) w := hx
        obtain ⟨y, rfl, g⟩ := ab_Vi hx
        have g2 : y.toInt = ν' 0 + 1 := g.2
        rw [u.1.1.1] at g2
        have g3 : y = 1 := Int32.toInt_inj.mp (by rw [g2]; decide)
        rw [g3]
        rfl
  · cases hz
theorem ac_tgt0 {xs : ab_X} {ν ν' : ab_N} {σ0 σ : mS} {S : ac_S} {Lc : List (Option mV)} {sc : List mV} (hz : ac_ok0 (.inr S) = true) (u : ab_up xs ac_CH ν S.1 ν') (hL : ab_Ls S.1.1.length ν' S.2.2.1 Lc) (hs : ab_Vs S.1.1.length ν' S.2.2.2.1 sc) (hp : ac_hp ac_kT σ0 S.1.1.length ν' S.2.2.2.2.1 σ) :
    S.2.1 ∈ ac_tgs ∧ sc = [] ∧ S.2.2.2.2.2.1 = 0 ∧ S.2.2.2.2.2.2 = 0 ∧ (ν' 1 = ν 1 ∧ ν' 2 = ν 2) ∧ (∀ c m n, ac_Iv c m n ν → ac_Iv c m n ν') ∧ ab_Ls 14 ν' ac_LT Lc ∧ ac_hp ac_kT σ 14 ν' ac_HT σ ∧ (ν' 2 + 8 ≤ ν' 1 ∧ ν' 2 ≤ 4088) := by
  have hz : (ac_tgs.any (Nat.beq S.2.1) && (match ac_esT S (2, 0) with
    | none => false
    | some es => ac_can S es ac_TT0 && (ac_idB es && (ab_leq S.1 (2, 8) (1, 0) && (ab_le (ab_iv S.1.1 (2, 0)).2 4088 && (Nat.beq S.2.2.2.2.2.1 0 && Nat.beq S.2.2.2.2.2.2 0)))))) = true := hz
  rw [Bool.and_eq_true] at hz
  obtain ⟨z1, z2⟩ := hz
  obtain ⟨p, p1, p2⟩ := List.any_eq_true.mp z1
  cases he : ac_esT S (2, 0) with
  | none => rw [he] at z2; cases z2
  | some es =>
    rw [he] at z2
    simp only [Bool.and_eq_true, ab_le_ok] at z2
    obtain ⟨z2, z3, z4, z5, z6, z7⟩ := z2
    obtain ⟨b1, b2, b3, b4, -⟩ := ac_can_ok u.1 hL hs hp z2
    obtain ⟨hlen, -⟩ := ac_esT_len he
    rw [hlen] at b2 b3
    have hN : 14 ≤ S.1.1.length := u.2.2
    have hid : ab_ex 14 (ac_nu es ν') ν' := fun j hj => by
      have g := ab_eE_ok (List.all_eq_true.mp z3 j (List.mem_range.mpr hj))
      rw [ac_nu_ge (by omega), g]
      exact (Int.add_zero _).symm
    have hu : ab_ex 14 ν ν' := fun j hj => u.2.1 j hj
    refine ⟨by rw [Nat.eq_of_beq_eq_true p2]; exact p1, b1, Nat.eq_of_beq_eq_true z6, Nat.eq_of_beq_eq_true z7, ⟨hu 1 (by decide), hu 2 (by decide)⟩, fun c m n h => h.ex hu, b2.ex hid (Nat.le_refl _), ?_, ?_, ?_⟩
    · exact ac_reb (b3.ex hid (Nat.le_refl _)) ac_WT
    · have := ab_leq_ok u.1 (e := (2, 8)) (f := (1, 0)) (x := ν' 2 + 8) (y := ν' 1 + 0) ⟨by show 2 < _; omega, rfl⟩ ⟨by show 1 < _; omega, rfl⟩ z4
      omega
    · have := ab_iv_ok u.1.1 (e := (2, 0)) (x := ν' 2 + 0) ⟨by show 2 < _; omega, rfl⟩
      omega
section ACM
variable {xs : ab_X} {l : Launch} {J : Nat → List (Option mV) → List mV → mS → Nat → Nat → Prop} {L t : Nat} {fc : Nat → Int32}
/-- the next turn's head -/
def ac_Hd (J : Nat → List (Option mV) → List mV → mS → Nat → Nat → Prop) (L t : Nat) : Prop := ∀ ν Lc σ k n, ac_At L t ν Lc σ → ac_Rm t k n → J 23 Lc [] σ k n
theorem ac_xlT {C : ab_C} {ν : ab_N} (h1 : 1 < C.1.length) (hL : L ≤ 4096) (h : ν 1 = (L : Int)) : ab_xl true (some (L, fc)) C ν := fun _ => ⟨(L, fc), rfl, by dsimp only; omega, h1, by show (L : Int) = ν 1 + 0; omega⟩
theorem ac_clT (hJ : ab_cl l ac_main0 xs ac_Qt J) {k n : Nat} (hk : k ≤ 414 + 694 * 512) (hn : n ≤ 251731 + 8062 * 512) : ab_cl l ac_mainT xs ac_Qt (fun pc L st σ a b => J pc L st σ (k + a) (n + b)) :=
  ac_clS (z := ac_main0) rfl hJ (by show k + 347 ≤ 608340; omega) (by show n + 4031 ≤ 7271085; omega)
/-- from the middle of a turn to its end -/
theorem ac_toB (hl : l.stackTraces = false) (hL : L ≤ 4096) (hJ : ab_cl l ac_main0 (some (L, fc)) ac_Qt J) {C : ab_C} {p : Nat} (hs : ac_seg C p 23 (2, 8) 0 60000 = true) (hN : 14 ≤ C.1.length) (IH : ac_Hd J L (t + 1)) {ν ν0 : ab_N} {Lc : List (Option mV)} {σ : mS} {k n : Nat} (h : ab_cx (some (L, fc)) C ν) (hx : ab_ex 14 ν0 ν) (ht : t ≤ 511)
    (h1 : ν0 1 = (L : Int)) (h2 : ν0 2 = 8 * (t : Int)) (hI : ac_Iv ((t : Int) + 1) (60000 * (t : Int)) (60001 * (t : Int) + 1) ν0) (hLs : ab_Ls 14 ν0 ac_LT Lc) (hp : ac_hp ac_kT σ 14 ν0 ac_HT σ) (hM : ac_Md σ) (hk : k ≤ 414 + 694 * t + 347) (hn : n ≤ 251731 + 8062 * t + 4031) : J p Lc [] σ k n := by
  have e1 : ν 1 = (L : Int) := (hx 1 (by decide)).trans h1
  have e2 : ν 2 = 8 * (t : Int) := (hx 2 (by decide)).trans h2
  have key := ac_segL (J := fun pc L st σ a b => J pc L st σ (k + a) (n + b)) hl hs hN (by decide) (ac_clT hJ (by omega) (by omega)) (ac_xlT (by omega) hL e1) h (hLs.ex hx hN) (hp.ex hx hN) (hI.ex hx) (by omega) (fun ν2 Lc' σ' k' n' q1 q2 q3 q4 q5 q6 q7 q8 => by
    refine IH ν2 Lc' σ' (k + k') (n + n') ⟨⟨q2.trans e1, ?_⟩, ?_, q4, q5, hM.fr q5.1 q6⟩ ⟨by omega, by omega⟩
    · have q3 : ν2 2 = ν 2 + 8 := q3
      have : ((t + 1 : Nat) : Int) = (t : Int) + 1 := rfl
      rw [this]; omega
    · have : ((t + 1 : Nat) : Int) = (t : Int) + 1 := rfl
      rw [this]
      exact q1.mono (by omega) (by omega) (by omega))
  exact key
theorem ac_turnB (hl : l.stackTraces = false) (hL : L ≤ 4096) (hJ : ab_cl l ac_main0 (some (L, fc)) ac_Qt J) {p : Nat} (hs : ac_seg ac_CB p 23 (2, 8) 0 60000 = true) (IH : ac_Hd J L (t + 1)) {ν : ab_N} {Lc : List (Option mV)} {σ : mS} {k n : Nat} (ht : t ≤ 511) (hi : ν 2 + 8 ≤ ν 1)
    (h1 : ν 1 = (L : Int)) (h2 : ν 2 = 8 * (t : Int)) (hI : ac_Iv ((t : Int) + 1) (60000 * (t : Int)) (60001 * (t : Int) + 1) ν) (hLs : ab_Ls 14 ν ac_LT Lc) (hp : ac_hp ac_kT σ 14 ν ac_HT σ) (hM : ac_Md σ) (hk : k ≤ 414 + 694 * t + 347) (hn : n ≤ 251731 + 8062 * t + 4031) : J p Lc [] σ k n :=
  ac_toB (C := ac_CB) hl hL hJ hs (by decide) IH (ac_cxF (B := ac_BB) hI.1.1 (by decide) (ac_bd (im := 4088) (cm := 512) (mm := 30660000) (nm := 30720511) hI (by omega) (by omega) (by omega) (by omega) (by omega)) (by omega)) (fun _ _ => rfl) ht h1 h2 hI hLs hp hM hk hn
/-- the class's half of a turn -/
theorem ac_toA (hl : l.stackTraces = false) (hL : L ≤ 4096) (hJ : ab_cl l ac_main0 (some (L, fc)) ac_Qt J) {p q : Nat} {ie : ab_E} {dm : Int} (hie : ie.1 < 14) (hs : ac_seg ac_CA p q ie 1 dm = true) {ν : ab_N} {Lc : List (Option mV)} {σ : mS} {k n : Nat} (ht : t ≤ 511) (hA : ac_At L t ν Lc σ) (hR : ac_Rm t k n) (hi : ν 2 + 8 ≤ ν 1)
    (cont : ∀ ν2 Lc' σ' k' n', ν2 1 = (L : Int) → ν2 2 = ν ie.1 + ie.2 → ac_Iv ((t : Int) + 1) (60000 * (t : Int) + dm) (60001 * (t : Int) + 1) ν2 → ab_Ls 14 ν2 ac_LT Lc' → ac_hp ac_kT σ' 14 ν2 ac_HT σ' → ac_Md σ' → k' ≤ 414 + 694 * t + 347 → n' ≤ 251731 + 8062 * t + 4031 → J q Lc' [] σ' k' n') : J p Lc [] σ k n := by
  obtain ⟨⟨h1, h2⟩, hI, hLs, hp, hM⟩ := hA
  obtain ⟨hk, hn⟩ := hR
  have hcx : ab_cx (some (L, fc)) ac_CA ν := ac_cxF (B := ac_BA) hI.1.1 (by decide) (ac_bd (im := 4088) (cm := 511) (mm := 30660000) (nm := 30720511) hI (by omega) (by omega) (by omega) (by omega) (by omega)) (by omega)
  exact ac_segL (C := ac_CA) (J := fun pc L st σ a b => J pc L st σ (k + a) (n + b)) hl hs (by decide) hie (ac_clT hJ (by omega) (by omega)) (ac_xlT (by decide) hL h1) hcx hLs hp hI (by omega) (fun ν2 Lc' σ' k' n' q1 q2 q3 q4 q5 q6 q7 q8 => cont ν2 Lc' σ' (k + k') (n + n') (q2.trans h1) q3 q1 q4 q5 (hM.fr q5.1 q6) (by omega) (by omega))
/-- a turn that is gone through at once -/
theorem ac_turnW (hl : l.stackTraces = false) (hL : L ≤ 4096) (hJ : ab_cl l ac_main0 (some (L, fc)) ac_Qt J) {p : Nat} (hs : ac_seg ac_CA p 23 (2, 8) 1 60000 = true) (IH : ac_Hd J L (t + 1)) {ν : ab_N} {Lc : List (Option mV)} {σ : mS} {k n : Nat} (ht : t ≤ 511) (hA : ac_At L t ν Lc σ) (hk : k ≤ 414 + 694 * t + 347) (hn : n ≤ 251731 + 8062 * t + 4031) (hi : ν 2 + 8 ≤ ν 1) : J p Lc [] σ k n := by
  obtain ⟨⟨h1, h2⟩, hI, hLs, hp, hM⟩ := hA
  have hcx : ab_cx (some (L, fc)) ac_CA ν := ac_cxF (B := ac_BA) hI.1.1 (by decide) (ac_bd (im := 4088) (cm := 511) (mm := 30660000) (nm := 30720511) hI (by omega) (by omega) (by omega) (by omega) (by omega)) (by omega)
  have e9 : ((t + 1 : Nat) : Int) = (t : Int) + 1 := rfl
  exact ac_segL (C := ac_CA) (J := fun pc L st σ a b => J pc L st σ (k + a) (n + b)) hl hs (by decide) (by decide) (ac_clT hJ (by omega) (by omega)) (ac_xlT (by decide) hL h1) hcx hLs hp hI (by omega) (fun ν2 Lc' σ' k' n' q1 q2 q3 q4 q5 q6 q7 q8 => IH ν2 Lc' σ' (k + k') (n + n') ⟨⟨q2.trans h1, by have q3 : ν2 2 = ν 2 + 8 := q3; rw [e9]; omega⟩, by rw [e9]; exact q1.mono (by omega) (by omega) (by omega), q4, q5, hM.fr q5.1 q6⟩ ⟨by omega, by omega⟩)
theorem ac_turnAB (hl : l.stackTraces = false) (hL : L ≤ 4096) (hJ : ab_cl l ac_main0 (some (L, fc)) ac_Qt J) {q : Nat × Nat} (hq : q ∈ ac_AB) (IH : ac_Hd J L (t + 1)) {ν : ab_N} {Lc : List (Option mV)} {σ : mS} {k n : Nat} (ht : t ≤ 511) (hA : ac_At L t ν Lc σ) (hR : ac_Rm t k n) (hi : ν 2 + 8 ≤ ν 1) : J q.1 Lc [] σ k n := by
  have hs : ac_seg ac_CA q.1 q.2 (2, 0) 1 0 = true := List.all_eq_true.mp ac_sA q hq
  have hs2 : ac_seg ac_CB q.2 23 (2, 8) 0 60000 = true := List.all_eq_true.mp ac_sB q hq
  have h1 := hA.1.1
  have h2 := hA.1.2
  refine ac_toA hl hL hJ (by decide) hs ht hA hR hi (fun ν2 Lc' σ' k' n' q1 q2 q3 q4 q5 q6 q7 q8 => ?_)
  have q2 : ν2 2 = ν 2 + 0 := q2
  exact ac_turnB hl hL hJ hs2 IH ht (by omega) q1 (by omega) (q3.mono (by omega) (by omega) (by omega)) q4 q5 q6 q7 q8
/-- a whole turn, with more that is known at its head -/
theorem ac_toW (hl : l.stackTraces = false) (hL : L ≤ 4096) (hJ : ab_cl l ac_main0 (some (L, fc)) ac_Qt J) {C : ab_C} {p : Nat} (hs : ac_seg C p 23 (2, 8) 1 60000 = true) (hN : 14 ≤ C.1.length) (IH : ac_Hd J L (t + 1)) {ν ν0 : ab_N} {Lc : List (Option mV)} {σ : mS} {k n : Nat} (h : ab_cx (some (L, fc)) C ν) (hx : ab_ex 14 ν0 ν) (ht : t ≤ 511) (hA : ac_At L t ν0 Lc σ) (hk : k ≤ 414 + 694 * t + 347) (hn : n ≤ 251731 + 8062 * t + 4031) : J p Lc [] σ k n := by
  obtain ⟨⟨h1, h2⟩, hI, hLs, hp, hM⟩ := hA
  have e1 : ν 1 = (L : Int) := (hx 1 (by decide)).trans h1
  have e2 : ν 2 = 8 * (t : Int) := (hx 2 (by decide)).trans h2
  have e9 : ((t + 1 : Nat) : Int) = (t : Int) + 1 := rfl
  exact ac_segL (J := fun pc L st σ a b => J pc L st σ (k + a) (n + b)) hl hs hN (by decide) (ac_clT hJ (by omega) (by omega)) (ac_xlT (by omega) hL e1) h (hLs.ex hx hN) (hp.ex hx hN) (hI.ex hx) (by omega) (fun ν2 Lc' σ' k' n' q1 q2 q3 q4 q5 q6 q7 q8 => IH ν2 Lc' σ' (k + k') (n + n') ⟨⟨q2.trans e1, by have q3 : ν2 2 = ν 2 + 8 := q3; rw [e9]; omega⟩, by rw [e9]; exact q1.mono (by omega) (by omega) (by omega), q4, q5, hM.fr q5.1 q6⟩ ⟨by omega, by omega⟩)
/-- a cell of the script is known -/
theorem ac_cell {B : ab_Bx} {F : List (Nat × Nat × Int)} {R : List (ab_E × ab_E)} {ν : ab_N} {d : Nat} {lo hi : Int} (hB : ab_cx (some (L, fc)) (B, F, R) ν) (h2 : ν 2 = 8 * (t : Int)) (hn : 2 < B.length) (hlo : lo ≤ (fc (8 * t + d)).toInt) (hhi : (fc (8 * t + d)).toInt ≤ hi) : ab_cx (some (L, fc)) (B ++ [(lo, hi)], F, R ++ [((2, (d : Int)), (B.length, 0))]) (ab_put ν B.length (fc (8 * t + d)).toInt) := by
  have u := hB.add hlo hhi
  have e14 : (B ++ [(lo, hi)]).length = B.length + 1 := by rw [List.length_append]; rfl
  refine ⟨u.1.1, u.1.2.1, u.1.2.2.1, fun q hq => ?_⟩
  rcases List.mem_append.mp hq with hq | hq
  · exact u.1.2.2.2 q hq
  · have e := List.mem_singleton.mp hq
    subst e
    refine ⟨by show 2 < (B ++ [(lo, hi)]).length; omega, by show B.length < (B ++ [(lo, hi)]).length; omega, (L, fc), rfl, fun j hj => ?_⟩
    have hj : (j : Int) = ab_put ν B.length (fc (8 * t + d)).toInt 2 + (d : Int) := hj
    have p2 : ab_put ν B.length (fc (8 * t + d)).toInt 2 = ν 2 := ab_put_ex _ _ _ 2 hn
    have pB : ab_put ν B.length (fc (8 * t + d)).toInt B.length = (fc (8 * t + d)).toInt := if_pos rfl
    have ej : j = 8 * t + d := by omega
    subst ej
    show (fc (8 * t + d)).toInt = ab_put ν B.length (fc (8 * t + d)).toInt B.length + 0
    rw [pB]; omega
/-- the split can be made: the class's half, then the reference's -/
theorem ac_turnS2 (hl : l.stackTraces = false) (hL : L ≤ 4096) (hJ : ab_cl l ac_main0 (some (L, fc)) ac_Qt J) (IH : ac_Hd J L (t + 1)) {kk v : Nat} (hkk : kk < 3) (hv : v < 3) {ν : ab_N} {Lc : List (Option mV)} {σ : mS} {k n : Nat} (ht : t ≤ 511) (hA : ac_At L t ν Lc σ) (hR : ac_Rm t k n) (hi : ν 2 + 8 ≤ ν 1)
    (hw : (fc (8 * t + 1)).toInt = (kk : Int)) (hb1 : 2 ≤ (fc (8 * t + 2)).toInt) (hb2 : (fc (8 * t + 2)).toInt ≤ 5) (hν : ν (8 + kk) = (v : Int)) (hr : ac_Rel (ν (8 + kk)) (ν (11 + kk))) : J 848 Lc [] σ k n := by
  have hlen : ∀ {B : ab_Bx}, B.length = 14 → ((B.set (8 + kk) ((v : Int), (v : Int))).set (11 + kk) (1, ac_p5 (v : Int))).length = 14 := fun hB => by rw [List.length_set, List.length_set]; exact hB
  have ctx : ∀ {B : ab_Bx} {ν1 : ab_N}, B.length = 14 → ab_cx (some (L, fc)) (B, [(2, 1, -8)], []) ν1 → ν1 2 = 8 * (t : Int) → ν1 (8 + kk) = (v : Int) → ac_Rel (ν1 (8 + kk)) (ν1 (11 + kk)) → ∃ ν3, ab_cx (some (L, fc)) (ac_sp2 B kk v (2, 5)) ν3 ∧ ab_ex 14 ν1 ν3 := by
    intro B ν1 hB hcx h2 hv1 hr1
    obtain ⟨r1, r2, r3, r4⟩ := hr1
    have b1 := ab_set_ok (j := 8 + kk) (q := ((v : Int), (v : Int))) hcx.1 ⟨by show (v : Int) ≤ ν1 (8 + kk); omega, by show ν1 (8 + kk) ≤ (v : Int); omega⟩
    have b2 := ab_set_ok (j := 11 + kk) (q := (1, ac_p5 (v : Int))) b1 ⟨r3, by show ν1 (11 + kk) ≤ ac_p5 (v : Int); rw [← hv1]; exact r4⟩
    have hl1 := hlen hB
    have hBx : ab_cx (some (L, fc)) ((B.set (8 + kk) ((v : Int), (v : Int))).set (11 + kk) (1, ac_p5 (v : Int)), [(2, 1, -8)], []) ν1 := (ab_cx_B hcx ⟨b2, hl1.trans hB.symm⟩).1
    have c1 := ac_cell (fc := fc) (t := t) (L := L) (d := 1) (lo := (kk : Int)) (hi := (kk : Int)) hBx h2 (by omega) (by omega) (by omega)
    have hl2 : (((B.set (8 + kk) ((v : Int), (v : Int))).set (11 + kk) (1, ac_p5 (v : Int))) ++ [((kk : Int), (kk : Int))]).length = 15 := by rw [List.length_append, hl1]; rfl
    have x1 := ab_put_ex ν1 ((B.set (8 + kk) ((v : Int), (v : Int))).set (11 + kk) (1, ac_p5 (v : Int))).length (fc (8 * t + 1)).toInt
    have c2 := ac_cell (fc := fc) (t := t) (L := L) (d := 2) (lo := 2) (hi := 5) c1 ((x1 2 (by omega)).trans h2) (by omega) hb1 hb2
    have x2 := ab_put_ex (ab_put ν1 ((B.set (8 + kk) ((v : Int), (v : Int))).set (11 + kk) (1, ac_p5 (v : Int))).length (fc (8 * t + 1)).toInt) (((B.set (8 + kk) ((v : Int), (v : Int))).set (11 + kk) (1, ac_p5 (v : Int))) ++ [((kk : Int), (kk : Int))]).length (fc (8 * t + 2)).toInt
    rw [hl2] at c2 x2
    rw [hl1] at c2 x1 x2
    exact ⟨_, c2, fun j hj => (x2 j (by omega)).trans (x1 j hj)⟩
  have hs1 : ac_segG (ac_sp2 ac_BA kk v (2, 5)) ac_T0 848 867 (ac_T5 kk) (2, 0) 1 0 true = true := ac_s5A_all kk v hkk hv
  have hs2 : ac_segG (ac_sp2 ac_BB kk v (2, 5)) (ac_T5 kk) 867 23 ac_T0 (2, 8) 0 60000 false = true := ac_s5B_all kk v hkk hv
  have hN : ∀ {B : ab_Bx}, B.length = 14 → 14 ≤ (ac_sp2 B kk v (2, 5)).1.length := fun hB => by
    show 14 ≤ ((((_ : ab_Bx) ++ [((kk : Int), (kk : Int))]) ++ [((2 : Int), (5 : Int))]) : ab_Bx).length
    rw [List.length_append, List.length_append, hlen hB]
    exact Nat.le_trans (Nat.le_add_right 14 1) (Nat.le_add_right 15 1)
  obtain ⟨⟨h1, h2⟩, hI, hLs, hp, hM⟩ := hA
  obtain ⟨hk, hn⟩ := hR
  have hcx : ab_cx (some (L, fc)) ac_CA ν := ac_cxF (B := ac_BA) hI.1.1 (by decide) (ac_bd (im := 4088) (cm := 511) (mm := 30660000) (nm := 30720511) hI (by omega) (by omega) (by omega) (by omega) (by omega)) (by omega)
  obtain ⟨ν3, hc3, hx3⟩ := ctx (B := ac_BA) rfl hcx h2 hν hr
  have e1 : ν3 1 = (L : Int) := (hx3 1 (by decide)).trans h1
  refine ac_segGL (J := fun pc L st σ a b => J pc L st σ (k + a) (n + b)) hl hs1 (hN rfl) (by decide) (ac_clT hJ (by omega) (by omega)) (ac_xlT (Nat.lt_of_lt_of_le (by decide) (hN (B := ac_BA) rfl)) hL e1) hc3 (hLs.ex hx3 (hN rfl)) (hp.ex hx3 (hN rfl)) (hI.ex hx3) (by omega) (fun ν2 Lc' σ' k' n' q1 q2 q3 q4 q5 q6 qi q7 q8 => ?_)
  have e8 : ν2 (8 + kk) = (v : Int) := ((qi rfl (8 + kk) (by omega) (by omega)).trans (hx3 (8 + kk) (by omega))).trans hν
  have e11 : ν2 (11 + kk) = ν (11 + kk) := (qi rfl (11 + kk) (by omega) (by omega)).trans (hx3 (11 + kk) (by omega))
  have q3 : ν2 2 = ν3 2 + 0 := q3
  have g1 : ν2 1 = (L : Int) := q2.trans e1
  have g2 : ν2 2 = 8 * (t : Int) := by rw [q3, hx3 2 (by decide)]; omega
  have q1 := q1.mono (c' := (t : Int) + 1) (m' := 60000 * (t : Int)) (n' := 60001 * (t : Int) + 1) (by omega) (by omega) (by omega)
  have hcx2 : ab_cx (some (L, fc)) ac_CB ν2 := ac_cxF (B := ac_BB) q1.1.1 (by decide) (ac_bd (im := 4088) (cm := 512) (mm := 30660000) (nm := 30720511) q1 (by omega) (by omega) (by omega) (by omega) (by omega)) (by omega)
  obtain ⟨ν4, hc4, hx4⟩ := ctx (B := ac_BB) rfl hcx2 g2 e8 (by rw [e8, e11, ← hν]; exact hr)
  have e4 : ν4 1 = (L : Int) := (hx4 1 (by decide)).trans g1
  have hM' := hM.fr q5.1 q6
  have e9 : ((t + 1 : Nat) : Int) = (t : Int) + 1 := rfl
  refine ac_segGL (J := fun pc L st σ a b => J pc L st σ (k + k' + a) (n + n' + b)) hl hs2 (hN rfl) (by decide) (ac_clT hJ (by omega) (by omega)) (ac_xlT (Nat.lt_of_lt_of_le (by decide) (hN (B := ac_BB) rfl)) hL e4) hc4 (q4.ex hx4 (hN rfl)) ((ac_reb q5 ac_WT).ex hx4 (hN rfl)) (q1.ex hx4) (by omega) (fun ν5 L5 σ5 k5 n5 w1 w2 w3 w4 w5 w6 _ w7 w8 => IH ν5 L5 σ5 (k + k' + k5) (n + n' + n5) ⟨⟨w2.trans e4, ?_⟩, ?_, w4, w5, hM'.fr w5.1 w6⟩ ⟨by omega, by omega⟩)
  · have w3 : ν5 2 = ν4 2 + 8 := w3
    have := hx4 2 (by decide)
    rw [e9]; omega
  · rw [e9]; exact w1.mono (by omega) (by omega) (by omega)
/-- the turn of a split: by the instrument, by how often that was split, and by what it is divided -/
theorem ac_turnS (hl : l.stackTraces = false) (hL : L ≤ 4096) (hJ : ab_cl l ac_main0 (some (L, fc)) ac_Qt J) (IH : ac_Hd J L (t + 1)) {ν : ab_N} {Lc : List (Option mV)} {σ : mS} {k n : Nat} (ht : t ≤ 511) (hA : ac_At L t ν Lc σ) (hR : ac_Rm t k n) (hi : ν 2 + 8 ≤ ν 1) : J 848 Lc [] σ k n := by
  have hA0 := hA
  obtain ⟨⟨h1, h2⟩, hI, hLs, hp, hM⟩ := hA0
  have hk := hR.1
  have hn := hR.2
  have hcx : ab_cx (some (L, fc)) ac_CA ν := ac_cxF (B := ac_BA) hI.1.1 (by decide) (ac_bd (im := 4088) (cm := 511) (mm := 30660000) (nm := 30720511) hI (by omega) (by omega) (by omega) (by omega) (by omega)) (by omega)
  have r32 := ab_r32 (fc (8 * t + 1))
  have r33 := ab_r32 (fc (8 * t + 2))
  have s0 := ac_sS0
  rw [Bool.and_eq_true] at s0
  by_cases c1 : (fc (8 * t + 1)).toInt < 0
  · exact ac_toW hl hL hJ s0.1 (by decide) IH (ac_cell (fc := fc) (t := t) (L := L) (B := ac_BA) (d := 1) (lo := -2147483648) (hi := -1) hcx h2 (by decide) (by omega) (by omega)) (ab_put_ex _ _ _) ht hA (by omega) (by omega)
  by_cases c2 : 2 < (fc (8 * t + 1)).toInt
  · exact ac_toW hl hL hJ s0.2 (by decide) IH (ac_cell (fc := fc) (t := t) (L := L) (B := ac_BA) (d := 1) (lo := 3) (hi := 2147483647) hcx h2 (by decide) (by omega) (by omega)) (ab_put_ex _ _ _) ht hA (by omega) (by omega)
  have one : ∀ (kk : Nat), kk < 3 → (fc (8 * t + 1)).toInt = (kk : Int) → ac_Rel (ν (8 + kk)) (ν (11 + kk)) → J 848 Lc [] σ k n := by
    intro kk hkk hw hr
    obtain ⟨r1, r2, r3, r4⟩ := hr
    have hv : ((ν (8 + kk)).toNat : Int) = ν (8 + kk) := Int.toNat_of_nonneg r1
    have b1 := ab_set_ok (j := 8 + kk) (q := (ν (8 + kk), ν (8 + kk))) hcx.1 ⟨Int.le_refl _, Int.le_refl _⟩
    have b2 := ab_set_ok (j := 11 + kk) (q := (1, ac_p5 (ν (8 + kk)))) b1 ⟨r3, r4⟩
    have hlen : ((ac_BA.set (8 + kk) (ν (8 + kk), ν (8 + kk))).set (11 + kk) (1, ac_p5 (ν (8 + kk)))).length = 14 := by rw [List.length_set, List.length_set]; rfl
    have hB : ab_cx (some (L, fc)) ((ac_BA.set (8 + kk) (ν (8 + kk), ν (8 + kk))).set (11 + kk) (1, ac_p5 (ν (8 + kk))), [(2, 1, -8)], []) ν := (ab_cx_B hcx ⟨b2, hlen⟩).1
    have c := ac_cell (fc := fc) (t := t) (L := L) (d := 1) (lo := (kk : Int)) (hi := (kk : Int)) hB h2 (by omega) (by omega) (by omega)
    have x1 := ab_put_ex ν ((ac_BA.set (8 + kk) (ν (8 + kk), ν (8 + kk))).set (11 + kk) (1, ac_p5 (ν (8 + kk)))).length (fc (8 * t + 1)).toInt
    have hl2 : (((ac_BA.set (8 + kk) (ν (8 + kk), ν (8 + kk))).set (11 + kk) (1, ac_p5 (ν (8 + kk)))) ++ [((kk : Int), (kk : Int))]).length = 15 := by rw [List.length_append, hlen]; rfl
    by_cases c3 : ν (8 + kk) = 3
    · have hS := List.all_eq_true.mp ac_sS1 kk (List.mem_range.mpr hkk)
      rw [hlen, c3] at c
      rw [hlen] at x1
      exact ac_toW hl hL hJ hS (by show 14 ≤ (((ac_BA.set (8 + kk) ((3 : Int), (3 : Int))).set (11 + kk) (1, ac_p5 3)) ++ [((kk : Int), (kk : Int))]).length; rw [← c3, hl2]; decide) IH c x1 ht hA (by omega) (by omega)
    · have hv3 : (ν (8 + kk)).toNat < 3 := by omega
      have two : ∀ {lo hi : Int}, lo ≤ (fc (8 * t + 2)).toInt → (fc (8 * t + 2)).toInt ≤ hi → ac_segS (ac_sp2 ac_BA kk (ν (8 + kk)).toNat (lo, hi)) = true → J 848 Lc [] σ k n := by
        intro lo hi hlo hhi hS
        have c9 := ac_cell (fc := fc) (t := t) (L := L) (d := 2) (lo := lo) (hi := hi) c ((x1 2 (by omega)).trans h2) (by omega) hlo hhi
        have x2 := ab_put_ex (ab_put ν ((ac_BA.set (8 + kk) (ν (8 + kk), ν (8 + kk))).set (11 + kk) (1, ac_p5 (ν (8 + kk)))).length (fc (8 * t + 1)).toInt) (((ac_BA.set (8 + kk) (ν (8 + kk), ν (8 + kk))).set (11 + kk) (1, ac_p5 (ν (8 + kk)))) ++ [((kk : Int), (kk : Int))]).length (fc (8 * t + 2)).toInt
        unfold ac_sp2 at hS
        rw [hv] at hS
        rw [hl2] at c9 x2
        rw [hlen] at c9 x2
        have x1 := x1
        rw [hlen] at x1
        exact ac_toW hl hL hJ hS (by show 14 ≤ ((((ac_BA.set (8 + kk) (ν (8 + kk), ν (8 + kk))).set (11 + kk) (1, ac_p5 (ν (8 + kk)))) ++ [((kk : Int), (kk : Int))]) ++ [(lo, hi)]).length; rw [List.length_append, hl2]; exact Nat.le_trans (Nat.le_add_right 14 1) (Nat.le_add_right 15 1)) IH c9 (fun j hj => (x2 j (by omega)).trans (x1 j hj)) ht hA (by omega) (by omega)
      by_cases d1 : (fc (8 * t + 2)).toInt < 2
      · exact two (lo := -2147483648) (hi := 1) (by omega) (by omega) (List.all_eq_true.mp (List.all_eq_true.mp ac_sS2 kk (List.mem_range.mpr hkk)) _ (List.mem_range.mpr hv3))
      by_cases d2 : 5 < (fc (8 * t + 2)).toInt
      · exact two (lo := 6) (hi := 2147483647) (by omega) (by omega) (List.all_eq_true.mp (List.all_eq_true.mp ac_sS3 kk (List.mem_range.mpr hkk)) _ (List.mem_range.mpr hv3))
      exact ac_turnS2 hl hL hJ IH hkk hv3 ht hA hR hi hw (by omega) (by omega) hv.symm ⟨r1, r2, r3, r4⟩
  obtain ⟨r1, r2, r3⟩ := hI.2.2
  have c3 : (fc (8 * t + 1)).toInt = 0 ∨ (fc (8 * t + 1)).toInt = 1 ∨ (fc (8 * t + 1)).toInt = 2 := by omega
  rcases c3 with c3 | c3 | c3
  · exact one 0 (by decide) c3 r1
  · exact one 1 (by decide) c3 r2
  · exact one 2 (by decide) c3 r3
def ac_isAl (o : Option mRow) : Bool := match o with
  | some (.aload_n n, a, b, c, d, []) => decide (n = 1) && (Nat.beq a 0 && (Nat.beq b 0 && (Nat.beq c 0 && decide (d = 0))))
  | _ => false
theorem ac_isAl_ok {o : Option mRow} (h : ac_isAl o = true) : o = some (.aload_n 1, 0, 0, 0, 0, []) := by
  unfold ac_isAl at h
  split at h
  · simp only [Bool.and_eq_true, decide_eq_true_eq] at h
    rw [h.1, Nat.eq_of_beq_eq_true h.2.1, Nat.eq_of_beq_eq_true h.2.2.1, Nat.eq_of_beq_eq_true h.2.2.2.1, h.2.2.2.2]
  · cases h
def ac_isPo (o : Option mRow) : Bool := match o with
  | some (.pop, a, b, c, d, []) => Nat.beq a 0 && (Nat.beq b 0 && (Nat.beq c 0 && decide (d = 0)))
  | _ => false
theorem ac_isPo_ok {o : Option mRow} (h : ac_isPo o = true) : o = some (.pop, 0, 0, 0, 0, []) := by
  unfold ac_isPo at h
  split at h
  · simp only [Bool.and_eq_true, decide_eq_true_eq] at h
    rw [Nat.eq_of_beq_eq_true h.1, Nat.eq_of_beq_eq_true h.2.1, Nat.eq_of_beq_eq_true h.2.2.1, h.2.2.2]
  · cases h
theorem ac_row1 : m_at ac_main0.2.1 1486 = some (.aload_n 1, 0, 0, 0, 0, []) := ac_isAl_ok (by decide +kernel)
theorem ac_row3 : m_at ac_main0.2.1 1490 = some (.pop, 0, 0, 0, 0, []) := ac_isPo_ok (by decide +kernel)
/-- the turn of a replay -/
theorem ac_turnR (hl : l.stackTraces = false) (hL : L ≤ 4096) (hJ : ab_cl l ac_main0 (some (L, fc)) ac_Qt J) (hrep : ac_RepOK l) (IH : ac_Hd J L (t + 1)) {ν : ab_N} {Lc : List (Option mV)} {σ : mS} {k n : Nat} (ht : t ≤ 511) (hA : ac_At L t ν Lc σ) (hR : ac_Rm t k n) (hi : ν 2 + 8 ≤ ν 1) : J 1486 Lc [] σ k n := by
  obtain ⟨⟨h1, h2⟩, hI, hLs, hp, hM⟩ := hA
  obtain ⟨hk, hn⟩ := hR
  have hld : m_ld Lc 1 = some (.inr (.inr (some (11, 0)))) := by
    obtain ⟨x, x1, x2⟩ := hLs.2 1 (.inr (.inr (.inl (11, (0, 0), (0, 1))))) rfl
    obtain ⟨r, rfl, g⟩ := ab_Va x2
    cases r with
    | none =>
      have g3 : ν 0 + 1 = 0 := g.2.2
      rw [hI.1.1] at g3
      cases g3
    | some p =>
      obtain ⟨p1, p2⟩ := p
      obtain ⟨-, -, -, g4, g5⟩ := g
      have g4 : p1 = 11 := g4
      have g5 : (p2 : Int) = ν 0 + 0 := g5
      rw [hI.1.1] at g5
      have e2 : p2 = 0 := by omega
      subst g4; subst e2
      exact x1
  have hlen : Lc.length = 8 := hLs.1
  refine hJ 1486 Lc [] σ k n ?_
  unfold m_step
  have hr1 : m_at ac_main0.2.1 1486 = some (.aload_n 1, 0, 0, 0, 0, []) := ac_row1
  rw [hr1]
  show m_s_bare (.aload_n 1, 0, 0, 0, 0, []) 1486 Lc [] (fun pc L st => J pc L st σ k n)
  have hb : m_pure (.aload_n 1, 0, 0, 0, 0, []) 1486 Lc [] = some (1487, Lc, [.inr (.inr (some (11, 0)))]) := by
    show m_nx 1487 Lc (m_lda Lc 1 []) = _
    unfold m_lda
    rw [hld]
    rfl
  unfold m_s_bare
  rw [show m_cond (.aload_n 1, 0, 0, 0, 0, []) [] = none from rfl]
  dsimp only
  rw [hb]
  dsimp only
  refine hJ 1487 Lc _ σ k n ?_
  unfold m_step
  cases hr2 : m_at ac_main0.2.1 1487 with
  | none => exact absurd (congrArg Option.isSome hr2) (by rw [show (m_at ac_main0.2.1 1487).isSome = true by decide +kernel]; decide)
  | some r =>
    obtain ⟨ig, ln, ra, rb, rz, rp⟩ := r
    have hq : (m_at ac_main0.2.1 1487).map (fun r => (r.2.2.1, r.2.2.2.1, m_p r 5)) = some (157, 0, 11) := by decide +kernel
    have hv : (match m_at ac_main0.2.1 1487 with
      | some r => (match r.1 with
        | .invokevirtual _ => true
        | _ => false)
      | none => false) = true := by decide +kernel
    rw [hr2] at hq hv
    dsimp only at hv ⊢
    have hq' : (ra, rb, m_p (ig, ln, ra, rb, rz, rp) 5) = (157, 0, 11) := Option.some.inj hq
    have e1 : ra = 157 := congrArg (fun q => q.1) hq'
    have e2 : rb = 0 := congrArg (fun q => q.2.1) hq'
    have e3 : m_p (ig, ln, ra, rb, rz, rp) 5 = 11 := congrArg (fun q => q.2.2) hq'
    subst e1; subst e2
    cases ig
    case invokevirtual i =>
      dsimp only
      refine ⟨hlen, ?_⟩
      cases hy : m_mt[157]? with
      | none => exact absurd (congrArg Option.isSome hy) (by rw [show (m_mt[157]?).isSome = true by decide +kernel]; decide)
      | some y =>
        have hyr : (m_mt[157]?).map (fun y => (y.2.2.2.2.1.cells, y.2.2.2.2.1.slots)) = some (347, 4031) := by decide +kernel
        rw [hy] at hyr
        have hyr' : (y.2.2.2.2.1.cells, y.2.2.2.2.1.slots) = (347, 4031) := Option.some.inj hyr
        have c1 : y.2.2.2.2.1.cells = 347 := congrArg (fun q => q.1) hyr'
        have c2 : y.2.2.2.2.1.slots = 4031 := congrArg (fun q => q.2) hyr'
        dsimp only
        show m_s_callV (m_ConI l) room_1 _ y (.invokevirtual i, ln, 157, 0, rz, rp) σ [.inr (.inr (some (11, 0)))] k n _
        unfold m_s_callV
        dsimp only [List.drop_zero, List.take_zero]
        refine ⟨e3.symm, rfl, by decide, ⟨by rw [c1]; show k + 347 ≤ 608340; omega, by rw [c2]; show n + 4031 ≤ 7271085; omega⟩, ?_⟩
        rw [e3]
        refine hrep σ ν hp hI.1.1 hM _ (fun v σ' g1 g2 => ?_)
        show J 1490 Lc [.inl v] σ' (k + y.2.2.2.2.1.cells) (n + y.2.2.2.2.1.slots)
        rw [c1, c2]
        refine hJ 1490 Lc _ σ' _ _ ?_
        unfold m_step
        have hr3 : m_at ac_main0.2.1 1490 = some (.pop, 0, 0, 0, 0, []) := ac_row3
        rw [hr3]
        show m_s_bare (.pop, 0, 0, 0, 0, []) 1490 Lc [.inl v] (fun pc L st => J pc L st σ' (k + 347) (n + 4031))
        unfold m_s_bare
        rw [show m_cond (.pop, 0, 0, 0, 0, []) [.inl v] = none from rfl]
        dsimp only
        rw [show m_pure (.pop, 0, 0, 0, 0, []) 1490 Lc [.inl v] = some (1491, Lc, []) from rfl]
        dsimp only
        exact ac_turnW hl hL hJ ac_sR IH ht ⟨⟨h1, h2⟩, hI, hLs, g1, Or.inr g2⟩ (by omega) (by omega) hi
    all_goals cases hv
theorem ac_tgB : ac_tgs.all (fun p => ac_AB.any (fun q => Nat.beq q.1 p) || (ac_Wh.any (Nat.beq p) || (Nat.beq p 848 || Nat.beq p 1486))) = true := by decide +kernel
theorem ac_turn (hl : l.stackTraces = false) (hL : L ≤ 4096) (hJ : ab_cl l ac_main0 (some (L, fc)) ac_Qt J) (hrep : ac_RepOK l) (IH : ac_Hd J L (t + 1)) {p : Nat} (hpt : p ∈ ac_tgs) {ν : ab_N} {Lc : List (Option mV)} {σ : mS} {k n : Nat} (ht : t ≤ 511) (hA : ac_At L t ν Lc σ) (hR : ac_Rm t k n) (hi : ν 2 + 8 ≤ ν 1) : J p Lc [] σ k n := by
  have g := List.all_eq_true.mp ac_tgB p hpt
  rcases (Bool.or_eq_true _ _).mp g with g | g
  · obtain ⟨q, q1, q2⟩ := List.any_eq_true.mp g
    have e := Nat.eq_of_beq_eq_true q2
    subst e
    exact ac_turnAB hl hL hJ q1 IH ht hA hR hi
  rcases (Bool.or_eq_true _ _).mp g with g | g
  · obtain ⟨q, q1, q2⟩ := List.any_eq_true.mp g
    have e := Nat.eq_of_beq_eq_true q2
    subst e
    exact ac_turnW hl hL hJ (List.all_eq_true.mp ac_sW p q1) IH ht hA (by have := hR.1; omega) (by have := hR.2; omega) hi
  rcases (Bool.or_eq_true _ _).mp g with g | g
  · have e := Nat.eq_of_beq_eq_true g
    subst e
    exact ac_turnS hl hL hJ IH ht hA hR hi
  · have e := Nat.eq_of_beq_eq_true g
    subst e
    exact ac_turnR hl hL hJ hrep IH ht hA hR hi
/-- the loop -/
theorem ac_law (hl : l.stackTraces = false) (hL : L ≤ 4096) (hJ : ab_cl l ac_main0 (some (L, fc)) ac_Qt J) (hrep : ac_RepOK l) : ∀ d t : Nat, t + d = 512 → ac_Hd J L t := by
  intro d
  induction d with
  | zero =>
    intro t ht ν Lc σ k n hA hR
    have hA0 := hA
    obtain ⟨⟨h1, h2⟩, hI, hLs, hp, hM⟩ := hA
    obtain ⟨hk, hn⟩ := hR
    obtain ⟨outs, o1, o2⟩ := ac_allZ_ok ac_s0
    have hcx : ab_cx (some (L, fc)) ac_CH ν := ac_cxB (B := ac_BH) hI.1.1 (by decide) (ac_bd (im := 4096) (cm := 512) (mm := 30720000) (nm := 30720512) hI (by omega) (by omega) (by omega) (by omega) (by omega))
    refine ac_go_ok hl (ac_SPn_ok hl ac_WT) 4000 true 999 ac_mainT [] (ac_TS ac_CH 23) outs o1 _ _ ν σ Lc [] σ ac_Qt (fun pc L st σ a b => J pc L st σ (k + a) (n + b)) (fun _ => rfl) (ac_xlT (C := ac_CH) (by decide) hL h1) (ac_clT hJ (by omega) (by omega)) (fun p hp => by cases hp) hcx hLs trivial hp (fun z hz => ?_)
    have hz := o2 z hz
    cases z with
    | inl e => exact ac_end0 e hz
    | inr S =>
      intro ν' Lc' sc' σ' u hL' hs' hp'
      obtain ⟨a1, a2, a3, a4, a5, a6, a7, a8, a9⟩ := ac_tgt0 hz u hL' hs' hp'
      exfalso
      have e5 := a5.2
      have e9 := a9.2
      omega
  | succ d ih =>
    intro t ht ν Lc σ k n hA hR
    have IH := ih (t + 1) (by omega)
    obtain ⟨⟨h1, h2⟩, hI, hLs, hp, hM⟩ := hA
    obtain ⟨hk, hn⟩ := hR
    obtain ⟨outs, o1, o2⟩ := ac_allZ_ok ac_s0
    have hcx : ab_cx (some (L, fc)) ac_CH ν := ac_cxB (B := ac_BH) hI.1.1 (by decide) (ac_bd (im := 4096) (cm := 512) (mm := 30720000) (nm := 30720512) hI (by omega) (by omega) (by omega) (by omega) (by omega))
    refine ac_go_ok hl (ac_SPn_ok hl ac_WT) 4000 true 999 ac_mainT [] (ac_TS ac_CH 23) outs o1 _ _ ν σ Lc [] σ ac_Qt (fun pc L st σ a b => J pc L st σ (k + a) (n + b)) (fun _ => rfl) (ac_xlT (C := ac_CH) (by decide) hL h1) (ac_clT hJ (by omega) (by omega)) (fun p hp => by cases hp) hcx hLs trivial hp (fun z hz => ?_)
    have hz := o2 z hz
    cases z with
    | inl e => exact ac_end0 e hz
    | inr S =>
      intro ν' Lc' sc' σ' u hL' hs' hp'
      obtain ⟨a1, a2, a3, a4, a5, a6, a7, a8, a9⟩ := ac_tgt0 hz u hL' hs' hp'
      rw [a2, a3, a4]
      exact ac_turn hl hL hJ hrep IH a1 (by omega) ⟨⟨a5.1.trans h1, a5.2.trans h2⟩, a6 _ _ _ hI, a7, a8, hM.fr a8.1 hp'.2.1⟩ ⟨by omega, by omega⟩ a9.1
end ACM
