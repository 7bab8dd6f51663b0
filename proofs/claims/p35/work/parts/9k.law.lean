/-! what is held at the law's turns -/
def lw_WB : List ab_G := [(3, 0, 0, 0, 0, (2, 13, 4, 4, 0, 1)), (3, 0, 0, 1, 1, (2, 13, 5, 5, 0, 1)), (3, 0, 0, 2, 2, (2, 19, 0, 0, 0, 1)), (3, 0, 0, 3, 3, (2, 5, 0, 1, 0, 1)), (3, 0, 0, 4, 4, (2, 5, 0, 1, 0, 1)), (3, 0, 0, 5, 5, (0, 0, (-2147483648), 2147483647, 0, 0)), (5, 0, 3, 0, 0, (2, 13, 6, 13, 0, 1)), (5, 0, 3, 1, 1, (2, 13, 6, 13, 0, 1)), (5, 0, 3, 2, 2, (0, 0, (-2147483648), 2147483647, 0, 0)), (9, 0, 1, 0, 0, (2, 5, 2, 3, 0, 1)), (9, 0, 1, 1, 1, (0, 0, (-2147483648), 2147483647, 0, 0)), (12, 0, 0, 0, 0, (0, 0, (-2147483648), 2147483647, 0, 0)), (12, 0, 0, 1, 1, (2, 14, 6, 6, 0, 1)), (12, 0, 0, 2, 2, (2, 14, 7, 7, 0, 1)), (12, 0, 0, 3, 3, (2, 14, 8, 8, 0, 1)), (12, 0, 0, 4, 4, (1, 0, (-9223372036854775808), 9223372036854775807, 0, 0)), (12, 0, 0, 5, 5, (2, 14, 9, 9, 0, 1)), (12, 0, 0, 6, 6, (2, 14, 10, 10, 0, 1)), (12, 0, 0, 7, 7, (1, 0, (-9223372036854775808), 9223372036854775807, 0, 0)), (12, 0, 0, 8, 8, (2, 13, 14, 14, 0, 1)), (12, 0, 0, 9, 9, (2, 13, 15, 15, 0, 1)), (12, 0, 0, 10, 10, (2, 13, 16, 16, 0, 1)), (12, 0, 0, 11, 11, (2, 14, 11, 11, 0, 1)), (12, 0, 0, 12, 12, (0, 0, (-2147483648), 2147483647, 0, 0)), (12, 0, 0, 13, 13, (2, 13, 17, 17, 0, 1)), (12, 0, 0, 14, 14, (2, 13, 18, 18, 0, 1)), (12, 0, 0, 15, 15, (2, 13, 19, 19, 0, 1)), (12, 0, 0, 16, 16, (2, 13, 20, 20, 0, 1)), (12, 0, 0, 17, 17, (2, 13, 21, 21, 0, 1)), (12, 0, 0, 18, 18, (2, 13, 22, 22, 0, 1)), (12, 0, 0, 19, 19, (2, 15, 0, 0, 0, 1)), (12, 0, 0, 20, 20, (0, 0, (-2147483648), 2147483647, 0, 0)), (12, 0, 0, 21, 21, (0, 0, (-2147483648), 2147483647, 0, 0)), (12, 0, 0, 22, 22, (2, 13, 23, 23, 0, 1)), (12, 0, 0, 23, 23, (2, 13, 24, 24, 0, 1)), (12, 0, 0, 24, 24, (2, 13, 25, 25, 0, 1)), (12, 0, 0, 25, 25, (2, 13, 26, 26, 0, 1)), (12, 0, 0, 26, 26, (2, 14, 12, 12, 0, 1)), (12, 0, 0, 27, 27, (2, 14, 13, 13, 0, 1)), (12, 0, 0, 28, 28, (2, 14, 14, 14, 0, 1)), (12, 0, 0, 29, 29, (2, 13, 27, 27, 0, 1)), (12, 0, 0, 30, 30, (2, 13, 28, 28, 0, 1)), (12, 0, 0, 31, 31, (2, 13, 29, 29, 0, 1)), (12, 0, 0, 32, 32, (2, 13, 30, 30, 0, 1)), (12, 0, 0, 33, 33, (2, 13, 31, 31, 0, 1)), (12, 0, 0, 34, 34, (2, 13, 32, 32, 0, 1)), (12, 0, 0, 35, 35, (0, 0, (-2147483648), 2147483647, 0, 0)), (12, 0, 0, 36, 36, (2, 13, 33, 33, 0, 1)), (12, 0, 0, 37, 37, (2, 14, 15, 15, 0, 1)), (12, 0, 0, 38, 38, (2, 13, 34, 34, 0, 1)), (12, 0, 0, 39, 39, (2, 13, 35, 35, 0, 1)), (12, 0, 0, 40, 40, (2, 13, 36, 36, 0, 1)), (12, 0, 0, 41, 41, (2, 13, 37, 37, 0, 1)), (12, 0, 0, 42, 42, (2, 13, 38, 38, 0, 1)), (12, 0, 0, 43, 43, (2, 14, 16, 16, 0, 1)), (12, 0, 0, 44, 44, (2, 14, 17, 17, 0, 1)), (12, 0, 0, 45, 45, (2, 15, 1, 1, 0, 1)), (12, 0, 0, 46, 46, (0, 0, (-2147483648), 2147483647, 0, 0)), (12, 0, 0, 47, 47, (2, 13, 39, 39, 0, 1)), (12, 0, 0, 48, 48, (2, 14, 18, 18, 0, 1)), (12, 0, 0, 49, 49, (2, 14, 19, 19, 0, 1)), (12, 0, 0, 50, 50, (0, 0, (-2147483648), 2147483647, 0, 0)), (12, 0, 0, 51, 51, (2, 13, 40, 40, 0, 1)), (12, 0, 0, 52, 52, (2, 14, 20, 20, 0, 1)), (12, 0, 0, 53, 53, (2, 14, 21, 21, 0, 1)), (12, 0, 0, 54, 54, (2, 13, 41, 41, 0, 1)), (12, 0, 0, 55, 55, (0, 0, (-2147483648), 2147483647, 0, 0)), (15, 0, 9, 0, 199, (0, 0, 0, 1, 0, 0)), (13, 4, 41, 0, 59999, (0, 0, (-2147483648), 2147483647, 0, 0)), (14, 6, 22, 0, 119999, (1, 0, (-9223372036854775808), 9223372036854775807, 0, 0))]
theorem lw_WBf : lw_WB.all fpB = true := by decide +kernel
theorem lw_WBs : ac_subW lw_WB ac_WT = true := by decide +kernel
theorem lw_WMs : ac_subW WM ac_WT = true := by decide +kernel
def lw_SP : ac_SP := fun j args C H => match lw_mu j args C H with
  | some o => some o
  | none => lw_SPx (ac_SPn (ac_K0, lw_WB)) j args C H
theorem lw_SP_ok {l : Launch} (hl : l.stackTraces = false) {σ0 : mS} : ar_SPok (lw_CC l σ0) (ac_K0, ac_WT) lw_SP := by
  intro j args C H outs hs xs ν σ1 avs σ h ha hp Q hQ
  unfold lw_SP at hs
  cases hm : lw_mu j args C H with
  | some o =>
    rw [hm] at hs
    cases hs
    exact lw_mu_ok hl lw_WMs j args C H outs hm xs ν σ1 avs σ h ha hp Q hQ
  | none =>
    rw [hm] at hs
    exact lw_SPx_ok lw_WBf lw_WBs (ac_SPn_ok hl lw_WB) j args C H outs hs xs ν σ1 avs σ h ha hp Q hQ
/-! the law's turns: what is held at its head, and in the middle of a turn -/
def ac_main0 : mAl := ((⟨RL, "law", "([I)Z"⟩, code, 8, some .boolean, room_1, []), rw_main, false)
def ac_mainT : mAl := ac_zR ac_main0 347 4031
def ac_kT : ac_Kp := (ac_K0, ac_WT)
def ac_LT : List (Option ab_V) := [some (.inr (.inr (.inl (98, (0, 0), (0, 1))))), some (.inr (.inr (.inl (11, (0, 0), (0, 1))))), some (.inr (.inr (.inl (12, (0, 0), (0, 1))))), some (.inr (.inr (.inl (14, (0, 22), (0, 1))))), some (.inl (2, 0)), none, none, none]
def ac_HT : ac_H := (some (3, 0), ac_OT, [])
def ac_TT0 : ac_Ta := (ac_LT, some (3, 0), ac_OT)
def ac_TS (C : ab_C) (pc : Nat) : ac_S := (C, pc, ac_LT, [], ac_HT, 0, 0)
def ac_BH : ab_Bx := [(0, 0), (0, 4096), (0, 4096), (0, 512), (0, 30720000), (0, 30720512), (0, 30720512), (0, 4), (0, 3), (0, 3), (0, 3), (1, 125), (1, 125), (1, 125)]
def ac_BA : ab_Bx := [(0, 0), (0, 4096), (0, 4088), (0, 511), (0, 30660000), (0, 30720511), (0, 30720511), (0, 4), (0, 3), (0, 3), (0, 3), (1, 125), (1, 125), (1, 125)]
def ac_BB : ab_Bx := [(0, 0), (0, 4096), (0, 4088), (0, 512), (0, 30660000), (0, 30720511), (0, 30720511), (0, 4), (0, 3), (0, 3), (0, 3), (1, 125), (1, 125), (1, 125)]
def ac_CH : ab_C := (ac_BH, [], [])
def ac_CA : ab_C := (ac_BA, [(2, 1, -8)], [])
def ac_CB : ab_C := (ac_BB, [(2, 1, -8)], [])
def ac_gT (q : Nat → Nat → Bool) : ac_GT := ar_go lw_gd ac_kT lw_SP ac_LP0 ac_PL q 4000
def ac_cT (q j pc : Nat) : Bool := Nat.beq j 999 && Nat.beq pc q
def ac_rdL (C : ab_C) (O : List ac_O) : List (Nat × Nat × Nat) → Option (List ab_E)
  | [] => some []
  | a :: t => match ac_find C O a.1 (0, (a.2.1 : Int)) (0, (a.2.2 : Int)), ac_rdL C O t with
    | some (.inl e), some r => some (e :: r)
    | _, _ => none
def ac_adr : List (Nat × Nat × Nat) := [(12, 0, 50), (13, 41, 0), (13, 41, 1), (12, 0, 46), (13, 21, 0), (13, 21, 1), (13, 21, 2), (13, 22, 0), (13, 22, 1), (13, 22, 2)]
def ac_esT (S : ac_S) (ie : ab_E) : Option (List ab_E) := match S.2.2.2.2.1.1, ac_rdL S.1 S.2.2.2.2.1.2.1 ac_adr with
  | some c, some l => some ((0, 0) :: (1, 0) :: ie :: c :: l)
  | _, _ => none
def ac_ge (es : List ab_E) (j : Nat) : ab_E := match es[j]? with
  | some e => e
  | none => (0, 0)
def ac_p5 (s : Int) : Int := bif ab_le s 0 then 1 else bif ab_le s 1 then 5 else bif ab_le s 2 then 25 else 125
def ac_okS (C : ab_C) (es : List ab_E) (k : Nat) : Bool := (ab_eE (ac_ge es (8 + k)) (8 + k, 0) && ab_eE (ac_ge es (11 + k)) (11 + k, 0)) || (ab_le (ab_iv C.1 (ac_ge es (8 + k))).2 (ab_iv C.1 (ac_ge es (8 + k))).1 && (ab_le 0 (ab_iv C.1 (ac_ge es (8 + k))).1 && (ab_le (ab_iv C.1 (ac_ge es (8 + k))).1 3 && (ab_le 1 (ab_iv C.1 (ac_ge es (11 + k))).1 && ab_le (ab_iv C.1 (ac_ge es (11 + k))).2 (ac_p5 (ab_iv C.1 (ac_ge es (8 + k))).1)))))
def ac_okN (C : ab_C) (es : List ab_E) (j : Nat) : Bool := ab_le 0 (ab_iv C.1 (ac_ge es j)).1 && (ab_leq C (ac_ge es j) (j, 1) || ab_leq C (ac_ge es j) (4, 0))
def ac_okE (C : ab_C) (es : List ab_E) (dc dm : Int) : Bool := ab_leq C (ac_ge es 3) (3, dc) && (ab_leq C (ac_ge es 4) (4, dm) && (ab_le 0 (ab_iv C.1 (ac_ge es 4)).1 && (ac_okN C es 5 && (ac_okN C es 6 && (ab_le 0 (ab_iv C.1 (ac_ge es 7)).1 && (ab_le (ab_iv C.1 (ac_ge es 7)).2 4 && (ac_okS C es 0 && (ac_okS C es 1 && ac_okS C es 2))))))))
def ac_okT (pc : Nat) (ie : ab_E) (dc dm : Int) (z : ac_Z) : Bool := match z with
  | .inl _ => false
  | .inr S => Nat.beq S.2.1 pc && (match ac_esT S ie with
    | none => false
    | some es => ac_can S es ac_TT0 && (ac_okE S.1 es dc dm && (Nat.ble S.2.2.2.2.2.1 347 && Nat.ble S.2.2.2.2.2.2 4031)))
def ac_seg (C : ab_C) (p q : Nat) (ie : ab_E) (dc dm : Int) : Bool := ac_allZ (ac_gT (ac_cT q) true 999 ac_mainT [] (ac_TS C p)) (ac_okT q ie dc dm)
def ac_TSs (C : ab_C) (pc : Nat) (vs : List ab_V) : ac_S := (C, pc, ac_LT, vs, ac_HT, 0, 0)
def ac_segs (C : ab_C) (p : Nat) (vs : List ab_V) (q : Nat) (ie : ab_E) (dc dm : Int) : Bool := ac_allZ (ac_gT (ac_cT q) true 999 ac_mainT [] (ac_TSs C p vs)) (ac_okT q ie dc dm)
def ac_Rel (s f : Int) : Prop := 0 ≤ s ∧ s ≤ 3 ∧ 1 ≤ f ∧ f ≤ ac_p5 s
def ac_Iv (c m n : Int) (ν : ab_N) : Prop := (ν 0 = 0 ∧ 0 ≤ ν 3 ∧ ν 3 ≤ c ∧ 0 ≤ ν 4 ∧ ν 4 ≤ m) ∧ (0 ≤ ν 5 ∧ ν 5 ≤ n ∧ 0 ≤ ν 6 ∧ ν 6 ≤ n ∧ 0 ≤ ν 7 ∧ ν 7 ≤ 4) ∧ ac_Rel (ν 8) (ν 11) ∧ ac_Rel (ν 9) (ν 12) ∧ ac_Rel (ν 10) (ν 13)
theorem ac_p5_le (s : Int) : ac_p5 s ≤ 125 := by
  unfold ac_p5
  cases ab_le s 0 <;> cases ab_le s 1 <;> cases ab_le s 2 <;> decide
section ACL
variable {xs : ab_X} {C : ab_C} {ν ν' : ab_N} {σ9 σ0 σ σ' : mS} {l : Launch} {es : List ab_E} {Lc : List (Option mV)} {sc : List mV} {Q : mX → mS → Prop} {J : Nat → List (Option mV) → List mV → mS → Nat → Nat → Prop}
theorem ac_ge_ok {j : Nat} (hes : es.all (fun e => Nat.blt e.1 C.1.length) = true) (hn : 0 < C.1.length) : (ac_ge es j).1 < C.1.length := by
  unfold ac_ge
  cases hq : es[j]? with
  | none => exact hn
  | some e => exact Nat.blt_eq.mp (List.all_eq_true.mp hes e (List.mem_of_getElem? hq))
theorem ac_nu_ge {j : Nat} (hj : j < es.length) : ac_nu es ν j = ν (ac_ge es j).1 + (ac_ge es j).2 := by
  unfold ac_nu ac_ge
  rw [List.getElem?_eq_getElem hj]
theorem ac_okS_ok {k : Nat} (h : ab_cx xs C ν) (hes : es.all (fun e => Nat.blt e.1 C.1.length) = true) (hl : es.length = 14) (hk : k < 3) (hC : 14 ≤ C.1.length) (hr : ac_Rel (ν (8 + k)) (ν (11 + k))) (ho : ac_okS C es k = true) : ac_Rel (ac_nu es ν (8 + k)) (ac_nu es ν (11 + k)) := by
  rw [ac_nu_ge (by omega), ac_nu_ge (by omega)]
  unfold ac_okS at ho
  rcases (Bool.or_eq_true _ _).mp ho with ho | ho
  · rw [Bool.and_eq_true] at ho
    rw [ab_eE_ok ho.1, ab_eE_ok ho.2]
    show ac_Rel (ν (8 + k) + 0) (ν (11 + k) + 0)
    rw [Int.add_zero, Int.add_zero]
    exact hr
  · simp only [Bool.and_eq_true, ab_le_ok] at ho
    obtain ⟨o1, o2, o3, o4, o5⟩ := ho
    have i1 := ab_iv_ok h.1 (e := ac_ge es (8 + k)) (x := ν (ac_ge es (8 + k)).1 + (ac_ge es (8 + k)).2) ⟨ac_ge_ok hes h.2.1, rfl⟩
    have i2 := ab_iv_ok h.1 (e := ac_ge es (11 + k)) (x := ν (ac_ge es (11 + k)).1 + (ac_ge es (11 + k)).2) ⟨ac_ge_ok hes h.2.1, rfl⟩
    have e1 : ν (ac_ge es (8 + k)).1 + (ac_ge es (8 + k)).2 = (ab_iv C.1 (ac_ge es (8 + k))).1 := by omega
    rw [e1]
    exact ⟨o2, o3, by omega, by omega⟩
theorem ac_okN_ok {j : Nat} {m n : Int} (h : ab_cx xs C ν) (hes : es.all (fun e => Nat.blt e.1 C.1.length) = true) (hl : es.length = 14) (hj : j < 14) (hC : 14 ≤ C.1.length) (h1 : ν j ≤ n) (h2 : ν 4 ≤ m) (hmn : m ≤ n) (ho : ac_okN C es j = true) : 0 ≤ ac_nu es ν j ∧ ac_nu es ν j ≤ n + 1 := by
  rw [ac_nu_ge (by omega)]
  unfold ac_okN at ho
  rw [Bool.and_eq_true, ab_le_ok] at ho
  have i1 : ab_I C.1.length ν (ac_ge es j) (ν (ac_ge es j).1 + (ac_ge es j).2) := ⟨ac_ge_ok hes h.2.1, rfl⟩
  have b := ab_iv_ok h.1 i1
  refine ⟨by omega, ?_⟩
  rcases (Bool.or_eq_true _ _).mp ho.2 with o | o
  · have := ab_leq_ok h i1 (f := (j, 1)) (y := ν j + 1) ⟨by show j < _; omega, rfl⟩ o
    omega
  · have := ab_leq_ok h i1 (f := (4, 0)) (y := ν 4 + 0) ⟨by show 4 < _; omega, rfl⟩ o
    omega
theorem ac_esT_len {S : ac_S} {ie : ab_E} (h : ac_esT S ie = some es) : es.length = 14 ∧ ∃ c t, es = (0, 0) :: (1, 0) :: ie :: c :: t := by
  unfold ac_esT at h
  split at h
  · rename_i c r h1 h2
    cases h
    have key : ∀ {as : List (Nat × Nat × Nat)} {r : List ab_E}, ac_rdL S.1 S.2.2.2.2.1.2.1 as = some r → r.length = as.length := by
      intro as
      induction as with
      | nil => intro r hr; cases hr; rfl
      | cons a t ih =>
        intro r hr
        unfold ac_rdL at hr
        split at hr
        · rename_i e r' g1 g2
          cases hr
          exact congrArg (· + 1) (ih g2)
        · cases hr
    refine ⟨?_, c, r, rfl⟩
    have := key h2
    show r.length + 1 + 1 + 1 + 1 = 14
    rw [this]; rfl
  · cases h
theorem ac_okE_ok {dc dm c m n : Int} (h : ab_cx xs C ν) (hes : es.all (fun e => Nat.blt e.1 C.1.length) = true) (hl : es.length = 14) (hC : 14 ≤ C.1.length) (hI : ac_Iv c m n ν) (hmn : m ≤ n) (h0 : ac_nu es ν 0 = 0) (h3 : 0 ≤ ac_nu es ν 3) (ho : ac_okE C es dc dm = true) : ac_Iv (c + dc) (m + dm) (n + 1) (ac_nu es ν) := by
  obtain ⟨⟨i0, i1, i2, i3, i4⟩, ⟨i5, i6, i7, i8, i9, i10⟩, r1, r2, r3⟩ := hI
  unfold ac_okE at ho
  simp only [Bool.and_eq_true, ab_le_ok] at ho
  obtain ⟨o1, o2, o3, o4, o5, o6, o7, o8, o9, o10⟩ := ho
  have I : ∀ j, ab_I C.1.length ν (ac_ge es j) (ν (ac_ge es j).1 + (ac_ge es j).2) := fun j => ⟨ac_ge_ok hes h.2.1, rfl⟩
  have e3 := ac_nu_ge (ν := ν) (es := es) (j := 3) (by omega)
  have e4 := ac_nu_ge (ν := ν) (es := es) (j := 4) (by omega)
  have e7 := ac_nu_ge (ν := ν) (es := es) (j := 7) (by omega)
  have l3 := ab_leq_ok h (I 3) (f := (3, dc)) (y := ν 3 + dc) ⟨by show 3 < _; omega, rfl⟩ o1
  have l4 := ab_leq_ok h (I 4) (f := (4, dm)) (y := ν 4 + dm) ⟨by show 4 < _; omega, rfl⟩ o2
  have b4 := ab_iv_ok h.1 (I 4)
  have b7 := ab_iv_ok h.1 (I 7)
  have n5 := ac_okN_ok (j := 5) h hes hl (by decide) hC i6 i4 hmn o4
  have n6 := ac_okN_ok (j := 6) h hes hl (by decide) hC i8 i4 hmn o5
  exact ⟨⟨h0, h3, by omega, by omega, by omega⟩, ⟨n5.1, n5.2, n6.1, n6.2, by omega, by omega⟩, ac_okS_ok (k := 0) h hes hl (by decide) hC r1 o8, ac_okS_ok (k := 1) h hes hl (by decide) hC r2 o9, ac_okS_ok (k := 2) h hes hl (by decide) hC r3 o10⟩
theorem ac_hp_cn {kp : ac_Kp} {n : Nat} {e : ab_E} {O : List ac_O} {gh : List (Int × ab_E)} (h : ac_hp kp σ0 n ν (some e, O, gh) σ) : 0 ≤ ν e.1 + e.2 := by
  have h1 : ab_I n ν e (σ.1 1 : Int) := h.2.2.1
  rw [← h1.2]
  exact Int.natCast_nonneg _
theorem ac_Iv.ex {c m n : Int} (h : ac_Iv c m n ν) (g : ab_ex 14 ν ν') : ac_Iv c m n ν' := by
  have e : ∀ j, j < 14 → ν' j = ν j := g
  unfold ac_Iv at h ⊢
  rw [e 0 (by decide), e 3 (by decide), e 4 (by decide), e 5 (by decide), e 6 (by decide), e 7 (by decide), e 8 (by decide), e 9 (by decide), e 10 (by decide), e 11 (by decide), e 12 (by decide), e 13 (by decide)]
  exact h
theorem ac_can_es {S : ac_S} {T : ac_Ta} (hc : ac_can S es T = true) : es.all (fun e => Nat.blt e.1 S.1.1.length) = true := by
  unfold ac_can at hc
  simp only [Bool.and_eq_true] at hc
  exact hc.2.1
/-- a stretch of a turn -/
theorem ac_segL (hl : l.stackTraces = false) {p q : Nat} {ie : ab_E} {dc dm c m n : Int} (hs : ac_seg C p q ie dc dm = true) (hN : 14 ≤ C.1.length) (hie : ie.1 < 14) (hJ : ev_cl lw_G (lw_CC l σ9) 999 ac_mainT xs Q J) (hxl : ab_xl true xs C ν) (h : ab_cx xs C ν) (hL : ab_Ls C.1.length ν ac_LT Lc) (hp : ac_hp ac_kT σ C.1.length ν ac_HT σ) (hI : ac_Iv c m n ν) (hmn : m ≤ n)
    (cont : ∀ ν2 Lc' σ' k n', ac_Iv (c + dc) (m + dm) (n + 1) ν2 → ν2 1 = ν 1 → ν2 2 = ν ie.1 + ie.2 → ab_Ls 14 ν2 ac_LT Lc' → ac_hp ac_kT σ' 14 ν2 ac_HT σ' → ac_fr ac_WT σ σ' → k ≤ 347 → n' ≤ 4031 → J q Lc' [] σ' k n') : J p Lc [] σ 0 0 := by
  obtain ⟨outs, o1, o2⟩ := ac_allZ_ok hs
  refine ar_go_ok (lw_rule hl σ9) (lw_gd_ok ac_kT) (lw_SP_ok hl) 4000 true 999 ac_mainT [] (ac_TS C p) outs o1 xs xs ν σ Lc [] σ Q J (fun _ => rfl) hxl hJ (fun p hp => by cases hp) h hL trivial hp (fun z hz => ?_)
  have hz := o2 z hz
  cases z with
  | inl e => cases hz
  | inr S =>
    intro ν' Lc' sc' σ' u hL' hs' hp'
    have hz : (Nat.beq S.2.1 q && (match ac_esT S ie with
      | none => false
      | some es => ac_can S es ac_TT0 && (ac_okE S.1 es dc dm && (Nat.ble S.2.2.2.2.2.1 347 && Nat.ble S.2.2.2.2.2.2 4031)))) = true := hz
    rw [Bool.and_eq_true] at hz
    obtain ⟨z1, z2⟩ := hz
    cases he : ac_esT S ie with
    | none => rw [he] at z2; cases z2
    | some es =>
      rw [he] at z2
      simp only [Bool.and_eq_true, Nat.ble_eq] at z2
      obtain ⟨z2, z3, z4, z5⟩ := z2
      obtain ⟨b1, b2, b3, b4, -⟩ := ac_can_ok u.1 hL' hs' hp' z2
      obtain ⟨hlen, c0, t0, hes⟩ := ac_esT_len he
      rw [hlen] at b2 b3
      have hC : 14 ≤ S.1.1.length := Nat.le_trans hN u.2.2
      have hI' := hI.ex (ν' := ν') (fun j hj => u.2.1 j (Nat.lt_of_lt_of_le hj hN))
      have h3 := ac_hp_cn b3
      have hIv := ac_okE_ok u.1 (ac_can_es z2) hlen hC hI' hmn b4 (by have : 0 ≤ ac_nu es ν' 3 + 0 := h3; omega) z3
      rw [Nat.eq_of_beq_eq_true z1, b1]
      refine cont (ac_nu es ν') Lc' σ' _ _ hIv ?_ ?_ b2 (ac_reb b3 ac_WT) hp'.2.1 z4 z5
      · rw [hes]
        show ν' 1 + 0 = ν 1
        rw [u.2.1 1 (Nat.lt_of_lt_of_le (by decide) hN), Int.add_zero]
      · rw [hes]
        show ν' ie.1 + ie.2 = ν ie.1 + ie.2
        rw [u.2.1 ie.1 (Nat.lt_of_lt_of_le hie hN)]
/-- the same with something on the stack -/
theorem ac_segsL (hl : l.stackTraces = false) {p q : Nat} {ie : ab_E} {dc dm c m n : Int} {vs : List ab_V} {sv : List mV} (hs : ac_segs C p vs q ie dc dm = true) (hv : ab_Vs C.1.length ν vs sv) (hN : 14 ≤ C.1.length) (hie : ie.1 < 14) (hJ : ev_cl lw_G (lw_CC l σ9) 999 ac_mainT xs Q J) (hxl : ab_xl true xs C ν) (h : ab_cx xs C ν) (hL : ab_Ls C.1.length ν ac_LT Lc) (hp : ac_hp ac_kT σ C.1.length ν ac_HT σ) (hI : ac_Iv c m n ν) (hmn : m ≤ n)
    (cont : ∀ ν2 Lc' σ' k n', ac_Iv (c + dc) (m + dm) (n + 1) ν2 → ν2 1 = ν 1 → ν2 2 = ν ie.1 + ie.2 → ab_Ls 14 ν2 ac_LT Lc' → ac_hp ac_kT σ' 14 ν2 ac_HT σ' → ac_fr ac_WT σ σ' → k ≤ 347 → n' ≤ 4031 → J q Lc' [] σ' k n') : J p Lc sv σ 0 0 := by
  obtain ⟨outs, o1, o2⟩ := ac_allZ_ok hs
  refine ar_go_ok (lw_rule hl σ9) (lw_gd_ok ac_kT) (lw_SP_ok hl) 4000 true 999 ac_mainT [] (ac_TSs C p vs) outs o1 xs xs ν σ Lc sv σ Q J (fun _ => rfl) hxl hJ (fun p hp => by cases hp) h hL hv hp (fun z hz => ?_)
  have hz := o2 z hz
  cases z with
  | inl e => cases hz
  | inr S =>
    intro ν' Lc' sc' σ' u hL' hs' hp'
    have hz : (Nat.beq S.2.1 q && (match ac_esT S ie with
      | none => false
      | some es => ac_can S es ac_TT0 && (ac_okE S.1 es dc dm && (Nat.ble S.2.2.2.2.2.1 347 && Nat.ble S.2.2.2.2.2.2 4031)))) = true := hz
    rw [Bool.and_eq_true] at hz
    obtain ⟨z1, z2⟩ := hz
    cases he : ac_esT S ie with
    | none => rw [he] at z2; cases z2
    | some es =>
      rw [he] at z2
      simp only [Bool.and_eq_true, Nat.ble_eq] at z2
      obtain ⟨z2, z3, z4, z5⟩ := z2
      obtain ⟨b1, b2, b3, b4, -⟩ := ac_can_ok u.1 hL' hs' hp' z2
      obtain ⟨hlen, c0, t0, hes⟩ := ac_esT_len he
      rw [hlen] at b2 b3
      have hC : 14 ≤ S.1.1.length := Nat.le_trans hN u.2.2
      have hI' := hI.ex (ν' := ν') (fun j hj => u.2.1 j (Nat.lt_of_lt_of_le hj hN))
      have h3 := ac_hp_cn b3
      have hIv := ac_okE_ok u.1 (ac_can_es z2) hlen hC hI' hmn b4 (by have : 0 ≤ ac_nu es ν' 3 + 0 := h3; omega) z3
      rw [Nat.eq_of_beq_eq_true z1, b1]
      refine cont (ac_nu es ν') Lc' σ' _ _ hIv ?_ ?_ b2 (ac_reb b3 ac_WT) hp'.2.1 z4 z5
      · rw [hes]
        show ν' 1 + 0 = ν 1
        rw [u.2.1 1 (Nat.lt_of_lt_of_le (by decide) hN), Int.add_zero]
      · rw [hes]
        show ν' ie.1 + ie.2 = ν ie.1 + ie.2
        rw [u.2.1 ie.1 (Nat.lt_of_lt_of_le hie hN)]
end ACL
