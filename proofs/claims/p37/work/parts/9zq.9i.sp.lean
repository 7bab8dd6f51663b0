/-! the face's calls, as the law's analysis takes them -/
def TL : ab_T := (1, 0, (-9223372036854775808), 9223372036854775807, 0, 0)
/-- method, how many ints, what it gives back, what it throws -/
abbrev lw_M : Type := Nat × Nat × Option ab_T × List Nat
def mu_r (t : Option ab_T) (x : mX) : Prop := match x with
  | .inr _ => True
  | .inl none => t = none
  | .inl (some v) => ∃ T, t = some T ∧ ab_Tr T v
def mu_P (q : lw_M) : Prop := ∀ (σ0 σ : mS) (avs : List mV), ac_TrL (mu_Ts q.2.1) avs → ac_KK ac_K0 σ → iv σ0 σ → σ.1 1 ≤ 511 → ∃ x σ', ev_run sm_all q.1 avs σ x σ' ∧ muQ q.2.2.2 σ0 σ x σ' ∧ mu_r q.2.2.1 x
theorem mu_up {j : Nat} {z : mAl} {t : Option ab_T} {ex : List Nat} {avs : List mV} {σ0 σ : mS} (hz : m_alF[j]? = some z) (ht : (z.1.2.2.2.1 = some .long ∧ t = some TL) ∨ (z.1.2.2.2.1 = some .int ∧ t = some T0) ∨ (z.1.2.2.2.1 = none ∧ t = none)) (h : CA j avs σ (muQ ex σ0 σ)) : ∃ x σ', ev_run sm_all j avs σ x σ' ∧ muQ ex σ0 σ x σ' ∧ mu_r t x := by
  obtain ⟨x, σ', r, q⟩ := h
  refine ⟨x, σ', r, q, ?_⟩
  have ty := ev_ty hz r
  cases x with
  | inr b => trivial
  | inl v =>
    rcases ht with ⟨e, rfl⟩ | ⟨e, rfl⟩ | ⟨e, rfl⟩ <;> rw [e] at ty <;> rcases v with _ | y | y | y
    · cases ty
    · rcases ty with ty | ⟨ty, -⟩ <;> cases ty
    · exact ⟨TL, rfl, rfl, (ab_r64 y).1, (ab_r64 y).2⟩
    · cases ty
    · cases ty
    · exact ⟨T0, rfl, T0_i⟩
    · cases ty
    · cases ty
    · rfl
    · rcases ty with ty | ⟨ty, -⟩ <;> cases ty
    · cases ty
    · cases ty
theorem tr_s {n : Nat} {avs : List mV} (h : ac_TrL (List.replicate (n + 1) T0) avs) : ∃ (y : Int32) (t : List mV), avs = .inl y :: t ∧ ac_TrL (List.replicate n T0) t := by
  cases avs with
  | nil => exact h.elim
  | cons x t =>
    obtain ⟨y, rfl, -⟩ := Ti h.1
    exact ⟨y, t, rfl, h.2⟩
theorem tr_z {avs : List mV} (h : ac_TrL (List.replicate 0 T0) avs) : avs = [] := by
  cases avs with
  | nil => rfl
  | cons x t => exact h.elim
theorem tr_h {n : Nat} {avs : List mV} (h : ac_TrL (mu_Ts n) avs) : ∃ t : List mV, avs = rf 11 0 :: t ∧ ac_TrL (List.replicate n T0) t := by
  cases avs with
  | nil => exact h.elim
  | cons x t =>
    obtain rfl := T11_rf h.1
    exact ⟨t, rfl, h.2⟩
theorem mu_P124 : mu_P (124, 2, some TL, [0, 1, 2]) := by
  intro σ0 σ avs hT hK hI h5
  obtain ⟨t0, rfl, hT0⟩ := tr_h (n := 2) hT
  obtain ⟨y1, t1, rfl, hT1⟩ := tr_s (n := 1) hT0
  obtain ⟨y2, t2, rfl, hT2⟩ := tr_s (n := 0) hT1
  obtain rfl := tr_z hT2
  exact mu_up z124s_at (Or.inl ⟨rfl, rfl⟩) (mu_124 hK hI h5)
theorem mu_P125 : mu_P (125, 2, some TL, [0, 1, 2]) := by
  intro σ0 σ avs hT hK hI h5
  obtain ⟨t0, rfl, hT0⟩ := tr_h (n := 2) hT
  obtain ⟨y1, t1, rfl, hT1⟩ := tr_s (n := 1) hT0
  obtain ⟨y2, t2, rfl, hT2⟩ := tr_s (n := 0) hT1
  obtain rfl := tr_z hT2
  exact mu_up z125s_at (Or.inl ⟨rfl, rfl⟩) (mu_125 hK hI h5)
theorem mu_P126 : mu_P (126, 7, some T0, [0, 1, 2]) := by
  intro σ0 σ avs hT hK hI h5
  obtain ⟨t0, rfl, hT0⟩ := tr_h (n := 7) hT
  obtain ⟨y1, t1, rfl, hT1⟩ := tr_s (n := 6) hT0
  obtain ⟨y2, t2, rfl, hT2⟩ := tr_s (n := 5) hT1
  obtain ⟨y3, t3, rfl, hT3⟩ := tr_s (n := 4) hT2
  obtain ⟨y4, t4, rfl, hT4⟩ := tr_s (n := 3) hT3
  obtain ⟨y5, t5, rfl, hT5⟩ := tr_s (n := 2) hT4
  obtain ⟨y6, t6, rfl, hT6⟩ := tr_s (n := 1) hT5
  obtain ⟨y7, t7, rfl, hT7⟩ := tr_s (n := 0) hT6
  obtain rfl := tr_z hT7
  exact mu_up z126s_at (Or.inr (Or.inl ⟨rfl, rfl⟩)) (mu_126 hK hI h5)
theorem mu_P127 : mu_P (127, 6, some T0, [0, 1, 2]) := by
  intro σ0 σ avs hT hK hI h5
  obtain ⟨t0, rfl, hT0⟩ := tr_h (n := 6) hT
  obtain ⟨y1, t1, rfl, hT1⟩ := tr_s (n := 5) hT0
  obtain ⟨y2, t2, rfl, hT2⟩ := tr_s (n := 4) hT1
  obtain ⟨y3, t3, rfl, hT3⟩ := tr_s (n := 3) hT2
  obtain ⟨y4, t4, rfl, hT4⟩ := tr_s (n := 2) hT3
  obtain ⟨y5, t5, rfl, hT5⟩ := tr_s (n := 1) hT4
  obtain ⟨y6, t6, rfl, hT6⟩ := tr_s (n := 0) hT5
  obtain rfl := tr_z hT6
  exact mu_up z127s_at (Or.inr (Or.inl ⟨rfl, rfl⟩)) (mu_127 hK hI h5)
theorem mu_P128 : mu_P (128, 2, none, [0, 1, 2]) := by
  intro σ0 σ avs hT hK hI h5
  obtain ⟨t0, rfl, hT0⟩ := tr_h (n := 2) hT
  obtain ⟨y1, t1, rfl, hT1⟩ := tr_s (n := 1) hT0
  obtain ⟨y2, t2, rfl, hT2⟩ := tr_s (n := 0) hT1
  obtain rfl := tr_z hT2
  exact mu_up z128s_at (Or.inr (Or.inr ⟨rfl, rfl⟩)) (mu_128 hK hI h5)
theorem mu_P129 : mu_P (129, 1, some T0, [0, 2]) := by
  intro σ0 σ avs hT hK hI h5
  obtain ⟨t0, rfl, hT0⟩ := tr_h (n := 1) hT
  obtain ⟨y1, t1, rfl, hT1⟩ := tr_s (n := 0) hT0
  obtain rfl := tr_z hT1
  exact mu_up z129s_at (Or.inr (Or.inl ⟨rfl, rfl⟩)) (mu_129 hK hI h5)
theorem mu_P130 : mu_P (130, 5, some T0, [0, 1, 2]) := by
  intro σ0 σ avs hT hK hI h5
  obtain ⟨t0, rfl, hT0⟩ := tr_h (n := 5) hT
  obtain ⟨y1, t1, rfl, hT1⟩ := tr_s (n := 4) hT0
  obtain ⟨y2, t2, rfl, hT2⟩ := tr_s (n := 3) hT1
  obtain ⟨y3, t3, rfl, hT3⟩ := tr_s (n := 2) hT2
  obtain ⟨y4, t4, rfl, hT4⟩ := tr_s (n := 1) hT3
  obtain ⟨y5, t5, rfl, hT5⟩ := tr_s (n := 0) hT4
  obtain rfl := tr_z hT5
  exact mu_up z130s_at (Or.inr (Or.inl ⟨rfl, rfl⟩)) (mu_130 hK hI h5)
theorem mu_P134 : mu_P (134, 2, some T0, [0, 1]) := by
  intro σ0 σ avs hT hK hI h5
  obtain ⟨t0, rfl, hT0⟩ := tr_h (n := 2) hT
  obtain ⟨y1, t1, rfl, hT1⟩ := tr_s (n := 1) hT0
  obtain ⟨y2, t2, rfl, hT2⟩ := tr_s (n := 0) hT1
  obtain rfl := tr_z hT2
  exact mu_up z134s_at (Or.inr (Or.inl ⟨rfl, rfl⟩)) (mu_134 hK hI h5)
theorem mu_P135 : mu_P (135, 1, none, [0, 2]) := by
  intro σ0 σ avs hT hK hI h5
  obtain ⟨t0, rfl, hT0⟩ := tr_h (n := 1) hT
  obtain ⟨y1, t1, rfl, hT1⟩ := tr_s (n := 0) hT0
  obtain rfl := tr_z hT1
  exact mu_up z135s_at (Or.inr (Or.inr ⟨rfl, rfl⟩)) (mu_135 hK hI h5)
theorem mu_P137 : mu_P (137, 1, some T0, [0, 2]) := by
  intro σ0 σ avs hT hK hI h5
  obtain ⟨t0, rfl, hT0⟩ := tr_h (n := 1) hT
  obtain ⟨y1, t1, rfl, hT1⟩ := tr_s (n := 0) hT0
  obtain rfl := tr_z hT1
  exact mu_up z137s_at (Or.inr (Or.inl ⟨rfl, rfl⟩)) (mu_137 hK hI h5)
theorem mu_P138 : mu_P (138, 2, some T0, [0, 1, 2]) := by
  intro σ0 σ avs hT hK hI h5
  obtain ⟨t0, rfl, hT0⟩ := tr_h (n := 2) hT
  obtain ⟨y1, t1, rfl, hT1⟩ := tr_s (n := 1) hT0
  obtain ⟨y2, t2, rfl, hT2⟩ := tr_s (n := 0) hT1
  obtain rfl := tr_z hT2
  exact mu_up z138s_at (Or.inr (Or.inl ⟨rfl, rfl⟩)) (mu_138 hK hI h5)
theorem mu_P139 : mu_P (139, 2, some TL, [0, 1]) := by
  intro σ0 σ avs hT hK hI h5
  obtain ⟨t0, rfl, hT0⟩ := tr_h (n := 2) hT
  obtain ⟨y1, t1, rfl, hT1⟩ := tr_s (n := 1) hT0
  obtain ⟨y2, t2, rfl, hT2⟩ := tr_s (n := 0) hT1
  obtain rfl := tr_z hT2
  exact mu_up z139s_at (Or.inl ⟨rfl, rfl⟩) (mu_139 hK hI h5)
theorem mu_P143 : mu_P (143, 1, none, [0, 2]) := by
  intro σ0 σ avs hT hK hI h5
  obtain ⟨t0, rfl, hT0⟩ := tr_h (n := 1) hT
  obtain ⟨y1, t1, rfl, hT1⟩ := tr_s (n := 0) hT0
  obtain rfl := tr_z hT1
  exact mu_up z143s_at (Or.inr (Or.inr ⟨rfl, rfl⟩)) (mu_143 hK hI h5)
theorem mu_P146 : mu_P (146, 3, some T0, [1, 2]) := by
  intro σ0 σ avs hT hK hI h5
  obtain ⟨t0, rfl, hT0⟩ := tr_h (n := 3) hT
  obtain ⟨y1, t1, rfl, hT1⟩ := tr_s (n := 2) hT0
  obtain ⟨y2, t2, rfl, hT2⟩ := tr_s (n := 1) hT1
  obtain ⟨y3, t3, rfl, hT3⟩ := tr_s (n := 0) hT2
  obtain rfl := tr_z hT3
  exact mu_up z146s_at (Or.inr (Or.inl ⟨rfl, rfl⟩)) (mu_146 hK hI h5)
theorem mu_P150 : mu_P (150, 1, some T0, [1]) := by
  intro σ0 σ avs hT hK hI h5
  obtain ⟨t0, rfl, hT0⟩ := tr_h (n := 1) hT
  obtain ⟨y1, t1, rfl, hT1⟩ := tr_s (n := 0) hT0
  obtain rfl := tr_z hT1
  exact mu_up z150s_at (Or.inr (Or.inl ⟨rfl, rfl⟩)) (mu_150 hK hI h5)
theorem mu_P151 : mu_P (151, 3, some TL, [0, 1, 2]) := by
  intro σ0 σ avs hT hK hI h5
  obtain ⟨t0, rfl, hT0⟩ := tr_h (n := 3) hT
  obtain ⟨y1, t1, rfl, hT1⟩ := tr_s (n := 2) hT0
  obtain ⟨y2, t2, rfl, hT2⟩ := tr_s (n := 1) hT1
  obtain ⟨y3, t3, rfl, hT3⟩ := tr_s (n := 0) hT2
  obtain rfl := tr_z hT3
  exact mu_up z151s_at (Or.inl ⟨rfl, rfl⟩) (mu_151 hK hI h5)
theorem mu_P152 : mu_P (152, 0, some TL, [2]) := by
  intro σ0 σ avs hT hK hI h5
  obtain ⟨t0, rfl, hT0⟩ := tr_h (n := 0) hT
  obtain rfl := tr_z hT0
  exact mu_up z152s_at (Or.inl ⟨rfl, rfl⟩) (mu_152 hK hI h5)
def mu_tab : List lw_M := [(124, 2, some TL, [0, 1, 2]), (125, 2, some TL, [0, 1, 2]), (126, 7, some T0, [0, 1, 2]), (127, 6, some T0, [0, 1, 2]), (128, 2, none, [0, 1, 2]), (129, 1, some T0, [0, 2]), (130, 5, some T0, [0, 1, 2]), (134, 2, some T0, [0, 1]), (135, 1, none, [0, 2]), (137, 1, some T0, [0, 2]), (138, 2, some T0, [0, 1, 2]), (139, 2, some TL, [0, 1]), (143, 1, none, [0, 2]), (146, 3, some T0, [1, 2]), (150, 1, some T0, [1]), (151, 3, some TL, [0, 1, 2]), (152, 0, some TL, [2])]
theorem mu_all : ∀ q ∈ mu_tab, mu_P q := by
  intro q hq
  unfold mu_tab at hq
  rcases List.mem_cons.mp hq with rfl | hq
  · exact mu_P124
  rcases List.mem_cons.mp hq with rfl | hq
  · exact mu_P125
  rcases List.mem_cons.mp hq with rfl | hq
  · exact mu_P126
  rcases List.mem_cons.mp hq with rfl | hq
  · exact mu_P127
  rcases List.mem_cons.mp hq with rfl | hq
  · exact mu_P128
  rcases List.mem_cons.mp hq with rfl | hq
  · exact mu_P129
  rcases List.mem_cons.mp hq with rfl | hq
  · exact mu_P130
  rcases List.mem_cons.mp hq with rfl | hq
  · exact mu_P134
  rcases List.mem_cons.mp hq with rfl | hq
  · exact mu_P135
  rcases List.mem_cons.mp hq with rfl | hq
  · exact mu_P137
  rcases List.mem_cons.mp hq with rfl | hq
  · exact mu_P138
  rcases List.mem_cons.mp hq with rfl | hq
  · exact mu_P139
  rcases List.mem_cons.mp hq with rfl | hq
  · exact mu_P143
  rcases List.mem_cons.mp hq with rfl | hq
  · exact mu_P146
  rcases List.mem_cons.mp hq with rfl | hq
  · exact mu_P150
  rcases List.mem_cons.mp hq with rfl | hq
  · exact mu_P151
  rcases List.mem_cons.mp hq with rfl | hq
  · exact mu_P152
  cases hq
/-- the unknowns behind a call: how many calls there are then -/
def lw_C (C : ab_C) (e : ab_E) : ab_C := ab_asle (ab_fr C 0 512).1 (ab_fr C 0 512).2 (e.1, e.2 + 1)
def lw_H (C : ab_C) (H : ac_H) : ac_H := (some (ab_fr C 0 512).2, (ac_oF C WM H.2.1).filter (fun o => !(Nat.beq o.1 1)), [])
def lw_nr (q : lw_M) (C : ab_C) (e : ab_E) (H : ac_H) : ac_Q := match q.2.2.1 with
  | none => (lw_C C e, .inl none, lw_H C H)
  | some T => ((ab_of (lw_C C e) T).1, .inl (some (ab_of (lw_C C e) T).2), lw_H C H)
def lw_mu : ac_SP := fun j args C H => match mu_tab.find? (fun q => Nat.beq q.1 j) with
  | none => none
  | some q => bif ac_inL C args (mu_Ts q.2.1) then (match H.1 with
    | some e => bif ab_le (ab_iv C.1 e).2 511 then some (lw_nr q C e H :: q.2.2.2.map (fun b => (lw_C C e, .inr b, lw_H C H))) else none
    | none => none) else none
theorem lw_oF_ok {xs : ab_X} {C : ab_C} {ν : ab_N} {σ σ' : mS} {W : List ab_G} {O : List ac_O} (h : ab_cx xs C ν) (hO : ∀ o ∈ O, ac_ov C.1.length ν σ o) (g : ac_fr W σ σ') : ∀ o ∈ (ac_oF C W O).filter (fun o => !(Nat.beq o.1 1)), ac_ov C.1.length ν σ' o := by
  intro o ho
  obtain ⟨ho, hc⟩ := List.mem_filter.mp ho
  have hc : o.1 ≠ 1 := fun z => by rw [z] at hc; cases hc
  obtain ⟨m1, m2⟩ := List.mem_filter.mp ho
  obtain ⟨q1, q2, q3⟩ := hO o m1
  refine ⟨q1, q2, fun i k hi hk => ?_⟩
  rcases g.2.2.2 o.1 i k (fun z => hc z.1) with e | ⟨b, b1, b2, b3⟩
  · rw [e]
    exact q3 i k hi hk
  · have hm : ac_hitW C W o = false := by simpa using m2
    have ht : ac_hitW C W o = true := by
      unfold ac_hitW
      refine List.any_eq_true.mpr ⟨b, b1, ?_⟩
      obtain ⟨f1, f2, f3, f4, f5⟩ := b2
      have i1 := ab_iv_ok h.1 (e := o.2.1) (x := (i : Int)) ⟨q1.1, hi⟩
      have i2 := ab_iv_ok h.1 (e := o.2.2.1) (x := (k : Int)) ⟨q2, hk⟩
      unfold ac_over
      simp only [Bool.and_eq_true, ab_le_ok]
      exact ⟨by rw [f1]; exact Nat.beq_refl _, by omega, by omega, by omega, by omega⟩
    rw [ht] at hm
    cases hm
theorem lw_mu_ok {l : Launch} (hl : l.stackTraces = false) {σ0 : mS} {W : List ab_G} (hW : ac_subW WM W = true) : ar_SPok (lw_CC l σ0) (ac_K0, W) lw_mu := by
  intro j args C H outs hs xs ν σ1 avs σ h ha hp Q hQ hI
  unfold lw_mu at hs
  cases hf : mu_tab.find? (fun q => Nat.beq q.1 j) with
  | none => rw [hf] at hs; cases hs
  | some q =>
  rw [hf] at hs
  dsimp only at hs
  have m1 := List.mem_of_find?_eq_some hf
  have ef := List.find?_some hf
  have ej : q.1 = j := Nat.eq_of_beq_eq_true ef
  subst ej
  cases hb : ac_inL C args (mu_Ts q.2.1) with
  | false => rw [hb] at hs; cases hs
  | true =>
  rw [hb] at hs
  dsimp only [cond_true] at hs
  cases hH : H.1 with
  | none => rw [hH] at hs; cases hs
  | some e =>
  rw [hH] at hs
  dsimp only at hs
  cases hc : ab_le (ab_iv C.1 e).2 511 with
  | false => rw [hc] at hs; cases hs
  | true =>
  rw [hc] at hs
  cases hs
  rw [ab_le_ok] at hc
  have c0 := hp.2.2.1
  rw [hH] at c0
  have c0 : ab_I C.1.length ν e (σ.1 1 : Int) := c0
  have ic := ab_iv_ok h.1 c0
  have h5 : σ.1 1 ≤ 511 := by omega
  obtain ⟨x, σ', r, ⟨k1, k2, k3, k4, k5⟩, tx⟩ := mu_all q m1 σ0 σ avs (ac_inL_ok h ha hb) hp.1 hI h5
  refine ev_run_con hl r ⟨k4, ?_⟩
  obtain ⟨ν1, u1, g1⟩ := ab_fr_ok h (x := (σ'.1 1 : Int)) (lo := 0) (hi := 512) (by omega) (by omega)
  have ge := u1.I c0
  have g2 := ab_asle_ok (f := (e.1, e.2 + 1)) (y := (σ.1 1 : Int) + 1) u1.1 g1 ⟨ge.1, by show (σ.1 1 : Int) + 1 = ν1 e.1 + (e.2 + 1); have := ge.2; omega⟩ (by omega)
  have u2 : ab_up xs C ν (lw_C C e) ν1 := ⟨g2.1, u1.2.1, by show C.1.length ≤ (ab_asle (ab_fr C 0 512).1 (ab_fr C 0 512).2 (e.1, e.2 + 1)).1.length; rw [g2.2]; exact u1.2.2⟩
  have gg : ab_I (lw_C C e).1.length ν1 (ab_fr C 0 512).2 (σ'.1 1 : Int) := ⟨Nat.lt_of_lt_of_eq g1.1 g2.2.symm, g1.2⟩
  have hp2 : ac_hp (ac_K0, W) σ1 (lw_C C e).1.length ν1 (lw_H C H) σ' := ⟨k1, ac_fr_tr hp.2.1 k2 hW, gg, fun o ho => (lw_oF_ok h hp.2.2.2.1 k2 o ho).ex u2.2.1 u2.2.2, fun g hg => by cases hg⟩
  cases x with
  | inr b => exact hQ (lw_C C e, .inr b, lw_H C H) (List.mem_cons_of_mem _ (List.mem_map.mpr ⟨b, k5, rfl⟩)) ν1 (.inr b) σ' u2 rfl hp2
  | inl v =>
    have hm := hQ (lw_nr q C e H) List.mem_cons_self
    unfold lw_nr at hm
    cases v with
    | none =>
      have tx : q.2.2.1 = none := tx
      rw [tx] at hm
      exact hm ν1 (.inl none) σ' u2 trivial hp2
    | some w =>
      obtain ⟨T, t1, t2⟩ := tx
      rw [t1] at hm
      obtain ⟨ν2, u3, g3⟩ := ab_of_ok u2.1 t2
      exact hm ν2 (.inl (some w)) σ' (u2.tr u3) g3 (hp2.ex u3.2.1 u3.2.2)
