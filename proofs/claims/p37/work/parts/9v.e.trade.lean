/-! sums of money and of positions; a trade -/
/-- the money of all -/
def sm (σ : mS) : Int64 := (m_l σ 6 0 2 + m_l σ 6 0 4) + ((m_l σ 6 1 2 + m_l σ 6 1 3) + m_l σ 6 1 4) + ((m_l σ 6 2 2 + m_l σ 6 2 3) + m_l σ 6 2 4) + ((m_l σ 6 3 2 + m_l σ 6 3 3) + m_l σ 6 3 4) + ((m_l σ 6 4 2 + m_l σ 6 4 3) + m_l σ 6 4 4) + ((m_l σ 6 5 2 + m_l σ 6 5 3) + m_l σ 6 5 4)
/-- the positions of all in one instrument -/
def ps (σ : mS) (j : Nat) : Int64 := m_l σ 14 0 j + m_l σ 14 1 j + m_l σ 14 2 j + m_l σ 14 3 j + m_l σ 14 4 j + m_l σ 14 5 j
theorem sm_of {σ σ' : mS} (h : ∀ i k, k = 2 ∨ k = 3 ∨ k = 4 → m_l σ' 6 i k = m_l σ 6 i k) : sm σ' = sm σ := by
  unfold sm
  rw [h 0 2 (by omega), h 0 4 (by omega), h 1 2 (by omega), h 1 3 (by omega), h 1 4 (by omega), h 2 2 (by omega), h 2 3 (by omega), h 2 4 (by omega), h 3 2 (by omega), h 3 3 (by omega), h 3 4 (by omega), h 4 2 (by omega), h 4 3 (by omega), h 4 4 (by omega), h 5 2 (by omega), h 5 3 (by omega), h 5 4 (by omega)]
theorem ps_of {σ σ' : mS} {j : Nat} (h : ∀ i, m_l σ' 14 i j = m_l σ 14 i j) : ps σ' j = ps σ j := by
  unfold ps
  rw [h 0, h 1, h 2, h 3, h 4, h 5]
theorem sm_fw {L : Nat → Nat → Bool} {σ σ' : mS} (F : fw_e L σ σ') (h : (fwh L 6 2 && (fwh L 6 3 && fwh L 6 4)) = true) : sm σ' = sm σ := by
  simp only [Bool.and_eq_true] at h
  refine sm_of (fun i k hk => ?_)
  rcases hk with rfl | rfl | rfl
  · exact (F.2 6 i 2 h.1).2.1
  · exact (F.2 6 i 3 h.2.1).2.1
  · exact (F.2 6 i 4 h.2.2).2.1
theorem ps_fw {L : Nat → Nat → Bool} {σ σ' : mS} {j : Nat} (F : fw_e L σ σ') (h : fwh L 14 0 = true) : ps σ' j = ps σ j := ps_of (fun i => (F.2 14 i j (by
  have e : fwh L 14 j = fwh L 14 0 := by unfold fwh; rw [if_neg (by decide), if_neg (by decide)]
  rw [e]; exact h)).2.1)
theorem sm_ne {σ : mS} {c i k : Nat} {v : mV} (h : c ≠ 6 ∨ (k ≠ 2 ∧ k ≠ 3 ∧ k ≠ 4)) : sm (m_set σ c i k v) = sm σ := by
  refine sm_of (fun i' k' hk => ?_)
  rcases v with v | v | v
  · rfl
  · rw [ml_sl, if_neg (fun z => by omega)]
  · rfl
theorem ps_ne {σ : mS} {c i k j : Nat} {v : mV} (h : c ≠ 14) : ps (m_set σ c i k v) j = ps σ j := by
  refine ps_of (fun i' => ?_)
  rcases v with v | v | v
  · rfl
  · rw [ml_sl, if_neg (fun z => h z.1.symm)]
  · rfl
theorem sm_set {σ : mS} {i k : Nat} {d : Int64} (hi : i < 6) (hk : k = 2 ∨ k = 4 ∨ (k = 3 ∧ 1 ≤ i)) : sm (m_set σ 6 i k (.inr (.inl (m_l σ 6 i k + d)))) = sm σ + d := by
  have c : i = 0 ∨ i = 1 ∨ i = 2 ∨ i = 3 ∨ i = 4 ∨ i = 5 := by omega
  unfold sm
  simp only [ml_sl, true_and]
  rcases c with rfl | rfl | rfl | rfl | rfl | rfl <;> rcases hk with rfl | rfl | ⟨rfl, hk⟩ <;> first | omega | (simp; grind)
theorem ps_set {σ : mS} {i k j : Nat} {d : Int64} (hi : i < 6) : ps (m_set σ 14 i k (.inr (.inl (m_l σ 14 i k + d)))) j = if j = k then ps σ j + d else ps σ j := by
  have c : i = 0 ∨ i = 1 ∨ i = 2 ∨ i = 3 ∨ i = 4 ∨ i = 5 := by omega
  unfold ps
  simp only [ml_sl, true_and]
  by_cases e : j = k
  · subst e
    rcases c with rfl | rfl | rfl | rfl | rfl | rfl <;> (simp; grind)
  · rcases c with rfl | rfl | rfl | rfl | rfl | rfl <;> simp [e]
theorem mr_p6 {σ : mS} (hs : HS σ) {m : Nat} (hm : m < 6) : m_r σ 6 m 1 = some (14, m) := by
  have e : (.inr (.inr (m_r σ 6 m 1)) : mV) = .inr (.inr (some (14, m))) := HS_p6 hs m hm
  exact Sum.inr.inj (Sum.inr.inj e)
theorem t91 {σ σ' : mS} {m : Nat} {x1 : Int32} {x2 x3 : Int64} (hs : HS σ) (hm : m < 6) (hx : 0 ≤ x1.toInt ∧ x1.toInt < 3) (h : P91 σ m x1 x2 x3 σ') : σ' = m_set (m_set σ 14 m x1.toNatClampNeg (.inr (.inl (m_l σ 14 m x1.toNatClampNeg + x2)))) 6 m 2 (.inr (.inl (m_l σ 6 m 2 + x3))) := by
  have e := mr_p6 hs hm
  have l := HS_ln14 hs hm
  rcases h with ⟨h1, _⟩ | ⟨_, ci, i, h2, h⟩
  · omega
  · rw [e] at h2
    cases h2
    have e3 : (Int32.ofNat (σ.2.1 14 m)).toInt = 3 := by rw [l]; decide
    rcases h with ⟨h3, _⟩ | ⟨_, i5, h5, _, σ9, rfl, _, σ12, rfl, rfl⟩
    · omega
    · rw [e] at h5
      cases h5
      rfl
theorem t91_s {σ σ' : mS} {m : Nat} {x1 : Int32} {x2 x3 : Int64} (hs : HS σ) (hm : m < 6) (hx : 0 ≤ x1.toInt ∧ x1.toInt < 3) (h : P91 σ m x1 x2 x3 σ') : sm σ' = sm σ + x3 ∧ ∀ j, ps σ' j = if j = x1.toNatClampNeg then ps σ j + x2 else ps σ j := by
  rw [t91 hs hm hx h]
  refine ⟨?_, fun j => ?_⟩
  · have e : m_l σ 6 m 2 = m_l (m_set σ 14 m x1.toNatClampNeg (.inr (.inl (m_l σ 14 m x1.toNatClampNeg + x2)))) 6 m 2 := by
      rw [ml_sl, if_neg (fun z => by cases z.1)]
    rw [e, sm_set hm (Or.inl rfl), sm_ne (Or.inl (by decide))]
  · rw [ps_ne (by decide), ps_set hm]
theorem n64 {x : Int32} (h : 0 ≤ x.toInt) : (-x).toInt64 = -(x.toInt64) := by
  apply Int64.toInt_inj.mp
  have hb := i_b x
  rw [Int32.toInt_toInt64, Int64.toInt_neg, Int32.toInt_toInt64, i_neg (by omega)]
  rw [Int.bmod_def]
  split <;> omega
abbrev ti (σ : mS) (t k : Nat) : Int := (m_i σ 10 t k).toInt
/-- a trade that was made -/
def tOK (σ : mS) (t : Nat) : Prop := (0 ≤ ti σ t 0 ∧ ti σ t 0 < 3) ∧ (1 ≤ ti σ t 1 ∧ ti σ t 1 ≤ 9999) ∧ (1 ≤ ti σ t 2 ∧ ti σ t 2 ≤ 1000 * ti σ t 6) ∧ (0 ≤ ti σ t 3 ∧ ti σ t 3 < 5) ∧ (0 ≤ ti σ t 4 ∧ ti σ t 4 < 5) ∧ ti σ t 3 ≠ ti σ t 4 ∧ 1 ≤ ti σ t 6 ∧ (∃ r : Int, 1 ≤ r ∧ ∀ i : Nat, ti σ t 0 = i → pv σ i 6 = r * ti σ t 6) ∧ (ti σ t 9 = 0 ∨ ti σ t 9 = 1)
theorem tOK_of {σ σ' : mS} {t : Nat} (h : tOK σ t) (he : ∀ k, k ≤ 6 ∨ k = 9 → m_i σ' 10 t k = m_i σ 10 t k) (hf : ∀ i, m_i σ' 8 i 6 = m_i σ 8 i 6) : tOK σ' t := by
  unfold tOK ti pv at h ⊢
  rw [he 0 (by omega), he 1 (by omega), he 2 (by omega), he 3 (by omega), he 4 (by omega), he 6 (by omega), he 9 (by omega)]
  simp only [hf]
  exact h
/-- a paper's number -/
theorem pn {σ : mS} (hs : HS σ) {i : Nat} (hi : i < 3) : m_i σ 8 i 0 = Int32.ofNat i := by
  have e : (.inl (m_i σ 8 i 0) : mV) = .inl (Int32.ofNat i) := HS_n8 hs i hi
  exact Sum.inl.inj e
theorem p22 {σ : mS} {x : Int32} {w : mR} (h : P22 σ x w) (hx : 0 ≤ x.toInt ∧ x.toInt < 5) : w = some (6, x.toNatClampNeg + 1) := by
  rcases h with ⟨h1, _⟩ | ⟨_, ⟨_, _, e⟩ | ⟨h2, _⟩⟩
  · omega
  · exact e
  · omega
/-- the last of a trade: who gets and pays what -/
theorem j203 {τ σ' : mS} {ip b s t : Nat} {u2 u3 : Int32} {u10 t0 : Int64} (hs : HS τ) (hip : ip < 3) (hb : b < 6) (hsm : s < 6) (h3 : 0 ≤ u3.toInt) (h : J32_203 (some (8, ip)) u2 u3 (some (6, b)) (some (6, s)) (some (10, t)) u10 t0 (some (10, t)) τ σ') : sm σ' = sm τ ∧ (∀ j, ps σ' j = ps τ j) ∧ m_i σ' 8 ip 2 = u2 ∧ (∀ i, i ≠ ip → m_i σ' 8 i 2 = m_i τ 8 i 2) ∧ fw_e (wl [(6, 2), (6, 5), (8, 2), (8, 3), (8, 7), (10, 8), (14, 0)]) τ σ' := by
  obtain ⟨i1, e1, σ4, e4, i6, e6, i8, e8, i10, e10, σ13, F13, p13, i16, e16, σ19, F19, p19, σ23, e23, σ26, e26, σ29, e29, σ32, F32, p32, rfl⟩ := h
  cases e1; cases e6; cases e8; cases e10; cases e16
  have F4 : fw_e (wl [(10, 8)]) τ σ4 := by rw [e4]; exact fw_set rfl
  have hs4 := HS_w hs F4 (by decide)
  have n4 : m_i σ4 8 ip 0 = Int32.ofNat ip := pn hs4 hip
  have in3 : (Int32.ofNat ip).toInt = ip := i_ofNat (by omega)
  obtain ⟨a1, a2⟩ := t91_s hs4 hb (by rw [n4, in3]; omega) p13
  have hs13 := HS_w hs4 F13 (by decide)
  have n13 : m_i σ13 8 ip 0 = Int32.ofNat ip := pn hs13 hip
  obtain ⟨b1, b2⟩ := t91_s hs13 hsm (by rw [n13, in3]; omega) p19
  have c1 : sm σ23 = sm σ19 + (m_l σ19 10 t 7 + m_l σ19 10 t 8) := by rw [e23]; exact sm_set (by decide) (Or.inl rfl)
  have c2 : ∀ j, ps σ23 j = ps σ19 j := fun j => by rw [e23]; exact ps_ne (by decide)
  have d1 : sm σ29 = sm σ23 := by rw [e29, sm_ne (Or.inr ⟨by decide, by decide, by decide⟩), e26, sm_ne (Or.inr ⟨by decide, by decide, by decide⟩)]
  have d2 : ∀ j, ps σ29 j = ps σ23 j := fun j => by rw [e29, ps_ne (by decide), e26, ps_ne (by decide)]
  have f7 : m_l σ19 10 t 7 = m_l σ4 10 t 7 := ((F19.2 10 t 7 rfl).2.1).trans (F13.2 10 t 7 rfl).2.1
  have f8 : m_l σ19 10 t 8 = m_l σ13 10 t 8 := (F19.2 10 t 8 rfl).2.1
  have F23 : fw_e (wl [(6, 2)]) σ19 σ23 := by rw [e23]; exact fw_set rfl
  have F26 : fw_e (wl [(6, 5)]) σ23 σ26 := by rw [e26]; exact fw_set rfl
  have F29 : fw_e (wl [(6, 5)]) σ26 σ29 := by rw [e29]; exact fw_set rfl
  refine ⟨?_, fun j => ?_, ?_, ?_, ?_⟩
  · rw [sm_fw F32 rfl, d1, c1, b1, a1, f7, f8, e4, sm_ne (Or.inl (by decide))]
    grind
  · rw [ps_fw F32 rfl, d2, c2, b2, a2, n4, n13, e4, ps_ne (by decide)]
    by_cases e : j = (Int32.ofNat ip).toNatClampNeg
    · rw [if_pos e, if_pos e]
      rw [n64 h3]
      grind
    · rw [if_neg e, if_neg e]
  · obtain ⟨σ2, rfl, σ5, rfl, h⟩ := p32
    rcases h with ⟨_, rfl⟩ | ⟨_, σ9, rfl, rfl⟩
    · rw [mi_si, if_pos ⟨rfl, rfl, rfl⟩]
    · rw [mi_si, if_neg (fun z => by cases z.2.2), mi_si, if_pos ⟨rfl, rfl, rfl⟩]
  · intro i hi
    have a : m_i σ' 8 i 2 = m_i σ29 8 i 2 := by
      obtain ⟨σ2, rfl, σ5, rfl, h⟩ := p32
      rcases h with ⟨_, rfl⟩ | ⟨_, σ9, rfl, rfl⟩
      · rw [mi_si, if_neg (fun z => hi z.2.1), mi_si, if_neg (fun z => hi z.2.1)]
      · rw [mi_si, if_neg (fun z => hi z.2.1), mi_si, if_neg (fun z => hi z.2.1), mi_si, if_neg (fun z => hi z.2.1)]
    rw [a, (F29.2 8 i 2 rfl).1, (F26.2 8 i 2 rfl).1, (F23.2 8 i 2 rfl).1, (F19.2 8 i 2 rfl).1, (F13.2 8 i 2 rfl).1, (F4.2 8 i 2 rfl).1]
  · exact (((((wl_mono F4 (by decide)).tr (wl_mono F13 (by decide))).tr (wl_mono F19 (by decide))).tr (wl_mono F23 (by decide))).tr (wl_mono F26 (by decide))).tr ((wl_mono F29 (by decide)).tr (wl_mono F32 (by decide)))
theorem j185 {τ σ' : mS} {ip b s t : Nat} {u2 u3 u6 : Int32} {u10 u12 u14 t0 : Int64} (hs : HS τ) (hip : ip < 3) (hb : b < 6) (hsm : s < 6) (h3 : 0 ≤ u3.toInt) (h : J32_185 (some (8, ip)) u2 u3 u6 (some (6, b)) (some (6, s)) (some (10, t)) u10 u12 u14 t0 (some (10, t)) τ σ') : sm σ' = sm τ ∧ (∀ j, ps σ' j = ps τ j) ∧ m_i σ' 8 ip 2 = u2 ∧ (∀ i, i ≠ ip → m_i σ' 8 i 2 = m_i τ 8 i 2) ∧ fw_e (wl [(6, 2), (6, 5), (8, 2), (8, 3), (8, 7), (10, 7), (10, 8), (14, 0)]) τ σ' := by
  obtain ⟨i1, e1, σ4, e4, h⟩ := h
  cases e1
  have F4 : fw_e (wl [(10, 7)]) τ σ4 := by rw [e4]; exact fw_set rfl
  have hs4 := HS_w hs F4 (by decide)
  have e1 : sm σ4 = sm τ := by rw [e4]; exact sm_ne (Or.inl (by decide))
  have e2 : ∀ j, ps σ4 j = ps τ j := fun j => by rw [e4]; exact ps_ne (by decide)
  rcases h with ⟨_, h⟩ | ⟨_, h⟩
  · obtain ⟨g1, g2, g3, g4, g5⟩ := j203 hs4 hip hb hsm h3 h
    exact ⟨g1.trans e1, fun j => (g2 j).trans (e2 j), g3, fun i hi => (g4 i hi).trans (F4.2 8 i 2 rfl).1, (wl_mono F4 (by decide)).tr (wl_mono g5 (by decide))⟩
  · obtain ⟨g1, g2, g3, g4, g5⟩ := j203 hs4 hip hb hsm h3 h
    exact ⟨g1.trans e1, fun j => (g2 j).trans (e2 j), g3, fun i hi => (g4 i hi).trans (F4.2 8 i 2 rfl).1, (wl_mono F4 (by decide)).tr (wl_mono g5 (by decide))⟩
theorem j147 {τ σ' : mS} {ip b s t : Nat} {u2 u3 u6 : Int32} {u10 t1 : Int64} {r : mR} (hs : HS τ) (hip : ip < 3) (hb : b < 6) (hsm : s < 6) (h3 : 0 ≤ u3.toInt) (h : J32_147 (some (8, ip)) u2 u3 u6 (some (6, b)) (some (6, s)) (some (10, t)) u10 r t1 τ σ') : sm σ' = sm τ ∧ (∀ j, ps σ' j = ps τ j) ∧ m_i σ' 8 ip 2 = u2 ∧ (∀ i, i ≠ ip → m_i σ' 8 i 2 = m_i τ 8 i 2) ∧ fw_e (wl [(6, 2), (6, 5), (8, 2), (8, 3), (8, 7), (10, 7), (10, 8), (14, 0)]) τ σ' := by
  obtain ⟨i1, e1, v3, _, n8, _, n11, _, ⟨_, h⟩ | ⟨_, h⟩⟩ := h
  · exact j185 hs hip hb hsm h3 h
  · exact j185 hs hip hb hsm h3 h
/-- a trade: none is made where there is no room; else one more, and no money and no position from nowhere -/
theorem ts_s {σ σ' : mS} (h : TS σ σ') (hT : 0 ≤ (m_i σ 2 0 5).toInt) : σ' = σ ∨ ((m_i σ 2 0 5).toInt < 200 ∧ (m_i σ' 2 0 5).toInt = (m_i σ 2 0 5).toInt + 1 ∧ (∀ t k, t ≠ (m_i σ 2 0 5).toNatClampNeg → k ≤ 6 ∨ k = 9 → m_i σ' 10 t k = m_i σ 10 t k) ∧ (tOK σ' (m_i σ 2 0 5).toNatClampNeg ∧ ti σ' (m_i σ 2 0 5).toNatClampNeg 9 = 0) ∧ sm σ' = sm σ ∧ (∀ j, ps σ' j = ps σ j) ∧ (∀ i, m_i σ' 8 i 2 = m_i σ 8 i 2 ∨ (1 ≤ pv σ' i 2 ∧ pv σ' i 2 ≤ 9999)) ∧ ∀ i, m_i σ' 8 i 6 = m_i σ 8 i 6) := by
  obtain ⟨ip, x2, x3, x4, x5, x6, hs, hip, h2, h3, h4, h5, hne, _, F, v1, p1, v5, p5, h⟩ := h
  rw [p22 p1 h4, p22 p5 h5] at h
  rcases h with ⟨z, _⟩ | ⟨q10, e10, ⟨z, _⟩ | ⟨q14, e14, ⟨z, _⟩ | ⟨_, ⟨hl, _, h⟩ | ⟨_, h⟩⟩⟩⟩
  · cases z
  · cases z
  · omega
  · refine Or.inr ⟨hl, ?_⟩
    obtain ⟨σ21, e21, i23, e23, σ26, e26, σ29, e29, σ32, e32, σ35, e35, σ38, e38, σ41, e41, σ44, e44, σ47, e47, h⟩ := h
    cases e10; cases e14; cases e23
    have tn := i_nat hT
    generalize hm : m_i σ 2 0 5 = T at *
    have n4 := i_nat h4.1
    have n5 := i_nat h5.1
    have F47 : fw_e (wl [(2, 5), (10, 0), (10, 1), (10, 2), (10, 3), (10, 4), (10, 5), (10, 6), (10, 9)]) σ σ47 := by
      rw [e47, e44, e41, e38, e35, e32, e29, e26, e21]
      exact (((((((fw_e.tr (fw_set rfl) (fw_set rfl)).tr (fw_set rfl)).tr (fw_set rfl)).tr (fw_set rfl)).tr (fw_set rfl)).tr (fw_set rfl)).tr (fw_set rfl)).tr (fw_set rfl)
    have hs47 := HS_w hs F47 (by decide)
    have c : ∀ t k, m_i σ47 10 t k = if t = T.toNatClampNeg then (if k = 9 then Int32.ofInt 0 else if k = 6 then m_i σ 8 ip 6 else if k = 5 then m_i σ 2 0 7 else if k = 4 then x5 else if k = 3 then x4 else if k = 2 then x3 else if k = 1 then x2 else if k = 0 then m_i σ 8 ip 0 else m_i σ 10 t k) else m_i σ 10 t k := fun t k => by
      rw [e47, e44, e41, e38, e35, e32, e29, e26, e21]
      simp only [mi_si, true_and]
      grind
    have cT : (m_i σ47 2 0 5).toInt = T.toInt + 1 := by
      have : m_i σ47 2 0 5 = T + Int32.ofInt 1 := by
        rw [e47, e44, e41, e38, e35, e32, e29, e26, e21]
        simp [mi_si]
      rw [this]
      exact i_inc hT (by omega)
    have fin : sm σ' = sm σ47 ∧ (∀ j, ps σ' j = ps σ47 j) ∧ m_i σ' 8 ip 2 = x2 ∧ (∀ i, i ≠ ip → m_i σ' 8 i 2 = m_i σ47 8 i 2) ∧ fw_e (wl [(6, 2), (6, 5), (8, 2), (8, 3), (8, 7), (10, 7), (10, 8), (14, 0)]) σ47 σ' := by
      obtain ⟨n49, _, ⟨_, h⟩ | ⟨_, h⟩⟩ := h
      · exact j147 hs47 hip (by omega) (by omega) (by omega) h
      · exact j147 hs47 hip (by omega) (by omega) (by omega) h
    clear h
    obtain ⟨g1, g2, g3, g4, g5⟩ := fin
    have k10 : ∀ t k, k ≤ 6 ∨ k = 9 → m_i σ' 10 t k = m_i σ47 10 t k := by
      intro t k hk
      have : k = 0 ∨ k = 1 ∨ k = 2 ∨ k = 3 ∨ k = 4 ∨ k = 5 ∨ k = 6 ∨ k = 9 := by omega
      rcases this with rfl | rfl | rfl | rfl | rfl | rfl | rfl | rfl <;> exact (g5.2 10 t _ rfl).1
    have f6 : ∀ i, m_i σ' 8 i 6 = m_i σ 8 i 6 := fun i => (g5.2 8 i 6 rfl).1.trans (F47.2 8 i 6 rfl).1
    have num := pn hs hip
    have in3 : (Int32.ofNat ip).toInt = ip := i_ofNat (by omega)
    refine ⟨((congrArg Int32.toInt (g5.2 2 0 5 rfl).1).trans cT), fun t k ht hk => ?_, ⟨?_, ?_⟩, g1.trans (sm_fw F47 rfl), fun j => (g2 j).trans (ps_fw F47 rfl), fun i => ?_, f6⟩
    · rw [k10 t k hk, c, if_neg ht]
    · have v0 : ti σ' T.toNatClampNeg 0 = ip := by show (m_i σ' 10 T.toNatClampNeg 0).toInt = _; rw [k10 _ _ (by omega), c, if_pos rfl]; simp only [num]; exact in3
      have v1 : ti σ' T.toNatClampNeg 1 = x2.toInt := by show (m_i σ' 10 T.toNatClampNeg 1).toInt = _; rw [k10 _ _ (by omega), c, if_pos rfl]; rfl
      have v2 : ti σ' T.toNatClampNeg 2 = x3.toInt := by show (m_i σ' 10 T.toNatClampNeg 2).toInt = _; rw [k10 _ _ (by omega), c, if_pos rfl]; rfl
      have v3 : ti σ' T.toNatClampNeg 3 = x4.toInt := by show (m_i σ' 10 T.toNatClampNeg 3).toInt = _; rw [k10 _ _ (by omega), c, if_pos rfl]; rfl
      have v4 : ti σ' T.toNatClampNeg 4 = x5.toInt := by show (m_i σ' 10 T.toNatClampNeg 4).toInt = _; rw [k10 _ _ (by omega), c, if_pos rfl]; rfl
      have v6 : ti σ' T.toNatClampNeg 6 = pv σ ip 6 := by show (m_i σ' 10 T.toNatClampNeg 6).toInt = _; rw [k10 _ _ (by omega), c, if_pos rfl]; rfl
      have v9 : ti σ' T.toNatClampNeg 9 = 0 := by show (m_i σ' 10 T.toNatClampNeg 9).toInt = _; rw [k10 _ _ (by omega), c, if_pos rfl, if_pos rfl]; exact i_0
      unfold tOK
      rw [v0, v1, v2, v3, v4, v6, v9]
      refine ⟨by omega, h2, h3, h4, h5, hne, by omega, ⟨1, by omega, fun i hi => ?_⟩, Or.inl rfl⟩
      have : i = ip := by omega
      rw [this]
      show (m_i σ' 8 ip 6).toInt = 1 * (m_i σ 8 ip 6).toInt
      rw [f6]
      omega
    · show (m_i σ' 10 T.toNatClampNeg 9).toInt = _
      rw [k10 _ _ (by omega), c, if_pos rfl, if_pos rfl]; exact i_0
    · by_cases e : i = ip
      · subst e
        refine Or.inr ?_
        show 1 ≤ (m_i σ' 8 i 2).toInt ∧ (m_i σ' 8 i 2).toInt ≤ 9999
        rw [g3]
        exact h2
      · exact Or.inl ((g4 i e).trans (F47.2 8 i 2 rfl).1)
  · exact Or.inl h
