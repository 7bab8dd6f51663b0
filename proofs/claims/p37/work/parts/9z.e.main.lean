/-! the law's own loop: what lies between its cuts -/
def T595 (K623 : Int32 → Int32 → Int32 → mS → Prop) (K714 : Int32 → Int32 → Int32 → Int32 → mS → Prop) (u8 : Int32) (u9 : Int32) (u10 : Int32) (u11 : Int32) (τ : mS) (w : mX) (σ' : mS) : Prop := (((39 : Int) ≤ (u9).toInt ∧ K714 (u8) (u9) (u10) (u11) τ) ∨ (¬ ((39 : Int) ≤ (u9).toInt) ∧ ((((u10) - (u10) / (Int32.ofInt 30) * (Int32.ofInt 30)).toInt ≠ (0 : Int) ∧ ∃ n5, n5 = (Int32.ofInt 1) + ((u10) - (u10) / (Int32.ofInt 3) * (Int32.ofInt 3)) ∧ K623 (u8) (u11) (n5) τ) ∨ (¬ (((u10) - (u10) / (Int32.ofInt 30) * (Int32.ofInt 30)).toInt ≠ (0 : Int)) ∧ K623 (u8) (u11) (Int32.ofInt 51) τ))))
set_option maxRecDepth 100000 in
theorem t595 {C : ec_C} (hC : CK C) {N : Nat} {w : mX} {σ' : mS} {K623 : Int32 → Int32 → Int32 → mS → Prop} {K714 : Int32 → Int32 → Int32 → Int32 → mS → Prop} (H623 : ∀ f, f < N → ∀ (u8 : Int32) (u11 : Int32) (u12 : Int32) (y7 : Option mV) (y9 : Option mV) (y10 : Option mV) (y13 : Option mV) (y14 : Option mV) (y15 : Option mV) (y16 : Option mV) (y17 : Option mV) (τ : mS), HL τ → EC C f 18 ab_main 623 [some (rf 98 (0)), some (rf 11 (0)), some (rf 13 (14)), some (rf 13 (15)), some (rf 13 (16)), some (rf 13 (17)), some (rf 14 (6)), y7, some (.inl (u8)), y9, y10, some (.inl (u11)), some (.inl (u12)), y13, y14, y15, y16, y17] [] τ (w, σ') → K623 u8 u11 u12 τ) (H714 : ∀ f, f < N → ∀ (u8 : Int32) (u9 : Int32) (u10 : Int32) (u11 : Int32) (y7 : Option mV) (y12 : Option mV) (y13 : Option mV) (y14 : Option mV) (y15 : Option mV) (y16 : Option mV) (y17 : Option mV) (τ : mS), HL τ → EC C f 18 ab_main 714 [some (rf 98 (0)), some (rf 11 (0)), some (rf 13 (14)), some (rf 13 (15)), some (rf 13 (16)), some (rf 13 (17)), some (rf 14 (6)), y7, some (.inl (u8)), some (.inl (u9)), some (.inl (u10)), some (.inl (u11)), y12, y13, y14, y15, y16, y17] [] τ (w, σ') → K714 u8 u9 u10 u11 τ) : ∀ f, f < N + 1 → ∀ (u8 : Int32) (u9 : Int32) (u10 : Int32) (u11 : Int32) (y7 : Option mV) (y12 : Option mV) (y13 : Option mV) (y14 : Option mV) (y15 : Option mV) (y16 : Option mV) (y17 : Option mV) (τ : mS), HL τ → EC C f 18 ab_main 595 [some (rf 98 (0)), some (rf 11 (0)), some (rf 13 (14)), some (rf 13 (15)), some (rf 13 (16)), some (rf 13 (17)), some (rf 14 (6)), y7, some (.inl (u8)), some (.inl (u9)), some (.inl (u10)), some (.inl (u11)), y12, y13, y14, y15, y16, y17] [] τ (w, σ') → T595 K623 K714 u8 u9 u10 u11 τ w σ' := by
  intro f hf0 u8 u9 u10 u11 y7 y12 y13 y14 y15 y16 y17 τ hsτ h
  have hf : f < N + 1 := hf0
  clear hf0
  unfold T595
  replace h : EC C f 18 ab_main 595 [some (rf 98 (0)), some (rf 11 (0)), some (rf 13 (14)), some (rf 13 (15)), some (rf 13 (16)), some (rf 13 (17)), some (rf 14 (6)), y7, some (.inl (u8)), some (.inl (u9)), some (.inl (u10)), some (.inl (u11)), y12, y13, y14, y15, y16, y17] [] τ (w, σ') := h
  replace h := ec_p h rfl rfl rfl rfl
  obtain ⟨f, g, h⟩ := h
  replace hf := Nat.lt_of_lt_of_le g (Nat.le_of_lt_succ hf)
  clear g
  replace h : EC C f 18 ab_main 597 [some (rf 98 (0)), some (rf 11 (0)), some (rf 13 (14)), some (rf 13 (15)), some (rf 13 (16)), some (rf 13 (17)), some (rf 14 (6)), y7, some (.inl (u8)), some (.inl (u9)), some (.inl (u10)), some (.inl (u11)), y12, y13, y14, y15, y16, y17] [.inl (u9)] τ (w, σ') := h
  replace h := ec_p h rfl rfl rfl rfl
  obtain ⟨f, g, h⟩ := h
  replace hf := Nat.lt_trans g hf
  clear g
  replace h : EC C f 18 ab_main 599 [some (rf 98 (0)), some (rf 11 (0)), some (rf 13 (14)), some (rf 13 (15)), some (rf 13 (16)), some (rf 13 (17)), some (rf 14 (6)), y7, some (.inl (u8)), some (.inl (u9)), some (.inl (u10)), some (.inl (u11)), y12, y13, y14, y15, y16, y17] [.inl (Int32.ofInt 39), .inl (u9)] τ (w, σ') := h
  replace h := ec_c h rfl rfl rfl
  rcases h with ⟨hp1, f, g, h⟩ | ⟨hp1, f, g, h⟩
  · skip
    replace hp1 : (39 : Int) ≤ (u9).toInt := ic_ge.mp hp1
    refine Or.inl ⟨hp1, ?_⟩
    replace hf := Nat.lt_trans g hf
    clear g
    replace h : EC C f 18 ab_main 714 [some (rf 98 (0)), some (rf 11 (0)), some (rf 13 (14)), some (rf 13 (15)), some (rf 13 (16)), some (rf 13 (17)), some (rf 14 (6)), y7, some (.inl (u8)), some (.inl (u9)), some (.inl (u10)), some (.inl (u11)), y12, y13, y14, y15, y16, y17] [] τ (w, σ') := h
    exact H714 f hf (u8) (u9) (u10) (u11) y7 y12 y13 y14 y15 y16 y17 τ hsτ h
  · skip
    replace hp1 : ¬ ((39 : Int) ≤ (u9).toInt) := (not_congr ic_ge).mp hp1
    refine Or.inr ⟨hp1, ?_⟩
    replace hf := Nat.lt_trans g hf
    clear g
    replace h : EC C f 18 ab_main 602 [some (rf 98 (0)), some (rf 11 (0)), some (rf 13 (14)), some (rf 13 (15)), some (rf 13 (16)), some (rf 13 (17)), some (rf 14 (6)), y7, some (.inl (u8)), some (.inl (u9)), some (.inl (u10)), some (.inl (u11)), y12, y13, y14, y15, y16, y17] [] τ (w, σ') := h
    replace h := ec_p h rfl rfl rfl rfl
    obtain ⟨f, g, h⟩ := h
    replace hf := Nat.lt_trans g hf
    clear g
    replace h : EC C f 18 ab_main 604 [some (rf 98 (0)), some (rf 11 (0)), some (rf 13 (14)), some (rf 13 (15)), some (rf 13 (16)), some (rf 13 (17)), some (rf 14 (6)), y7, some (.inl (u8)), some (.inl (u9)), some (.inl (u10)), some (.inl (u11)), y12, y13, y14, y15, y16, y17] [.inl (u10)] τ (w, σ') := h
    replace h := ec_p h rfl rfl rfl rfl
    obtain ⟨f, g, h⟩ := h
    replace hf := Nat.lt_trans g hf
    clear g
    replace h : EC C f 18 ab_main 606 [some (rf 98 (0)), some (rf 11 (0)), some (rf 13 (14)), some (rf 13 (15)), some (rf 13 (16)), some (rf 13 (17)), some (rf 14 (6)), y7, some (.inl (u8)), some (.inl (u9)), some (.inl (u10)), some (.inl (u11)), y12, y13, y14, y15, y16, y17] [.inl (Int32.ofInt 30), .inl (u10)] τ (w, σ') := h
    replace h := ec_irem h rfl
    obtain ⟨hd2, f, g, h⟩ := h
    replace hf := Nat.lt_trans g hf
    clear g
    replace h : EC C f 18 ab_main 607 [some (rf 98 (0)), some (rf 11 (0)), some (rf 13 (14)), some (rf 13 (15)), some (rf 13 (16)), some (rf 13 (17)), some (rf 14 (6)), y7, some (.inl (u8)), some (.inl (u9)), some (.inl (u10)), some (.inl (u11)), y12, y13, y14, y15, y16, y17] [.inl ((u10) - (u10) / (Int32.ofInt 30) * (Int32.ofInt 30))] τ (w, σ') := h
    replace h := ec_c h rfl rfl rfl
    rcases h with ⟨hp3, f, g, h⟩ | ⟨hp3, f, g, h⟩
    · skip
      replace hp3 : ((u10) - (u10) / (Int32.ofInt 30) * (Int32.ofInt 30)).toInt ≠ (0 : Int) := ic_ne.mp hp3
      refine Or.inl ⟨hp3, ?_⟩
      replace hf := Nat.lt_trans g hf
      clear g
      replace h : EC C f 18 ab_main 615 [some (rf 98 (0)), some (rf 11 (0)), some (rf 13 (14)), some (rf 13 (15)), some (rf 13 (16)), some (rf 13 (17)), some (rf 14 (6)), y7, some (.inl (u8)), some (.inl (u9)), some (.inl (u10)), some (.inl (u11)), y12, y13, y14, y15, y16, y17] [] τ (w, σ') := h
      replace h := ec_p h rfl rfl rfl rfl
      obtain ⟨f, g, h⟩ := h
      replace hf := Nat.lt_trans g hf
      clear g
      replace h : EC C f 18 ab_main 616 [some (rf 98 (0)), some (rf 11 (0)), some (rf 13 (14)), some (rf 13 (15)), some (rf 13 (16)), some (rf 13 (17)), some (rf 14 (6)), y7, some (.inl (u8)), some (.inl (u9)), some (.inl (u10)), some (.inl (u11)), y12, y13, y14, y15, y16, y17] [.inl (Int32.ofInt 1)] τ (w, σ') := h
      replace h := ec_p h rfl rfl rfl rfl
      obtain ⟨f, g, h⟩ := h
      replace hf := Nat.lt_trans g hf
      clear g
      replace h : EC C f 18 ab_main 618 [some (rf 98 (0)), some (rf 11 (0)), some (rf 13 (14)), some (rf 13 (15)), some (rf 13 (16)), some (rf 13 (17)), some (rf 14 (6)), y7, some (.inl (u8)), some (.inl (u9)), some (.inl (u10)), some (.inl (u11)), y12, y13, y14, y15, y16, y17] [.inl (u10), .inl (Int32.ofInt 1)] τ (w, σ') := h
      replace h := ec_p h rfl rfl rfl rfl
      obtain ⟨f, g, h⟩ := h
      replace hf := Nat.lt_trans g hf
      clear g
      replace h : EC C f 18 ab_main 619 [some (rf 98 (0)), some (rf 11 (0)), some (rf 13 (14)), some (rf 13 (15)), some (rf 13 (16)), some (rf 13 (17)), some (rf 14 (6)), y7, some (.inl (u8)), some (.inl (u9)), some (.inl (u10)), some (.inl (u11)), y12, y13, y14, y15, y16, y17] [.inl (Int32.ofInt 3), .inl (u10), .inl (Int32.ofInt 1)] τ (w, σ') := h
      replace h := ec_irem h rfl
      obtain ⟨hd4, f, g, h⟩ := h
      replace hf := Nat.lt_trans g hf
      clear g
      replace h : EC C f 18 ab_main 620 [some (rf 98 (0)), some (rf 11 (0)), some (rf 13 (14)), some (rf 13 (15)), some (rf 13 (16)), some (rf 13 (17)), some (rf 14 (6)), y7, some (.inl (u8)), some (.inl (u9)), some (.inl (u10)), some (.inl (u11)), y12, y13, y14, y15, y16, y17] [.inl ((u10) - (u10) / (Int32.ofInt 3) * (Int32.ofInt 3)), .inl (Int32.ofInt 1)] τ (w, σ') := h
      replace h := ec_p h rfl rfl rfl rfl
      obtain ⟨f, g, h⟩ := h
      replace hf := Nat.lt_trans g hf
      clear g
      replace h : EC C f 18 ab_main 621 [some (rf 98 (0)), some (rf 11 (0)), some (rf 13 (14)), some (rf 13 (15)), some (rf 13 (16)), some (rf 13 (17)), some (rf 14 (6)), y7, some (.inl (u8)), some (.inl (u9)), some (.inl (u10)), some (.inl (u11)), y12, y13, y14, y15, y16, y17] [.inl ((Int32.ofInt 1) + ((u10) - (u10) / (Int32.ofInt 3) * (Int32.ofInt 3)))] τ (w, σ') := h
      replace h := ec_p h rfl rfl rfl rfl
      obtain ⟨f, g, h⟩ := h
      replace hf := Nat.lt_trans g hf
      clear g
      replace h : EC C f 18 ab_main 623 [some (rf 98 (0)), some (rf 11 (0)), some (rf 13 (14)), some (rf 13 (15)), some (rf 13 (16)), some (rf 13 (17)), some (rf 14 (6)), y7, some (.inl (u8)), some (.inl (u9)), some (.inl (u10)), some (.inl (u11)), some (.inl ((Int32.ofInt 1) + ((u10) - (u10) / (Int32.ofInt 3) * (Int32.ofInt 3)))), y13, y14, y15, y16, y17] [] τ (w, σ') := h
      obtain ⟨n5, e6⟩ : ∃ s, s = (Int32.ofInt 1) + ((u10) - (u10) / (Int32.ofInt 3) * (Int32.ofInt 3)) := ⟨_, rfl⟩
      rw [← e6] at h
      refine ⟨n5, e6, ?_⟩
      replace h : EC C f 18 ab_main 623 [some (rf 98 (0)), some (rf 11 (0)), some (rf 13 (14)), some (rf 13 (15)), some (rf 13 (16)), some (rf 13 (17)), some (rf 14 (6)), y7, some (.inl (u8)), some (.inl (u9)), some (.inl (u10)), some (.inl (u11)), some (.inl (n5)), y13, y14, y15, y16, y17] [] τ (w, σ') := h
      exact H623 f hf (u8) (u11) (n5) y7 (some (.inl (u9))) (some (.inl (u10))) y13 y14 y15 y16 y17 τ hsτ h
    · skip
      replace hp3 : ¬ (((u10) - (u10) / (Int32.ofInt 30) * (Int32.ofInt 30)).toInt ≠ (0 : Int)) := (not_congr ic_ne).mp hp3
      refine Or.inr ⟨hp3, ?_⟩
      replace hf := Nat.lt_trans g hf
      clear g
      replace h : EC C f 18 ab_main 610 [some (rf 98 (0)), some (rf 11 (0)), some (rf 13 (14)), some (rf 13 (15)), some (rf 13 (16)), some (rf 13 (17)), some (rf 14 (6)), y7, some (.inl (u8)), some (.inl (u9)), some (.inl (u10)), some (.inl (u11)), y12, y13, y14, y15, y16, y17] [] τ (w, σ') := h
      replace h := ec_p h rfl rfl rfl rfl
      obtain ⟨f, g, h⟩ := h
      replace hf := Nat.lt_trans g hf
      clear g
      replace h : EC C f 18 ab_main 612 [some (rf 98 (0)), some (rf 11 (0)), some (rf 13 (14)), some (rf 13 (15)), some (rf 13 (16)), some (rf 13 (17)), some (rf 14 (6)), y7, some (.inl (u8)), some (.inl (u9)), some (.inl (u10)), some (.inl (u11)), y12, y13, y14, y15, y16, y17] [.inl (Int32.ofInt 51)] τ (w, σ') := h
      replace h := ec_p h rfl rfl rfl rfl
      obtain ⟨f, g, h⟩ := h
      replace hf := Nat.lt_trans g hf
      clear g
      replace h : EC C f 18 ab_main 621 [some (rf 98 (0)), some (rf 11 (0)), some (rf 13 (14)), some (rf 13 (15)), some (rf 13 (16)), some (rf 13 (17)), some (rf 14 (6)), y7, some (.inl (u8)), some (.inl (u9)), some (.inl (u10)), some (.inl (u11)), y12, y13, y14, y15, y16, y17] [.inl (Int32.ofInt 51)] τ (w, σ') := h
      replace h := ec_p h rfl rfl rfl rfl
      obtain ⟨f, g, h⟩ := h
      replace hf := Nat.lt_trans g hf
      clear g
      replace h : EC C f 18 ab_main 623 [some (rf 98 (0)), some (rf 11 (0)), some (rf 13 (14)), some (rf 13 (15)), some (rf 13 (16)), some (rf 13 (17)), some (rf 14 (6)), y7, some (.inl (u8)), some (.inl (u9)), some (.inl (u10)), some (.inl (u11)), some (.inl (Int32.ofInt 51)), y13, y14, y15, y16, y17] [] τ (w, σ') := h
      exact H623 f hf (u8) (u11) (Int32.ofInt 51) y7 (some (.inl (u9))) (some (.inl (u10))) y13 y14 y15 y16 y17 τ hsτ h
def T623 (K690 : Int32 → Int32 → Int32 → Int32 → Int64 → mS → Prop) (u8 : Int32) (u11 : Int32) (u12 : Int32) (τ : mS) (w : mX) (σ' : mS) : Prop := ∃ v1 σ2, gF τ σ2 ∧ HL σ2 ∧ ev_run sm_all 172 [rf 11 (0), .inl (Int32.ofInt 11), .inl (u12), .inl (Int32.ofInt 0), .inl (Int32.ofInt 0), .inl (Int32.ofInt 0), .inl (Int32.ofInt 0), .inl (Int32.ofInt 0), .inl (Int32.ofInt 0)] τ (.inl (some (.inr (.inl v1)))) σ2 ∧ P172 τ (Int32.ofInt 11) (u12) (Int32.ofInt 0) (Int32.ofInt 0) (Int32.ofInt 0) (Int32.ofInt 0) (Int32.ofInt 0) (Int32.ofInt 0) (.inl (some (.inr (.inl v1)))) σ2 ∧ (((u12).toInt ≤ (50 : Int) ∧ (0 ≤ (4 : Int) ∧ (4 : Int) < (σ2.2.1 13 (17) : Int)) ∧ (((v1).toInt < ((m_i σ2 13 (17) (Int32.ofInt 4).toNatClampNeg).toInt64).toInt ∧ K690 (Int32.ofInt 0) (u8) (u11) (u12) (v1) σ2) ∨ (¬ ((v1).toInt < ((m_i σ2 13 (17) (Int32.ofInt 4).toNatClampNeg).toInt64).toInt) ∧ (((Int64.ofInt 6).toInt ≤ (v1).toInt ∧ K690 (Int32.ofInt 0) (u8) (u11) (u12) (v1) σ2) ∨ (¬ ((Int64.ofInt 6).toInt ≤ (v1).toInt) ∧ K690 (Int32.ofInt 1) (u8) (u11) (u12) (v1) σ2))))) ∨ (¬ ((u12).toInt ≤ (50 : Int)) ∧ (((v1).toInt ≠ (Int64.ofInt (-2000000000)).toInt ∧ K690 (Int32.ofInt 0) (u8) (u11) (u12) (v1) σ2) ∨ (¬ ((v1).toInt ≠ (Int64.ofInt (-2000000000)).toInt) ∧ K690 (Int32.ofInt 1) (u8) (u11) (u12) (v1) σ2))))
set_option maxRecDepth 100000 in
theorem t623 {C : ec_C} (hC : CK C) {N : Nat} {w : mX} {σ' : mS} {K690 : Int32 → Int32 → Int32 → Int32 → Int64 → mS → Prop} (H690 : ∀ f, f < N → ∀ (u7 : Int32) (u8 : Int32) (u11 : Int32) (u12 : Int32) (u13 : Int64) (y9 : Option mV) (y10 : Option mV) (y15 : Option mV) (y16 : Option mV) (y17 : Option mV) (τ : mS), HL τ → EC C f 18 ab_main 690 [some (rf 98 (0)), some (rf 11 (0)), some (rf 13 (14)), some (rf 13 (15)), some (rf 13 (16)), some (rf 13 (17)), some (rf 14 (6)), some (.inl (u7)), some (.inl (u8)), y9, y10, some (.inl (u11)), some (.inl (u12)), some (.inr (.inl (u13))), none, y15, y16, y17] [] τ (w, σ') → K690 u7 u8 u11 u12 u13 τ) : ∀ f, f < N + 1 → ∀ (u8 : Int32) (u11 : Int32) (u12 : Int32) (y7 : Option mV) (y9 : Option mV) (y10 : Option mV) (y13 : Option mV) (y14 : Option mV) (y15 : Option mV) (y16 : Option mV) (y17 : Option mV) (τ : mS), HL τ → EC C f 18 ab_main 623 [some (rf 98 (0)), some (rf 11 (0)), some (rf 13 (14)), some (rf 13 (15)), some (rf 13 (16)), some (rf 13 (17)), some (rf 14 (6)), y7, some (.inl (u8)), y9, y10, some (.inl (u11)), some (.inl (u12)), y13, y14, y15, y16, y17] [] τ (w, σ') → T623 K690 u8 u11 u12 τ w σ' := by
  intro f hf0 u8 u11 u12 y7 y9 y10 y13 y14 y15 y16 y17 τ hsτ h
  have hf : f < N + 1 := hf0
  clear hf0
  unfold T623
  replace h : EC C f 18 ab_main 623 [some (rf 98 (0)), some (rf 11 (0)), some (rf 13 (14)), some (rf 13 (15)), some (rf 13 (16)), some (rf 13 (17)), some (rf 14 (6)), y7, some (.inl (u8)), y9, y10, some (.inl (u11)), some (.inl (u12)), y13, y14, y15, y16, y17] [] τ (w, σ') := h
  replace h := ec_p h rfl rfl rfl rfl
  obtain ⟨f, g, h⟩ := h
  replace hf := Nat.lt_of_lt_of_le g (Nat.le_of_lt_succ hf)
  clear g
  replace h : EC C f 18 ab_main 624 [some (rf 98 (0)), some (rf 11 (0)), some (rf 13 (14)), some (rf 13 (15)), some (rf 13 (16)), some (rf 13 (17)), some (rf 14 (6)), y7, some (.inl (u8)), y9, y10, some (.inl (u11)), some (.inl (u12)), y13, y14, y15, y16, y17] [rf 11 (0)] τ (w, σ') := h
  replace h := ec_p h rfl rfl rfl rfl
  obtain ⟨f, g, h⟩ := h
  replace hf := Nat.lt_trans g hf
  clear g
  replace h : EC C f 18 ab_main 626 [some (rf 98 (0)), some (rf 11 (0)), some (rf 13 (14)), some (rf 13 (15)), some (rf 13 (16)), some (rf 13 (17)), some (rf 14 (6)), y7, some (.inl (u8)), y9, y10, some (.inl (u11)), some (.inl (u12)), y13, y14, y15, y16, y17] [.inl (Int32.ofInt 11), rf 11 (0)] τ (w, σ') := h
  replace h := ec_p h rfl rfl rfl rfl
  obtain ⟨f, g, h⟩ := h
  replace hf := Nat.lt_trans g hf
  clear g
  replace h : EC C f 18 ab_main 628 [some (rf 98 (0)), some (rf 11 (0)), some (rf 13 (14)), some (rf 13 (15)), some (rf 13 (16)), some (rf 13 (17)), some (rf 14 (6)), y7, some (.inl (u8)), y9, y10, some (.inl (u11)), some (.inl (u12)), y13, y14, y15, y16, y17] [.inl (u12), .inl (Int32.ofInt 11), rf 11 (0)] τ (w, σ') := h
  replace h := ec_p h rfl rfl rfl rfl
  obtain ⟨f, g, h⟩ := h
  replace hf := Nat.lt_trans g hf
  clear g
  replace h : EC C f 18 ab_main 629 [some (rf 98 (0)), some (rf 11 (0)), some (rf 13 (14)), some (rf 13 (15)), some (rf 13 (16)), some (rf 13 (17)), some (rf 14 (6)), y7, some (.inl (u8)), y9, y10, some (.inl (u11)), some (.inl (u12)), y13, y14, y15, y16, y17] [.inl (Int32.ofInt 0), .inl (u12), .inl (Int32.ofInt 11), rf 11 (0)] τ (w, σ') := h
  replace h := ec_p h rfl rfl rfl rfl
  obtain ⟨f, g, h⟩ := h
  replace hf := Nat.lt_trans g hf
  clear g
  replace h : EC C f 18 ab_main 630 [some (rf 98 (0)), some (rf 11 (0)), some (rf 13 (14)), some (rf 13 (15)), some (rf 13 (16)), some (rf 13 (17)), some (rf 14 (6)), y7, some (.inl (u8)), y9, y10, some (.inl (u11)), some (.inl (u12)), y13, y14, y15, y16, y17] [.inl (Int32.ofInt 0), .inl (Int32.ofInt 0), .inl (u12), .inl (Int32.ofInt 11), rf 11 (0)] τ (w, σ') := h
  replace h := ec_p h rfl rfl rfl rfl
  obtain ⟨f, g, h⟩ := h
  replace hf := Nat.lt_trans g hf
  clear g
  replace h : EC C f 18 ab_main 631 [some (rf 98 (0)), some (rf 11 (0)), some (rf 13 (14)), some (rf 13 (15)), some (rf 13 (16)), some (rf 13 (17)), some (rf 14 (6)), y7, some (.inl (u8)), y9, y10, some (.inl (u11)), some (.inl (u12)), y13, y14, y15, y16, y17] [.inl (Int32.ofInt 0), .inl (Int32.ofInt 0), .inl (Int32.ofInt 0), .inl (u12), .inl (Int32.ofInt 11), rf 11 (0)] τ (w, σ') := h
  replace h := ec_p h rfl rfl rfl rfl
  obtain ⟨f, g, h⟩ := h
  replace hf := Nat.lt_trans g hf
  clear g
  replace h : EC C f 18 ab_main 632 [some (rf 98 (0)), some (rf 11 (0)), some (rf 13 (14)), some (rf 13 (15)), some (rf 13 (16)), some (rf 13 (17)), some (rf 14 (6)), y7, some (.inl (u8)), y9, y10, some (.inl (u11)), some (.inl (u12)), y13, y14, y15, y16, y17] [.inl (Int32.ofInt 0), .inl (Int32.ofInt 0), .inl (Int32.ofInt 0), .inl (Int32.ofInt 0), .inl (u12), .inl (Int32.ofInt 11), rf 11 (0)] τ (w, σ') := h
  replace h := ec_p h rfl rfl rfl rfl
  obtain ⟨f, g, h⟩ := h
  replace hf := Nat.lt_trans g hf
  clear g
  replace h : EC C f 18 ab_main 633 [some (rf 98 (0)), some (rf 11 (0)), some (rf 13 (14)), some (rf 13 (15)), some (rf 13 (16)), some (rf 13 (17)), some (rf 14 (6)), y7, some (.inl (u8)), y9, y10, some (.inl (u11)), some (.inl (u12)), y13, y14, y15, y16, y17] [.inl (Int32.ofInt 0), .inl (Int32.ofInt 0), .inl (Int32.ofInt 0), .inl (Int32.ofInt 0), .inl (Int32.ofInt 0), .inl (u12), .inl (Int32.ofInt 11), rf 11 (0)] τ (w, σ') := h
  replace h := ec_p h rfl rfl rfl rfl
  obtain ⟨f, g, h⟩ := h
  replace hf := Nat.lt_trans g hf
  clear g
  replace h : EC C f 18 ab_main 634 [some (rf 98 (0)), some (rf 11 (0)), some (rf 13 (14)), some (rf 13 (15)), some (rf 13 (16)), some (rf 13 (17)), some (rf 14 (6)), y7, some (.inl (u8)), y9, y10, some (.inl (u11)), some (.inl (u12)), y13, y14, y15, y16, y17] [.inl (Int32.ofInt 0), .inl (Int32.ofInt 0), .inl (Int32.ofInt 0), .inl (Int32.ofInt 0), .inl (Int32.ofInt 0), .inl (Int32.ofInt 0), .inl (u12), .inl (Int32.ofInt 11), rf 11 (0)] τ (w, σ') := h
  replace h := cx_L hC (ec_s (as := [.inl (Int32.ofInt 0), .inl (Int32.ofInt 0), .inl (Int32.ofInt 0), .inl (Int32.ofInt 0), .inl (Int32.ofInt 0), .inl (Int32.ofInt 0), .inl (u12), .inl (Int32.ofInt 11), rf 11 (0)]) h rfl (Nat.le_of_ble_eq_true rfl) rfl rfl) rfl z172_at rfl
  rcases h with ⟨v1, σ2, r3, f, g, h⟩ | ⟨b, σ2, r3, e⟩
  rotate_left
  · exact (nt172 (x172 hsτ r3)).elim
  replace hf := Nat.lt_trans g hf
  clear g
  have p4 := x172 hsτ r3
  have hsσ2 : HL σ2 := hl172 p4
  refine ⟨v1, σ2, gF_r r3 rfl hsτ, hsσ2, r3, p4, ?_⟩
  replace h : EC C f 18 ab_main 637 [some (rf 98 (0)), some (rf 11 (0)), some (rf 13 (14)), some (rf 13 (15)), some (rf 13 (16)), some (rf 13 (17)), some (rf 14 (6)), y7, some (.inl (u8)), y9, y10, some (.inl (u11)), some (.inl (u12)), y13, y14, y15, y16, y17] [.inr (.inl (v1))] σ2 (w, σ') := h
  replace h := ec_p h rfl rfl rfl rfl
  obtain ⟨f, g, h⟩ := h
  replace hf := Nat.lt_trans g hf
  clear g
  replace h : EC C f 18 ab_main 639 [some (rf 98 (0)), some (rf 11 (0)), some (rf 13 (14)), some (rf 13 (15)), some (rf 13 (16)), some (rf 13 (17)), some (rf 14 (6)), y7, some (.inl (u8)), y9, y10, some (.inl (u11)), some (.inl (u12)), some (.inr (.inl (v1))), none, y15, y16, y17] [] σ2 (w, σ') := h
  replace h := ec_p h rfl rfl rfl rfl
  obtain ⟨f, g, h⟩ := h
  replace hf := Nat.lt_trans g hf
  clear g
  replace h : EC C f 18 ab_main 641 [some (rf 98 (0)), some (rf 11 (0)), some (rf 13 (14)), some (rf 13 (15)), some (rf 13 (16)), some (rf 13 (17)), some (rf 14 (6)), y7, some (.inl (u8)), y9, y10, some (.inl (u11)), some (.inl (u12)), some (.inr (.inl (v1))), none, y15, y16, y17] [.inl (u12)] σ2 (w, σ') := h
  replace h := ec_p h rfl rfl rfl rfl
  obtain ⟨f, g, h⟩ := h
  replace hf := Nat.lt_trans g hf
  clear g
  replace h : EC C f 18 ab_main 643 [some (rf 98 (0)), some (rf 11 (0)), some (rf 13 (14)), some (rf 13 (15)), some (rf 13 (16)), some (rf 13 (17)), some (rf 14 (6)), y7, some (.inl (u8)), y9, y10, some (.inl (u11)), some (.inl (u12)), some (.inr (.inl (v1))), none, y15, y16, y17] [.inl (Int32.ofInt 50), .inl (u12)] σ2 (w, σ') := h
  replace h := ec_c h rfl rfl rfl
  rcases h with ⟨hp5, f, g, h⟩ | ⟨hp5, f, g, h⟩
  · skip
    replace hp5 : (u12).toInt ≤ (50 : Int) := ic_le.mp hp5
    refine Or.inl ⟨hp5, ?_⟩
    replace hf := Nat.lt_trans g hf
    clear g
    replace h : EC C f 18 ab_main 663 [some (rf 98 (0)), some (rf 11 (0)), some (rf 13 (14)), some (rf 13 (15)), some (rf 13 (16)), some (rf 13 (17)), some (rf 14 (6)), y7, some (.inl (u8)), y9, y10, some (.inl (u11)), some (.inl (u12)), some (.inr (.inl (v1))), none, y15, y16, y17] [] σ2 (w, σ') := h
    replace h := ec_p h rfl rfl rfl rfl
    obtain ⟨f, g, h⟩ := h
    replace hf := Nat.lt_trans g hf
    clear g
    replace h : EC C f 18 ab_main 665 [some (rf 98 (0)), some (rf 11 (0)), some (rf 13 (14)), some (rf 13 (15)), some (rf 13 (16)), some (rf 13 (17)), some (rf 14 (6)), y7, some (.inl (u8)), y9, y10, some (.inl (u11)), some (.inl (u12)), some (.inr (.inl (v1))), none, y15, y16, y17] [.inr (.inl (v1))] σ2 (w, σ') := h
    replace h := ec_p h rfl rfl rfl rfl
    obtain ⟨f, g, h⟩ := h
    replace hf := Nat.lt_trans g hf
    clear g
    replace h : EC C f 18 ab_main 667 [some (rf 98 (0)), some (rf 11 (0)), some (rf 13 (14)), some (rf 13 (15)), some (rf 13 (16)), some (rf 13 (17)), some (rf 14 (6)), y7, some (.inl (u8)), y9, y10, some (.inl (u11)), some (.inl (u12)), some (.inr (.inl (v1))), none, y15, y16, y17] [rf 13 (17), .inr (.inl (v1))] σ2 (w, σ') := h
    replace h := ec_p h rfl rfl rfl rfl
    obtain ⟨f, g, h⟩ := h
    replace hf := Nat.lt_trans g hf
    clear g
    replace h : EC C f 18 ab_main 668 [some (rf 98 (0)), some (rf 11 (0)), some (rf 13 (14)), some (rf 13 (15)), some (rf 13 (16)), some (rf 13 (17)), some (rf 14 (6)), y7, some (.inl (u8)), y9, y10, some (.inl (u11)), some (.inl (u12)), some (.inr (.inl (v1))), none, y15, y16, y17] [.inl (Int32.ofInt 4), rf 13 (17), .inr (.inl (v1))] σ2 (w, σ') := h
    replace h := ec_iald h rfl (fun _ => rfl)
    obtain ⟨vp6, f, g, h⟩ := h
    replace hf := Nat.lt_trans g hf
    clear g
    replace h : EC C f 18 ab_main 669 [some (rf 98 (0)), some (rf 11 (0)), some (rf 13 (14)), some (rf 13 (15)), some (rf 13 (16)), some (rf 13 (17)), some (rf 14 (6)), y7, some (.inl (u8)), y9, y10, some (.inl (u11)), some (.inl (u12)), some (.inr (.inl (v1))), none, y15, y16, y17] [.inl (m_i σ2 13 (17) (Int32.ofInt 4).toNatClampNeg), .inr (.inl (v1))] σ2 (w, σ') := h
    refine ⟨vp_2 vp6, ?_⟩
    replace h := ec_p h rfl rfl rfl rfl
    obtain ⟨f, g, h⟩ := h
    replace hf := Nat.lt_trans g hf
    clear g
    replace h : EC C f 18 ab_main 670 [some (rf 98 (0)), some (rf 11 (0)), some (rf 13 (14)), some (rf 13 (15)), some (rf 13 (16)), some (rf 13 (17)), some (rf 14 (6)), y7, some (.inl (u8)), y9, y10, some (.inl (u11)), some (.inl (u12)), some (.inr (.inl (v1))), none, y15, y16, y17] [.inr (.inl ((m_i σ2 13 (17) (Int32.ofInt 4).toNatClampNeg).toInt64)), .inr (.inl (v1))] σ2 (w, σ') := h
    replace h := ec_p h rfl rfl rfl rfl
    obtain ⟨f, g, h⟩ := h
    replace hf := Nat.lt_trans g hf
    clear g
    replace h : EC C f 18 ab_main 671 [some (rf 98 (0)), some (rf 11 (0)), some (rf 13 (14)), some (rf 13 (15)), some (rf 13 (16)), some (rf 13 (17)), some (rf 14 (6)), y7, some (.inl (u8)), y9, y10, some (.inl (u11)), some (.inl (u12)), some (.inr (.inl (v1))), none, y15, y16, y17] [.inl (lg_cmp (v1) ((m_i σ2 13 (17) (Int32.ofInt 4).toNatClampNeg).toInt64))] σ2 (w, σ') := h
    replace h := ec_c h rfl rfl rfl
    rcases h with ⟨hp7, f, g, h⟩ | ⟨hp7, f, g, h⟩
    · skip
      replace hp7 : (v1).toInt < ((m_i σ2 13 (17) (Int32.ofInt 4).toNatClampNeg).toInt64).toInt := (ab_lc .lt _ _).mp hp7
      refine Or.inl ⟨hp7, ?_⟩
      replace hf := Nat.lt_trans g hf
      clear g
      replace h : EC C f 18 ab_main 687 [some (rf 98 (0)), some (rf 11 (0)), some (rf 13 (14)), some (rf 13 (15)), some (rf 13 (16)), some (rf 13 (17)), some (rf 14 (6)), y7, some (.inl (u8)), y9, y10, some (.inl (u11)), some (.inl (u12)), some (.inr (.inl (v1))), none, y15, y16, y17] [] σ2 (w, σ') := h
      replace h := ec_p h rfl rfl rfl rfl
      obtain ⟨f, g, h⟩ := h
      replace hf := Nat.lt_trans g hf
      clear g
      replace h : EC C f 18 ab_main 688 [some (rf 98 (0)), some (rf 11 (0)), some (rf 13 (14)), some (rf 13 (15)), some (rf 13 (16)), some (rf 13 (17)), some (rf 14 (6)), y7, some (.inl (u8)), y9, y10, some (.inl (u11)), some (.inl (u12)), some (.inr (.inl (v1))), none, y15, y16, y17] [.inl (Int32.ofInt 0)] σ2 (w, σ') := h
      replace h := ec_p h rfl rfl rfl rfl
      obtain ⟨f, g, h⟩ := h
      replace hf := Nat.lt_trans g hf
      clear g
      replace h : EC C f 18 ab_main 690 [some (rf 98 (0)), some (rf 11 (0)), some (rf 13 (14)), some (rf 13 (15)), some (rf 13 (16)), some (rf 13 (17)), some (rf 14 (6)), some (.inl (Int32.ofInt 0)), some (.inl (u8)), y9, y10, some (.inl (u11)), some (.inl (u12)), some (.inr (.inl (v1))), none, y15, y16, y17] [] σ2 (w, σ') := h
      exact H690 f hf (Int32.ofInt 0) (u8) (u11) (u12) (v1) y9 y10 y15 y16 y17 σ2 hsσ2 h
    · skip
      replace hp7 : ¬ ((v1).toInt < ((m_i σ2 13 (17) (Int32.ofInt 4).toNatClampNeg).toInt64).toInt) := (not_congr (ab_lc .lt _ _)).mp hp7
      refine Or.inr ⟨hp7, ?_⟩
      replace hf := Nat.lt_trans g hf
      clear g
      replace h : EC C f 18 ab_main 674 [some (rf 98 (0)), some (rf 11 (0)), some (rf 13 (14)), some (rf 13 (15)), some (rf 13 (16)), some (rf 13 (17)), some (rf 14 (6)), y7, some (.inl (u8)), y9, y10, some (.inl (u11)), some (.inl (u12)), some (.inr (.inl (v1))), none, y15, y16, y17] [] σ2 (w, σ') := h
      replace h := ec_p h rfl rfl rfl rfl
      obtain ⟨f, g, h⟩ := h
      replace hf := Nat.lt_trans g hf
      clear g
      replace h : EC C f 18 ab_main 676 [some (rf 98 (0)), some (rf 11 (0)), some (rf 13 (14)), some (rf 13 (15)), some (rf 13 (16)), some (rf 13 (17)), some (rf 14 (6)), y7, some (.inl (u8)), y9, y10, some (.inl (u11)), some (.inl (u12)), some (.inr (.inl (v1))), none, y15, y16, y17] [.inr (.inl (v1))] σ2 (w, σ') := h
      replace h := ec_p h rfl rfl rfl rfl
      obtain ⟨f, g, h⟩ := h
      replace hf := Nat.lt_trans g hf
      clear g
      replace h : EC C f 18 ab_main 679 [some (rf 98 (0)), some (rf 11 (0)), some (rf 13 (14)), some (rf 13 (15)), some (rf 13 (16)), some (rf 13 (17)), some (rf 14 (6)), y7, some (.inl (u8)), y9, y10, some (.inl (u11)), some (.inl (u12)), some (.inr (.inl (v1))), none, y15, y16, y17] [.inr (.inl (Int64.ofInt 6)), .inr (.inl (v1))] σ2 (w, σ') := h
      replace h := ec_p h rfl rfl rfl rfl
      obtain ⟨f, g, h⟩ := h
      replace hf := Nat.lt_trans g hf
      clear g
      replace h : EC C f 18 ab_main 680 [some (rf 98 (0)), some (rf 11 (0)), some (rf 13 (14)), some (rf 13 (15)), some (rf 13 (16)), some (rf 13 (17)), some (rf 14 (6)), y7, some (.inl (u8)), y9, y10, some (.inl (u11)), some (.inl (u12)), some (.inr (.inl (v1))), none, y15, y16, y17] [.inl (lg_cmp (v1) (Int64.ofInt 6))] σ2 (w, σ') := h
      replace h := ec_c h rfl rfl rfl
      rcases h with ⟨hp8, f, g, h⟩ | ⟨hp8, f, g, h⟩
      · skip
        replace hp8 : (Int64.ofInt 6).toInt ≤ (v1).toInt := (ab_lc .ge _ _).mp hp8
        refine Or.inl ⟨hp8, ?_⟩
        replace hf := Nat.lt_trans g hf
        clear g
        replace h : EC C f 18 ab_main 687 [some (rf 98 (0)), some (rf 11 (0)), some (rf 13 (14)), some (rf 13 (15)), some (rf 13 (16)), some (rf 13 (17)), some (rf 14 (6)), y7, some (.inl (u8)), y9, y10, some (.inl (u11)), some (.inl (u12)), some (.inr (.inl (v1))), none, y15, y16, y17] [] σ2 (w, σ') := h
        replace h := ec_p h rfl rfl rfl rfl
        obtain ⟨f, g, h⟩ := h
        replace hf := Nat.lt_trans g hf
        clear g
        replace h : EC C f 18 ab_main 688 [some (rf 98 (0)), some (rf 11 (0)), some (rf 13 (14)), some (rf 13 (15)), some (rf 13 (16)), some (rf 13 (17)), some (rf 14 (6)), y7, some (.inl (u8)), y9, y10, some (.inl (u11)), some (.inl (u12)), some (.inr (.inl (v1))), none, y15, y16, y17] [.inl (Int32.ofInt 0)] σ2 (w, σ') := h
        replace h := ec_p h rfl rfl rfl rfl
        obtain ⟨f, g, h⟩ := h
        replace hf := Nat.lt_trans g hf
        clear g
        replace h : EC C f 18 ab_main 690 [some (rf 98 (0)), some (rf 11 (0)), some (rf 13 (14)), some (rf 13 (15)), some (rf 13 (16)), some (rf 13 (17)), some (rf 14 (6)), some (.inl (Int32.ofInt 0)), some (.inl (u8)), y9, y10, some (.inl (u11)), some (.inl (u12)), some (.inr (.inl (v1))), none, y15, y16, y17] [] σ2 (w, σ') := h
        exact H690 f hf (Int32.ofInt 0) (u8) (u11) (u12) (v1) y9 y10 y15 y16 y17 σ2 hsσ2 h
      · skip
        replace hp8 : ¬ ((Int64.ofInt 6).toInt ≤ (v1).toInt) := (not_congr (ab_lc .ge _ _)).mp hp8
        refine Or.inr ⟨hp8, ?_⟩
        replace hf := Nat.lt_trans g hf
        clear g
        replace h : EC C f 18 ab_main 683 [some (rf 98 (0)), some (rf 11 (0)), some (rf 13 (14)), some (rf 13 (15)), some (rf 13 (16)), some (rf 13 (17)), some (rf 14 (6)), y7, some (.inl (u8)), y9, y10, some (.inl (u11)), some (.inl (u12)), some (.inr (.inl (v1))), none, y15, y16, y17] [] σ2 (w, σ') := h
        replace h := ec_p h rfl rfl rfl rfl
        obtain ⟨f, g, h⟩ := h
        replace hf := Nat.lt_trans g hf
        clear g
        replace h : EC C f 18 ab_main 684 [some (rf 98 (0)), some (rf 11 (0)), some (rf 13 (14)), some (rf 13 (15)), some (rf 13 (16)), some (rf 13 (17)), some (rf 14 (6)), y7, some (.inl (u8)), y9, y10, some (.inl (u11)), some (.inl (u12)), some (.inr (.inl (v1))), none, y15, y16, y17] [.inl (Int32.ofInt 1)] σ2 (w, σ') := h
        replace h := ec_p h rfl rfl rfl rfl
        obtain ⟨f, g, h⟩ := h
        replace hf := Nat.lt_trans g hf
        clear g
        replace h : EC C f 18 ab_main 688 [some (rf 98 (0)), some (rf 11 (0)), some (rf 13 (14)), some (rf 13 (15)), some (rf 13 (16)), some (rf 13 (17)), some (rf 14 (6)), y7, some (.inl (u8)), y9, y10, some (.inl (u11)), some (.inl (u12)), some (.inr (.inl (v1))), none, y15, y16, y17] [.inl (Int32.ofInt 1)] σ2 (w, σ') := h
        replace h := ec_p h rfl rfl rfl rfl
        obtain ⟨f, g, h⟩ := h
        replace hf := Nat.lt_trans g hf
        clear g
        replace h : EC C f 18 ab_main 690 [some (rf 98 (0)), some (rf 11 (0)), some (rf 13 (14)), some (rf 13 (15)), some (rf 13 (16)), some (rf 13 (17)), some (rf 14 (6)), some (.inl (Int32.ofInt 1)), some (.inl (u8)), y9, y10, some (.inl (u11)), some (.inl (u12)), some (.inr (.inl (v1))), none, y15, y16, y17] [] σ2 (w, σ') := h
        exact H690 f hf (Int32.ofInt 1) (u8) (u11) (u12) (v1) y9 y10 y15 y16 y17 σ2 hsσ2 h
  · skip
    replace hp5 : ¬ ((u12).toInt ≤ (50 : Int)) := (not_congr ic_le).mp hp5
    refine Or.inr ⟨hp5, ?_⟩
    replace hf := Nat.lt_trans g hf
    clear g
    replace h : EC C f 18 ab_main 646 [some (rf 98 (0)), some (rf 11 (0)), some (rf 13 (14)), some (rf 13 (15)), some (rf 13 (16)), some (rf 13 (17)), some (rf 14 (6)), y7, some (.inl (u8)), y9, y10, some (.inl (u11)), some (.inl (u12)), some (.inr (.inl (v1))), none, y15, y16, y17] [] σ2 (w, σ') := h
    replace h := ec_p h rfl rfl rfl rfl
    obtain ⟨f, g, h⟩ := h
    replace hf := Nat.lt_trans g hf
    clear g
    replace h : EC C f 18 ab_main 648 [some (rf 98 (0)), some (rf 11 (0)), some (rf 13 (14)), some (rf 13 (15)), some (rf 13 (16)), some (rf 13 (17)), some (rf 14 (6)), y7, some (.inl (u8)), y9, y10, some (.inl (u11)), some (.inl (u12)), some (.inr (.inl (v1))), none, y15, y16, y17] [.inr (.inl (v1))] σ2 (w, σ') := h
    replace h := ec_p h rfl rfl rfl rfl
    obtain ⟨f, g, h⟩ := h
    replace hf := Nat.lt_trans g hf
    clear g
    replace h : EC C f 18 ab_main 651 [some (rf 98 (0)), some (rf 11 (0)), some (rf 13 (14)), some (rf 13 (15)), some (rf 13 (16)), some (rf 13 (17)), some (rf 14 (6)), y7, some (.inl (u8)), y9, y10, some (.inl (u11)), some (.inl (u12)), some (.inr (.inl (v1))), none, y15, y16, y17] [.inr (.inl (Int64.ofInt (-2000000000))), .inr (.inl (v1))] σ2 (w, σ') := h
    replace h := ec_p h rfl rfl rfl rfl
    obtain ⟨f, g, h⟩ := h
    replace hf := Nat.lt_trans g hf
    clear g
    replace h : EC C f 18 ab_main 652 [some (rf 98 (0)), some (rf 11 (0)), some (rf 13 (14)), some (rf 13 (15)), some (rf 13 (16)), some (rf 13 (17)), some (rf 14 (6)), y7, some (.inl (u8)), y9, y10, some (.inl (u11)), some (.inl (u12)), some (.inr (.inl (v1))), none, y15, y16, y17] [.inl (lg_cmp (v1) (Int64.ofInt (-2000000000)))] σ2 (w, σ') := h
    replace h := ec_c h rfl rfl rfl
    rcases h with ⟨hp9, f, g, h⟩ | ⟨hp9, f, g, h⟩
    · skip
      replace hp9 : (v1).toInt ≠ (Int64.ofInt (-2000000000)).toInt := (ab_lc .ne _ _).mp hp9
      refine Or.inl ⟨hp9, ?_⟩
      replace hf := Nat.lt_trans g hf
      clear g
      replace h : EC C f 18 ab_main 659 [some (rf 98 (0)), some (rf 11 (0)), some (rf 13 (14)), some (rf 13 (15)), some (rf 13 (16)), some (rf 13 (17)), some (rf 14 (6)), y7, some (.inl (u8)), y9, y10, some (.inl (u11)), some (.inl (u12)), some (.inr (.inl (v1))), none, y15, y16, y17] [] σ2 (w, σ') := h
      replace h := ec_p h rfl rfl rfl rfl
      obtain ⟨f, g, h⟩ := h
      replace hf := Nat.lt_trans g hf
      clear g
      replace h : EC C f 18 ab_main 660 [some (rf 98 (0)), some (rf 11 (0)), some (rf 13 (14)), some (rf 13 (15)), some (rf 13 (16)), some (rf 13 (17)), some (rf 14 (6)), y7, some (.inl (u8)), y9, y10, some (.inl (u11)), some (.inl (u12)), some (.inr (.inl (v1))), none, y15, y16, y17] [.inl (Int32.ofInt 0)] σ2 (w, σ') := h
      replace h := ec_p h rfl rfl rfl rfl
      obtain ⟨f, g, h⟩ := h
      replace hf := Nat.lt_trans g hf
      clear g
      replace h : EC C f 18 ab_main 688 [some (rf 98 (0)), some (rf 11 (0)), some (rf 13 (14)), some (rf 13 (15)), some (rf 13 (16)), some (rf 13 (17)), some (rf 14 (6)), y7, some (.inl (u8)), y9, y10, some (.inl (u11)), some (.inl (u12)), some (.inr (.inl (v1))), none, y15, y16, y17] [.inl (Int32.ofInt 0)] σ2 (w, σ') := h
      replace h := ec_p h rfl rfl rfl rfl
      obtain ⟨f, g, h⟩ := h
      replace hf := Nat.lt_trans g hf
      clear g
      replace h : EC C f 18 ab_main 690 [some (rf 98 (0)), some (rf 11 (0)), some (rf 13 (14)), some (rf 13 (15)), some (rf 13 (16)), some (rf 13 (17)), some (rf 14 (6)), some (.inl (Int32.ofInt 0)), some (.inl (u8)), y9, y10, some (.inl (u11)), some (.inl (u12)), some (.inr (.inl (v1))), none, y15, y16, y17] [] σ2 (w, σ') := h
      exact H690 f hf (Int32.ofInt 0) (u8) (u11) (u12) (v1) y9 y10 y15 y16 y17 σ2 hsσ2 h
    · skip
      replace hp9 : ¬ ((v1).toInt ≠ (Int64.ofInt (-2000000000)).toInt) := (not_congr (ab_lc .ne _ _)).mp hp9
      refine Or.inr ⟨hp9, ?_⟩
      replace hf := Nat.lt_trans g hf
      clear g
      replace h : EC C f 18 ab_main 655 [some (rf 98 (0)), some (rf 11 (0)), some (rf 13 (14)), some (rf 13 (15)), some (rf 13 (16)), some (rf 13 (17)), some (rf 14 (6)), y7, some (.inl (u8)), y9, y10, some (.inl (u11)), some (.inl (u12)), some (.inr (.inl (v1))), none, y15, y16, y17] [] σ2 (w, σ') := h
      replace h := ec_p h rfl rfl rfl rfl
      obtain ⟨f, g, h⟩ := h
      replace hf := Nat.lt_trans g hf
      clear g
      replace h : EC C f 18 ab_main 656 [some (rf 98 (0)), some (rf 11 (0)), some (rf 13 (14)), some (rf 13 (15)), some (rf 13 (16)), some (rf 13 (17)), some (rf 14 (6)), y7, some (.inl (u8)), y9, y10, some (.inl (u11)), some (.inl (u12)), some (.inr (.inl (v1))), none, y15, y16, y17] [.inl (Int32.ofInt 1)] σ2 (w, σ') := h
      replace h := ec_p h rfl rfl rfl rfl
      obtain ⟨f, g, h⟩ := h
      replace hf := Nat.lt_trans g hf
      clear g
      replace h : EC C f 18 ab_main 688 [some (rf 98 (0)), some (rf 11 (0)), some (rf 13 (14)), some (rf 13 (15)), some (rf 13 (16)), some (rf 13 (17)), some (rf 14 (6)), y7, some (.inl (u8)), y9, y10, some (.inl (u11)), some (.inl (u12)), some (.inr (.inl (v1))), none, y15, y16, y17] [.inl (Int32.ofInt 1)] σ2 (w, σ') := h
      replace h := ec_p h rfl rfl rfl rfl
      obtain ⟨f, g, h⟩ := h
      replace hf := Nat.lt_trans g hf
      clear g
      replace h : EC C f 18 ab_main 690 [some (rf 98 (0)), some (rf 11 (0)), some (rf 13 (14)), some (rf 13 (15)), some (rf 13 (16)), some (rf 13 (17)), some (rf 14 (6)), some (.inl (Int32.ofInt 1)), some (.inl (u8)), y9, y10, some (.inl (u11)), some (.inl (u12)), some (.inr (.inl (v1))), none, y15, y16, y17] [] σ2 (w, σ') := h
      exact H690 f hf (Int32.ofInt 1) (u8) (u11) (u12) (v1) y9 y10 y15 y16 y17 σ2 hsσ2 h
def T690 (K925 : Int32 → Int32 → Int32 → mS → Prop) (u7 : Int32) (u8 : Int32) (u11 : Int32) (u12 : Int32) (u13 : Int64) (τ : mS) (w : mX) (σ' : mS) : Prop := (((u12).toInt ≤ (50 : Int) ∧ ∃ σ3, σ3 = m_set τ 13 (17) ((Int32.ofInt 4).toNatClampNeg) (.inl ((u13).toInt32)) ∧ (0 ≤ (4 : Int) ∧ (4 : Int) < (τ.2.1 13 (17) : Int)) ∧ K925 (u7) (u8) (u11) σ3) ∨ (¬ ((u12).toInt ≤ (50 : Int)) ∧ (0 ≤ (4 : Int) ∧ (4 : Int) < (τ.2.1 13 (17) : Int)) ∧ ∃ σ7, σ7 = m_set τ 13 (17) ((Int32.ofInt 4).toNatClampNeg) (.inl (m_i τ 13 (17) (Int32.ofInt 4).toNatClampNeg)) ∧ (0 ≤ (4 : Int) ∧ (4 : Int) < (τ.2.1 13 (17) : Int)) ∧ K925 (u7) (u8) (u11) σ7))
set_option maxRecDepth 100000 in
theorem t690 {C : ec_C} (hC : CK C) {N : Nat} {w : mX} {σ' : mS} {K925 : Int32 → Int32 → Int32 → mS → Prop} (H925 : ∀ f, f < N → ∀ (u7 : Int32) (u8 : Int32) (u11 : Int32) (y9 : Option mV) (y10 : Option mV) (y12 : Option mV) (y13 : Option mV) (y14 : Option mV) (y15 : Option mV) (y16 : Option mV) (y17 : Option mV) (τ : mS), HL τ → EC C f 18 ab_main 925 [some (rf 98 (0)), some (rf 11 (0)), some (rf 13 (14)), some (rf 13 (15)), some (rf 13 (16)), some (rf 13 (17)), some (rf 14 (6)), some (.inl (u7)), some (.inl (u8)), y9, y10, some (.inl (u11)), y12, y13, y14, y15, y16, y17] [] τ (w, σ') → K925 u7 u8 u11 τ) : ∀ f, f < N + 1 → ∀ (u7 : Int32) (u8 : Int32) (u11 : Int32) (u12 : Int32) (u13 : Int64) (y9 : Option mV) (y10 : Option mV) (y15 : Option mV) (y16 : Option mV) (y17 : Option mV) (τ : mS), HL τ → EC C f 18 ab_main 690 [some (rf 98 (0)), some (rf 11 (0)), some (rf 13 (14)), some (rf 13 (15)), some (rf 13 (16)), some (rf 13 (17)), some (rf 14 (6)), some (.inl (u7)), some (.inl (u8)), y9, y10, some (.inl (u11)), some (.inl (u12)), some (.inr (.inl (u13))), none, y15, y16, y17] [] τ (w, σ') → T690 K925 u7 u8 u11 u12 u13 τ w σ' := by
  intro f hf0 u7 u8 u11 u12 u13 y9 y10 y15 y16 y17 τ hsτ h
  have hf : f < N + 1 := hf0
  clear hf0
  unfold T690
  replace h : EC C f 18 ab_main 690 [some (rf 98 (0)), some (rf 11 (0)), some (rf 13 (14)), some (rf 13 (15)), some (rf 13 (16)), some (rf 13 (17)), some (rf 14 (6)), some (.inl (u7)), some (.inl (u8)), y9, y10, some (.inl (u11)), some (.inl (u12)), some (.inr (.inl (u13))), none, y15, y16, y17] [] τ (w, σ') := h
  replace h := ec_p h rfl rfl rfl rfl
  obtain ⟨f, g, h⟩ := h
  replace hf := Nat.lt_of_lt_of_le g (Nat.le_of_lt_succ hf)
  clear g
  replace h : EC C f 18 ab_main 692 [some (rf 98 (0)), some (rf 11 (0)), some (rf 13 (14)), some (rf 13 (15)), some (rf 13 (16)), some (rf 13 (17)), some (rf 14 (6)), some (.inl (u7)), some (.inl (u8)), y9, y10, some (.inl (u11)), some (.inl (u12)), some (.inr (.inl (u13))), none, y15, y16, y17] [rf 13 (17)] τ (w, σ') := h
  replace h := ec_p h rfl rfl rfl rfl
  obtain ⟨f, g, h⟩ := h
  replace hf := Nat.lt_trans g hf
  clear g
  replace h : EC C f 18 ab_main 693 [some (rf 98 (0)), some (rf 11 (0)), some (rf 13 (14)), some (rf 13 (15)), some (rf 13 (16)), some (rf 13 (17)), some (rf 14 (6)), some (.inl (u7)), some (.inl (u8)), y9, y10, some (.inl (u11)), some (.inl (u12)), some (.inr (.inl (u13))), none, y15, y16, y17] [.inl (Int32.ofInt 4), rf 13 (17)] τ (w, σ') := h
  replace h := ec_p h rfl rfl rfl rfl
  obtain ⟨f, g, h⟩ := h
  replace hf := Nat.lt_trans g hf
  clear g
  replace h : EC C f 18 ab_main 695 [some (rf 98 (0)), some (rf 11 (0)), some (rf 13 (14)), some (rf 13 (15)), some (rf 13 (16)), some (rf 13 (17)), some (rf 14 (6)), some (.inl (u7)), some (.inl (u8)), y9, y10, some (.inl (u11)), some (.inl (u12)), some (.inr (.inl (u13))), none, y15, y16, y17] [.inl (u12), .inl (Int32.ofInt 4), rf 13 (17)] τ (w, σ') := h
  replace h := ec_p h rfl rfl rfl rfl
  obtain ⟨f, g, h⟩ := h
  replace hf := Nat.lt_trans g hf
  clear g
  replace h : EC C f 18 ab_main 697 [some (rf 98 (0)), some (rf 11 (0)), some (rf 13 (14)), some (rf 13 (15)), some (rf 13 (16)), some (rf 13 (17)), some (rf 14 (6)), some (.inl (u7)), some (.inl (u8)), y9, y10, some (.inl (u11)), some (.inl (u12)), some (.inr (.inl (u13))), none, y15, y16, y17] [.inl (Int32.ofInt 50), .inl (u12), .inl (Int32.ofInt 4), rf 13 (17)] τ (w, σ') := h
  replace h := ec_c h rfl rfl rfl
  rcases h with ⟨hp1, f, g, h⟩ | ⟨hp1, f, g, h⟩
  · skip
    replace hp1 : (u12).toInt ≤ (50 : Int) := ic_le.mp hp1
    refine Or.inl ⟨hp1, ?_⟩
    replace hf := Nat.lt_trans g hf
    clear g
    replace h : EC C f 18 ab_main 707 [some (rf 98 (0)), some (rf 11 (0)), some (rf 13 (14)), some (rf 13 (15)), some (rf 13 (16)), some (rf 13 (17)), some (rf 14 (6)), some (.inl (u7)), some (.inl (u8)), y9, y10, some (.inl (u11)), some (.inl (u12)), some (.inr (.inl (u13))), none, y15, y16, y17] [.inl (Int32.ofInt 4), rf 13 (17)] τ (w, σ') := h
    replace h := ec_p h rfl rfl rfl rfl
    obtain ⟨f, g, h⟩ := h
    replace hf := Nat.lt_trans g hf
    clear g
    replace h : EC C f 18 ab_main 709 [some (rf 98 (0)), some (rf 11 (0)), some (rf 13 (14)), some (rf 13 (15)), some (rf 13 (16)), some (rf 13 (17)), some (rf 14 (6)), some (.inl (u7)), some (.inl (u8)), y9, y10, some (.inl (u11)), some (.inl (u12)), some (.inr (.inl (u13))), none, y15, y16, y17] [.inr (.inl (u13)), .inl (Int32.ofInt 4), rf 13 (17)] τ (w, σ') := h
    replace h := ec_p h rfl rfl rfl rfl
    obtain ⟨f, g, h⟩ := h
    replace hf := Nat.lt_trans g hf
    clear g
    replace h : EC C f 18 ab_main 710 [some (rf 98 (0)), some (rf 11 (0)), some (rf 13 (14)), some (rf 13 (15)), some (rf 13 (16)), some (rf 13 (17)), some (rf 14 (6)), some (.inl (u7)), some (.inl (u8)), y9, y10, some (.inl (u11)), some (.inl (u12)), some (.inr (.inl (u13))), none, y15, y16, y17] [.inl ((u13).toInt32), .inl (Int32.ofInt 4), rf 13 (17)] τ (w, σ') := h
    replace h := ec_iast h rfl
    obtain ⟨ht2, f, g, h⟩ := h
    replace hf := Nat.lt_trans g hf
    clear g
    obtain ⟨σ3, e4⟩ : ∃ s, s = m_set τ 13 (17) ((Int32.ofInt 4).toNatClampNeg) (.inl ((u13).toInt32)) := ⟨_, rfl⟩
    rw [← e4] at h
    have hsσ3 : HL σ3 := by rw [e4]; exact HL_set hsτ rfl
    refine ⟨σ3, e4, ?_⟩
    replace h : EC C f 18 ab_main 711 [some (rf 98 (0)), some (rf 11 (0)), some (rf 13 (14)), some (rf 13 (15)), some (rf 13 (16)), some (rf 13 (17)), some (rf 14 (6)), some (.inl (u7)), some (.inl (u8)), y9, y10, some (.inl (u11)), some (.inl (u12)), some (.inr (.inl (u13))), none, y15, y16, y17] [] σ3 (w, σ') := h
    refine ⟨vp_2 ht2, ?_⟩
    replace h := ec_p h rfl rfl rfl rfl
    obtain ⟨f, g, h⟩ := h
    replace hf := Nat.lt_trans g hf
    clear g
    replace h : EC C f 18 ab_main 925 [some (rf 98 (0)), some (rf 11 (0)), some (rf 13 (14)), some (rf 13 (15)), some (rf 13 (16)), some (rf 13 (17)), some (rf 14 (6)), some (.inl (u7)), some (.inl (u8)), y9, y10, some (.inl (u11)), some (.inl (u12)), some (.inr (.inl (u13))), none, y15, y16, y17] [] σ3 (w, σ') := h
    exact H925 f hf (u7) (u8) (u11) y9 y10 (some (.inl (u12))) (some (.inr (.inl (u13)))) (none) y15 y16 y17 σ3 hsσ3 h
  · skip
    replace hp1 : ¬ ((u12).toInt ≤ (50 : Int)) := (not_congr ic_le).mp hp1
    refine Or.inr ⟨hp1, ?_⟩
    replace hf := Nat.lt_trans g hf
    clear g
    replace h : EC C f 18 ab_main 700 [some (rf 98 (0)), some (rf 11 (0)), some (rf 13 (14)), some (rf 13 (15)), some (rf 13 (16)), some (rf 13 (17)), some (rf 14 (6)), some (.inl (u7)), some (.inl (u8)), y9, y10, some (.inl (u11)), some (.inl (u12)), some (.inr (.inl (u13))), none, y15, y16, y17] [.inl (Int32.ofInt 4), rf 13 (17)] τ (w, σ') := h
    replace h := ec_p h rfl rfl rfl rfl
    obtain ⟨f, g, h⟩ := h
    replace hf := Nat.lt_trans g hf
    clear g
    replace h : EC C f 18 ab_main 702 [some (rf 98 (0)), some (rf 11 (0)), some (rf 13 (14)), some (rf 13 (15)), some (rf 13 (16)), some (rf 13 (17)), some (rf 14 (6)), some (.inl (u7)), some (.inl (u8)), y9, y10, some (.inl (u11)), some (.inl (u12)), some (.inr (.inl (u13))), none, y15, y16, y17] [rf 13 (17), .inl (Int32.ofInt 4), rf 13 (17)] τ (w, σ') := h
    replace h := ec_p h rfl rfl rfl rfl
    obtain ⟨f, g, h⟩ := h
    replace hf := Nat.lt_trans g hf
    clear g
    replace h : EC C f 18 ab_main 703 [some (rf 98 (0)), some (rf 11 (0)), some (rf 13 (14)), some (rf 13 (15)), some (rf 13 (16)), some (rf 13 (17)), some (rf 14 (6)), some (.inl (u7)), some (.inl (u8)), y9, y10, some (.inl (u11)), some (.inl (u12)), some (.inr (.inl (u13))), none, y15, y16, y17] [.inl (Int32.ofInt 4), rf 13 (17), .inl (Int32.ofInt 4), rf 13 (17)] τ (w, σ') := h
    replace h := ec_iald h rfl (fun _ => rfl)
    obtain ⟨vp5, f, g, h⟩ := h
    replace hf := Nat.lt_trans g hf
    clear g
    replace h : EC C f 18 ab_main 704 [some (rf 98 (0)), some (rf 11 (0)), some (rf 13 (14)), some (rf 13 (15)), some (rf 13 (16)), some (rf 13 (17)), some (rf 14 (6)), some (.inl (u7)), some (.inl (u8)), y9, y10, some (.inl (u11)), some (.inl (u12)), some (.inr (.inl (u13))), none, y15, y16, y17] [.inl (m_i τ 13 (17) (Int32.ofInt 4).toNatClampNeg), .inl (Int32.ofInt 4), rf 13 (17)] τ (w, σ') := h
    refine ⟨vp_2 vp5, ?_⟩
    replace h := ec_p h rfl rfl rfl rfl
    obtain ⟨f, g, h⟩ := h
    replace hf := Nat.lt_trans g hf
    clear g
    replace h : EC C f 18 ab_main 710 [some (rf 98 (0)), some (rf 11 (0)), some (rf 13 (14)), some (rf 13 (15)), some (rf 13 (16)), some (rf 13 (17)), some (rf 14 (6)), some (.inl (u7)), some (.inl (u8)), y9, y10, some (.inl (u11)), some (.inl (u12)), some (.inr (.inl (u13))), none, y15, y16, y17] [.inl (m_i τ 13 (17) (Int32.ofInt 4).toNatClampNeg), .inl (Int32.ofInt 4), rf 13 (17)] τ (w, σ') := h
    replace h := ec_iast h rfl
    obtain ⟨ht6, f, g, h⟩ := h
    replace hf := Nat.lt_trans g hf
    clear g
    obtain ⟨σ7, e8⟩ : ∃ s, s = m_set τ 13 (17) ((Int32.ofInt 4).toNatClampNeg) (.inl (m_i τ 13 (17) (Int32.ofInt 4).toNatClampNeg)) := ⟨_, rfl⟩
    rw [← e8] at h
    have hsσ7 : HL σ7 := by rw [e8]; exact HL_set hsτ rfl
    refine ⟨σ7, e8, ?_⟩
    replace h : EC C f 18 ab_main 711 [some (rf 98 (0)), some (rf 11 (0)), some (rf 13 (14)), some (rf 13 (15)), some (rf 13 (16)), some (rf 13 (17)), some (rf 14 (6)), some (.inl (u7)), some (.inl (u8)), y9, y10, some (.inl (u11)), some (.inl (u12)), some (.inr (.inl (u13))), none, y15, y16, y17] [] σ7 (w, σ') := h
    refine ⟨vp_2 ht6, ?_⟩
    replace h := ec_p h rfl rfl rfl rfl
    obtain ⟨f, g, h⟩ := h
    replace hf := Nat.lt_trans g hf
    clear g
    replace h : EC C f 18 ab_main 925 [some (rf 98 (0)), some (rf 11 (0)), some (rf 13 (14)), some (rf 13 (15)), some (rf 13 (16)), some (rf 13 (17)), some (rf 14 (6)), some (.inl (u7)), some (.inl (u8)), y9, y10, some (.inl (u11)), some (.inl (u12)), some (.inr (.inl (u13))), none, y15, y16, y17] [] σ7 (w, σ') := h
    exact H925 f hf (u7) (u8) (u11) y9 y10 (some (.inl (u12))) (some (.inr (.inl (u13)))) (none) y15 y16 y17 σ7 hsσ7 h
def T714 (K775 : Int32 → Int32 → Int32 → Int32 → Int32 → Int32 → mS → Prop) (K925 : Int32 → Int32 → Int32 → mS → Prop) (u8 : Int32) (u9 : Int32) (u10 : Int32) (u11 : Int32) (τ : mS) (w : mX) (σ' : mS) : Prop := (((41 : Int) ≤ (u9).toInt ∧ ((∃ v2 σ3, ev_run sm_all 189 [rf 11 (0), .inl (u10), .inl (u11)] τ (.inl (some (.inl v2))) σ3 ∧ P189 τ (u10) (u11) (.inl (some (.inl v2))) σ3 ∧ (HL σ3 → K925 (v2) (u8) (u11) σ3)) ∨ (∃ b, P189 τ (u10) (u11) (.inr b) σ' ∧ w = .inr b))) ∨ (¬ ((41 : Int) ≤ (u9).toInt) ∧ ∃ n7, n7 = (u10) - (u10) / (Int32.ofInt 3) * (Int32.ofInt 3) ∧ ∃ n11, n11 = ((u10) / (Int32.ofInt 3)) - ((u10) / (Int32.ofInt 3)) / (Int32.ofInt 3) * (Int32.ofInt 3) ∧ (((n7).toInt = (n11).toInt ∧ K775 (u8) (u10) (u11) (n7) (n11) (Int32.ofInt 0) τ) ∨ (¬ ((n7).toInt = (n11).toInt) ∧ ((∃ v14, P140 τ (n7) (.inl (some (.inl v14))) τ ∧ ((((v14) - (v14) / (Int32.ofInt 10) * (Int32.ofInt 10)).toInt = (1 : Int) ∧ K775 (u8) (u10) (u11) (n7) (n11) (Int32.ofInt 1) τ) ∨ (¬ (((v14) - (v14) / (Int32.ofInt 10) * (Int32.ofInt 10)).toInt = (1 : Int)) ∧ ((∃ v20, P140 τ (n11) (.inl (some (.inl v20))) τ ∧ ((((v20) - (v20) / (Int32.ofInt 10) * (Int32.ofInt 10)).toInt ≠ (1 : Int) ∧ K775 (u8) (u10) (u11) (n7) (n11) (Int32.ofInt 0) τ) ∨ (¬ (((v20) - (v20) / (Int32.ofInt 10) * (Int32.ofInt 10)).toInt ≠ (1 : Int)) ∧ K775 (u8) (u10) (u11) (n7) (n11) (Int32.ofInt 1) τ))) ∨ (∃ b, P140 τ (n11) (.inr b) τ ∧ w = .inr b ∧ σ' = τ))))) ∨ (∃ b, P140 τ (n7) (.inr b) τ ∧ w = .inr b ∧ σ' = τ))))))
set_option maxRecDepth 100000 in
theorem t714 {C : ec_C} (hC : CK C) {N : Nat} {w : mX} {σ' : mS} {K775 : Int32 → Int32 → Int32 → Int32 → Int32 → Int32 → mS → Prop} {K925 : Int32 → Int32 → Int32 → mS → Prop} (H775 : ∀ f, f < N → ∀ (u8 : Int32) (u10 : Int32) (u11 : Int32) (u12 : Int32) (u13 : Int32) (u14 : Int32) (y7 : Option mV) (y9 : Option mV) (y15 : Option mV) (y16 : Option mV) (y17 : Option mV) (τ : mS), HL τ → EC C f 18 ab_main 775 [some (rf 98 (0)), some (rf 11 (0)), some (rf 13 (14)), some (rf 13 (15)), some (rf 13 (16)), some (rf 13 (17)), some (rf 14 (6)), y7, some (.inl (u8)), y9, some (.inl (u10)), some (.inl (u11)), some (.inl (u12)), some (.inl (u13)), some (.inl (u14)), y15, y16, y17] [] τ (w, σ') → K775 u8 u10 u11 u12 u13 u14 τ) (H925 : ∀ f, f < N → ∀ (u7 : Int32) (u8 : Int32) (u11 : Int32) (y9 : Option mV) (y10 : Option mV) (y12 : Option mV) (y13 : Option mV) (y14 : Option mV) (y15 : Option mV) (y16 : Option mV) (y17 : Option mV) (τ : mS), HL τ → EC C f 18 ab_main 925 [some (rf 98 (0)), some (rf 11 (0)), some (rf 13 (14)), some (rf 13 (15)), some (rf 13 (16)), some (rf 13 (17)), some (rf 14 (6)), some (.inl (u7)), some (.inl (u8)), y9, y10, some (.inl (u11)), y12, y13, y14, y15, y16, y17] [] τ (w, σ') → K925 u7 u8 u11 τ) : ∀ f, f < N + 1 → ∀ (u8 : Int32) (u9 : Int32) (u10 : Int32) (u11 : Int32) (y7 : Option mV) (y12 : Option mV) (y13 : Option mV) (y14 : Option mV) (y15 : Option mV) (y16 : Option mV) (y17 : Option mV) (τ : mS), HL τ → EC C f 18 ab_main 714 [some (rf 98 (0)), some (rf 11 (0)), some (rf 13 (14)), some (rf 13 (15)), some (rf 13 (16)), some (rf 13 (17)), some (rf 14 (6)), y7, some (.inl (u8)), some (.inl (u9)), some (.inl (u10)), some (.inl (u11)), y12, y13, y14, y15, y16, y17] [] τ (w, σ') → T714 K775 K925 u8 u9 u10 u11 τ w σ' := by
  intro f hf0 u8 u9 u10 u11 y7 y12 y13 y14 y15 y16 y17 τ hsτ h
  have hf : f < N + 1 := hf0
  clear hf0
  unfold T714
  replace h : EC C f 18 ab_main 714 [some (rf 98 (0)), some (rf 11 (0)), some (rf 13 (14)), some (rf 13 (15)), some (rf 13 (16)), some (rf 13 (17)), some (rf 14 (6)), y7, some (.inl (u8)), some (.inl (u9)), some (.inl (u10)), some (.inl (u11)), y12, y13, y14, y15, y16, y17] [] τ (w, σ') := h
  replace h := ec_p h rfl rfl rfl rfl
  obtain ⟨f, g, h⟩ := h
  replace hf := Nat.lt_of_lt_of_le g (Nat.le_of_lt_succ hf)
  clear g
  replace h : EC C f 18 ab_main 716 [some (rf 98 (0)), some (rf 11 (0)), some (rf 13 (14)), some (rf 13 (15)), some (rf 13 (16)), some (rf 13 (17)), some (rf 14 (6)), y7, some (.inl (u8)), some (.inl (u9)), some (.inl (u10)), some (.inl (u11)), y12, y13, y14, y15, y16, y17] [.inl (u9)] τ (w, σ') := h
  replace h := ec_p h rfl rfl rfl rfl
  obtain ⟨f, g, h⟩ := h
  replace hf := Nat.lt_trans g hf
  clear g
  replace h : EC C f 18 ab_main 718 [some (rf 98 (0)), some (rf 11 (0)), some (rf 13 (14)), some (rf 13 (15)), some (rf 13 (16)), some (rf 13 (17)), some (rf 14 (6)), y7, some (.inl (u8)), some (.inl (u9)), some (.inl (u10)), some (.inl (u11)), y12, y13, y14, y15, y16, y17] [.inl (Int32.ofInt 41), .inl (u9)] τ (w, σ') := h
  replace h := ec_c h rfl rfl rfl
  rcases h with ⟨hp1, f, g, h⟩ | ⟨hp1, f, g, h⟩
  · skip
    replace hp1 : (41 : Int) ≤ (u9).toInt := ic_ge.mp hp1
    refine Or.inl ⟨hp1, ?_⟩
    replace hf := Nat.lt_trans g hf
    clear g
    replace h : EC C f 18 ab_main 915 [some (rf 98 (0)), some (rf 11 (0)), some (rf 13 (14)), some (rf 13 (15)), some (rf 13 (16)), some (rf 13 (17)), some (rf 14 (6)), y7, some (.inl (u8)), some (.inl (u9)), some (.inl (u10)), some (.inl (u11)), y12, y13, y14, y15, y16, y17] [] τ (w, σ') := h
    replace h := ec_p h rfl rfl rfl rfl
    obtain ⟨f, g, h⟩ := h
    replace hf := Nat.lt_trans g hf
    clear g
    replace h : EC C f 18 ab_main 916 [some (rf 98 (0)), some (rf 11 (0)), some (rf 13 (14)), some (rf 13 (15)), some (rf 13 (16)), some (rf 13 (17)), some (rf 14 (6)), y7, some (.inl (u8)), some (.inl (u9)), some (.inl (u10)), some (.inl (u11)), y12, y13, y14, y15, y16, y17] [rf 11 (0)] τ (w, σ') := h
    replace h := ec_p h rfl rfl rfl rfl
    obtain ⟨f, g, h⟩ := h
    replace hf := Nat.lt_trans g hf
    clear g
    replace h : EC C f 18 ab_main 918 [some (rf 98 (0)), some (rf 11 (0)), some (rf 13 (14)), some (rf 13 (15)), some (rf 13 (16)), some (rf 13 (17)), some (rf 14 (6)), y7, some (.inl (u8)), some (.inl (u9)), some (.inl (u10)), some (.inl (u11)), y12, y13, y14, y15, y16, y17] [.inl (u10), rf 11 (0)] τ (w, σ') := h
    replace h := ec_p h rfl rfl rfl rfl
    obtain ⟨f, g, h⟩ := h
    replace hf := Nat.lt_trans g hf
    clear g
    replace h : EC C f 18 ab_main 920 [some (rf 98 (0)), some (rf 11 (0)), some (rf 13 (14)), some (rf 13 (15)), some (rf 13 (16)), some (rf 13 (17)), some (rf 14 (6)), y7, some (.inl (u8)), some (.inl (u9)), some (.inl (u10)), some (.inl (u11)), y12, y13, y14, y15, y16, y17] [.inl (u11), .inl (u10), rf 11 (0)] τ (w, σ') := h
    replace h := cx_I hC (ec_s (as := [.inl (u11), .inl (u10), rf 11 (0)]) h rfl (Nat.le_of_ble_eq_true rfl) rfl rfl) rfl z189_at (Or.inr rfl)
    rcases h with ⟨v2, σ3, r4, f, g, h⟩ | ⟨b, σ3, r4, e⟩
    · skip
      replace hf := Nat.lt_trans g hf
      clear g
      have p5 := x189 hsτ r4
      refine Or.inl ⟨v2, σ3, r4, p5, fun hsσ3 => ?_⟩
      replace h : EC C f 18 ab_main 923 [some (rf 98 (0)), some (rf 11 (0)), some (rf 13 (14)), some (rf 13 (15)), some (rf 13 (16)), some (rf 13 (17)), some (rf 14 (6)), y7, some (.inl (u8)), some (.inl (u9)), some (.inl (u10)), some (.inl (u11)), y12, y13, y14, y15, y16, y17] [.inl (v2)] σ3 (w, σ') := h
      replace h := ec_p h rfl rfl rfl rfl
      obtain ⟨f, g, h⟩ := h
      replace hf := Nat.lt_trans g hf
      clear g
      replace h : EC C f 18 ab_main 925 [some (rf 98 (0)), some (rf 11 (0)), some (rf 13 (14)), some (rf 13 (15)), some (rf 13 (16)), some (rf 13 (17)), some (rf 14 (6)), some (.inl (v2)), some (.inl (u8)), some (.inl (u9)), some (.inl (u10)), some (.inl (u11)), y12, y13, y14, y15, y16, y17] [] σ3 (w, σ') := h
      exact H925 f hf (v2) (u8) (u11) (some (.inl (u9))) (some (.inl (u10))) y12 y13 y14 y15 y16 y17 σ3 hsσ3 h
    · skip
      have p5 := x189 hsτ r4
      cases e
      exact Or.inr ⟨b, p5, rfl⟩
  · skip
    replace hp1 : ¬ ((41 : Int) ≤ (u9).toInt) := (not_congr ic_ge).mp hp1
    refine Or.inr ⟨hp1, ?_⟩
    replace hf := Nat.lt_trans g hf
    clear g
    replace h : EC C f 18 ab_main 721 [some (rf 98 (0)), some (rf 11 (0)), some (rf 13 (14)), some (rf 13 (15)), some (rf 13 (16)), some (rf 13 (17)), some (rf 14 (6)), y7, some (.inl (u8)), some (.inl (u9)), some (.inl (u10)), some (.inl (u11)), y12, y13, y14, y15, y16, y17] [] τ (w, σ') := h
    replace h := ec_p h rfl rfl rfl rfl
    obtain ⟨f, g, h⟩ := h
    replace hf := Nat.lt_trans g hf
    clear g
    replace h : EC C f 18 ab_main 723 [some (rf 98 (0)), some (rf 11 (0)), some (rf 13 (14)), some (rf 13 (15)), some (rf 13 (16)), some (rf 13 (17)), some (rf 14 (6)), y7, some (.inl (u8)), some (.inl (u9)), some (.inl (u10)), some (.inl (u11)), y12, y13, y14, y15, y16, y17] [.inl (u10)] τ (w, σ') := h
    replace h := ec_p h rfl rfl rfl rfl
    obtain ⟨f, g, h⟩ := h
    replace hf := Nat.lt_trans g hf
    clear g
    replace h : EC C f 18 ab_main 724 [some (rf 98 (0)), some (rf 11 (0)), some (rf 13 (14)), some (rf 13 (15)), some (rf 13 (16)), some (rf 13 (17)), some (rf 14 (6)), y7, some (.inl (u8)), some (.inl (u9)), some (.inl (u10)), some (.inl (u11)), y12, y13, y14, y15, y16, y17] [.inl (Int32.ofInt 3), .inl (u10)] τ (w, σ') := h
    replace h := ec_irem h rfl
    obtain ⟨hd6, f, g, h⟩ := h
    replace hf := Nat.lt_trans g hf
    clear g
    replace h : EC C f 18 ab_main 725 [some (rf 98 (0)), some (rf 11 (0)), some (rf 13 (14)), some (rf 13 (15)), some (rf 13 (16)), some (rf 13 (17)), some (rf 14 (6)), y7, some (.inl (u8)), some (.inl (u9)), some (.inl (u10)), some (.inl (u11)), y12, y13, y14, y15, y16, y17] [.inl ((u10) - (u10) / (Int32.ofInt 3) * (Int32.ofInt 3))] τ (w, σ') := h
    replace h := ec_p h rfl rfl rfl rfl
    obtain ⟨f, g, h⟩ := h
    replace hf := Nat.lt_trans g hf
    clear g
    replace h : EC C f 18 ab_main 727 [some (rf 98 (0)), some (rf 11 (0)), some (rf 13 (14)), some (rf 13 (15)), some (rf 13 (16)), some (rf 13 (17)), some (rf 14 (6)), y7, some (.inl (u8)), some (.inl (u9)), some (.inl (u10)), some (.inl (u11)), some (.inl ((u10) - (u10) / (Int32.ofInt 3) * (Int32.ofInt 3))), y13, y14, y15, y16, y17] [] τ (w, σ') := h
    obtain ⟨n7, e8⟩ : ∃ s, s = (u10) - (u10) / (Int32.ofInt 3) * (Int32.ofInt 3) := ⟨_, rfl⟩
    rw [← e8] at h
    refine ⟨n7, e8, ?_⟩
    replace h : EC C f 18 ab_main 727 [some (rf 98 (0)), some (rf 11 (0)), some (rf 13 (14)), some (rf 13 (15)), some (rf 13 (16)), some (rf 13 (17)), some (rf 14 (6)), y7, some (.inl (u8)), some (.inl (u9)), some (.inl (u10)), some (.inl (u11)), some (.inl (n7)), y13, y14, y15, y16, y17] [] τ (w, σ') := h
    replace h := ec_p h rfl rfl rfl rfl
    obtain ⟨f, g, h⟩ := h
    replace hf := Nat.lt_trans g hf
    clear g
    replace h : EC C f 18 ab_main 729 [some (rf 98 (0)), some (rf 11 (0)), some (rf 13 (14)), some (rf 13 (15)), some (rf 13 (16)), some (rf 13 (17)), some (rf 14 (6)), y7, some (.inl (u8)), some (.inl (u9)), some (.inl (u10)), some (.inl (u11)), some (.inl (n7)), y13, y14, y15, y16, y17] [.inl (u10)] τ (w, σ') := h
    replace h := ec_p h rfl rfl rfl rfl
    obtain ⟨f, g, h⟩ := h
    replace hf := Nat.lt_trans g hf
    clear g
    replace h : EC C f 18 ab_main 730 [some (rf 98 (0)), some (rf 11 (0)), some (rf 13 (14)), some (rf 13 (15)), some (rf 13 (16)), some (rf 13 (17)), some (rf 14 (6)), y7, some (.inl (u8)), some (.inl (u9)), some (.inl (u10)), some (.inl (u11)), some (.inl (n7)), y13, y14, y15, y16, y17] [.inl (Int32.ofInt 3), .inl (u10)] τ (w, σ') := h
    replace h := ec_idiv h rfl
    obtain ⟨hd9, f, g, h⟩ := h
    replace hf := Nat.lt_trans g hf
    clear g
    replace h : EC C f 18 ab_main 731 [some (rf 98 (0)), some (rf 11 (0)), some (rf 13 (14)), some (rf 13 (15)), some (rf 13 (16)), some (rf 13 (17)), some (rf 14 (6)), y7, some (.inl (u8)), some (.inl (u9)), some (.inl (u10)), some (.inl (u11)), some (.inl (n7)), y13, y14, y15, y16, y17] [.inl ((u10) / (Int32.ofInt 3))] τ (w, σ') := h
    replace h := ec_p h rfl rfl rfl rfl
    obtain ⟨f, g, h⟩ := h
    replace hf := Nat.lt_trans g hf
    clear g
    replace h : EC C f 18 ab_main 732 [some (rf 98 (0)), some (rf 11 (0)), some (rf 13 (14)), some (rf 13 (15)), some (rf 13 (16)), some (rf 13 (17)), some (rf 14 (6)), y7, some (.inl (u8)), some (.inl (u9)), some (.inl (u10)), some (.inl (u11)), some (.inl (n7)), y13, y14, y15, y16, y17] [.inl (Int32.ofInt 3), .inl ((u10) / (Int32.ofInt 3))] τ (w, σ') := h
    replace h := ec_irem h rfl
    obtain ⟨hd10, f, g, h⟩ := h
    replace hf := Nat.lt_trans g hf
    clear g
    replace h : EC C f 18 ab_main 733 [some (rf 98 (0)), some (rf 11 (0)), some (rf 13 (14)), some (rf 13 (15)), some (rf 13 (16)), some (rf 13 (17)), some (rf 14 (6)), y7, some (.inl (u8)), some (.inl (u9)), some (.inl (u10)), some (.inl (u11)), some (.inl (n7)), y13, y14, y15, y16, y17] [.inl (((u10) / (Int32.ofInt 3)) - ((u10) / (Int32.ofInt 3)) / (Int32.ofInt 3) * (Int32.ofInt 3))] τ (w, σ') := h
    replace h := ec_p h rfl rfl rfl rfl
    obtain ⟨f, g, h⟩ := h
    replace hf := Nat.lt_trans g hf
    clear g
    replace h : EC C f 18 ab_main 735 [some (rf 98 (0)), some (rf 11 (0)), some (rf 13 (14)), some (rf 13 (15)), some (rf 13 (16)), some (rf 13 (17)), some (rf 14 (6)), y7, some (.inl (u8)), some (.inl (u9)), some (.inl (u10)), some (.inl (u11)), some (.inl (n7)), some (.inl (((u10) / (Int32.ofInt 3)) - ((u10) / (Int32.ofInt 3)) / (Int32.ofInt 3) * (Int32.ofInt 3))), y14, y15, y16, y17] [] τ (w, σ') := h
    obtain ⟨n11, e12⟩ : ∃ s, s = ((u10) / (Int32.ofInt 3)) - ((u10) / (Int32.ofInt 3)) / (Int32.ofInt 3) * (Int32.ofInt 3) := ⟨_, rfl⟩
    rw [← e12] at h
    refine ⟨n11, e12, ?_⟩
    replace h : EC C f 18 ab_main 735 [some (rf 98 (0)), some (rf 11 (0)), some (rf 13 (14)), some (rf 13 (15)), some (rf 13 (16)), some (rf 13 (17)), some (rf 14 (6)), y7, some (.inl (u8)), some (.inl (u9)), some (.inl (u10)), some (.inl (u11)), some (.inl (n7)), some (.inl (n11)), y14, y15, y16, y17] [] τ (w, σ') := h
    replace h := ec_p h rfl rfl rfl rfl
    obtain ⟨f, g, h⟩ := h
    replace hf := Nat.lt_trans g hf
    clear g
    replace h : EC C f 18 ab_main 737 [some (rf 98 (0)), some (rf 11 (0)), some (rf 13 (14)), some (rf 13 (15)), some (rf 13 (16)), some (rf 13 (17)), some (rf 14 (6)), y7, some (.inl (u8)), some (.inl (u9)), some (.inl (u10)), some (.inl (u11)), some (.inl (n7)), some (.inl (n11)), y14, y15, y16, y17] [.inl (n7)] τ (w, σ') := h
    replace h := ec_p h rfl rfl rfl rfl
    obtain ⟨f, g, h⟩ := h
    replace hf := Nat.lt_trans g hf
    clear g
    replace h : EC C f 18 ab_main 739 [some (rf 98 (0)), some (rf 11 (0)), some (rf 13 (14)), some (rf 13 (15)), some (rf 13 (16)), some (rf 13 (17)), some (rf 14 (6)), y7, some (.inl (u8)), some (.inl (u9)), some (.inl (u10)), some (.inl (u11)), some (.inl (n7)), some (.inl (n11)), y14, y15, y16, y17] [.inl (n11), .inl (n7)] τ (w, σ') := h
    replace h := ec_c h rfl rfl rfl
    rcases h with ⟨hp13, f, g, h⟩ | ⟨hp13, f, g, h⟩
    · skip
      replace hp13 : (n7).toInt = (n11).toInt := ic_eq.mp hp13
      refine Or.inl ⟨hp13, ?_⟩
      replace hf := Nat.lt_trans g hf
      clear g
      replace h : EC C f 18 ab_main 772 [some (rf 98 (0)), some (rf 11 (0)), some (rf 13 (14)), some (rf 13 (15)), some (rf 13 (16)), some (rf 13 (17)), some (rf 14 (6)), y7, some (.inl (u8)), some (.inl (u9)), some (.inl (u10)), some (.inl (u11)), some (.inl (n7)), some (.inl (n11)), y14, y15, y16, y17] [] τ (w, σ') := h
      replace h := ec_p h rfl rfl rfl rfl
      obtain ⟨f, g, h⟩ := h
      replace hf := Nat.lt_trans g hf
      clear g
      replace h : EC C f 18 ab_main 773 [some (rf 98 (0)), some (rf 11 (0)), some (rf 13 (14)), some (rf 13 (15)), some (rf 13 (16)), some (rf 13 (17)), some (rf 14 (6)), y7, some (.inl (u8)), some (.inl (u9)), some (.inl (u10)), some (.inl (u11)), some (.inl (n7)), some (.inl (n11)), y14, y15, y16, y17] [.inl (Int32.ofInt 0)] τ (w, σ') := h
      replace h := ec_p h rfl rfl rfl rfl
      obtain ⟨f, g, h⟩ := h
      replace hf := Nat.lt_trans g hf
      clear g
      replace h : EC C f 18 ab_main 775 [some (rf 98 (0)), some (rf 11 (0)), some (rf 13 (14)), some (rf 13 (15)), some (rf 13 (16)), some (rf 13 (17)), some (rf 14 (6)), y7, some (.inl (u8)), some (.inl (u9)), some (.inl (u10)), some (.inl (u11)), some (.inl (n7)), some (.inl (n11)), some (.inl (Int32.ofInt 0)), y15, y16, y17] [] τ (w, σ') := h
      exact H775 f hf (u8) (u10) (u11) (n7) (n11) (Int32.ofInt 0) y7 (some (.inl (u9))) y15 y16 y17 τ hsτ h
    · skip
      replace hp13 : ¬ ((n7).toInt = (n11).toInt) := (not_congr ic_eq).mp hp13
      refine Or.inr ⟨hp13, ?_⟩
      replace hf := Nat.lt_trans g hf
      clear g
      replace h : EC C f 18 ab_main 742 [some (rf 98 (0)), some (rf 11 (0)), some (rf 13 (14)), some (rf 13 (15)), some (rf 13 (16)), some (rf 13 (17)), some (rf 14 (6)), y7, some (.inl (u8)), some (.inl (u9)), some (.inl (u10)), some (.inl (u11)), some (.inl (n7)), some (.inl (n11)), y14, y15, y16, y17] [] τ (w, σ') := h
      replace h := ec_p h rfl rfl rfl rfl
      obtain ⟨f, g, h⟩ := h
      replace hf := Nat.lt_trans g hf
      clear g
      replace h : EC C f 18 ab_main 743 [some (rf 98 (0)), some (rf 11 (0)), some (rf 13 (14)), some (rf 13 (15)), some (rf 13 (16)), some (rf 13 (17)), some (rf 14 (6)), y7, some (.inl (u8)), some (.inl (u9)), some (.inl (u10)), some (.inl (u11)), some (.inl (n7)), some (.inl (n11)), y14, y15, y16, y17] [rf 11 (0)] τ (w, σ') := h
      replace h := ec_p h rfl rfl rfl rfl
      obtain ⟨f, g, h⟩ := h
      replace hf := Nat.lt_trans g hf
      clear g
      replace h : EC C f 18 ab_main 745 [some (rf 98 (0)), some (rf 11 (0)), some (rf 13 (14)), some (rf 13 (15)), some (rf 13 (16)), some (rf 13 (17)), some (rf 14 (6)), y7, some (.inl (u8)), some (.inl (u9)), some (.inl (u10)), some (.inl (u11)), some (.inl (n7)), some (.inl (n11)), y14, y15, y16, y17] [.inl (n7), rf 11 (0)] τ (w, σ') := h
      replace h := cx_I hC (ec_v (as := [.inl (n7)]) h rfl rfl rfl) rfl z140_at (Or.inl rfl)
      rcases h with ⟨v14, σ15, r16, f, g, h⟩ | ⟨b, σ15, r16, e⟩
      · skip
        have er16 := ro2_run rfl r16
        rw [er16] at h r16
        replace hf := Nat.lt_trans g hf
        clear g
        have p17 := x140 hsτ.1 r16
        refine Or.inl ⟨v14, p17, ?_⟩
        replace h : EC C f 18 ab_main 748 [some (rf 98 (0)), some (rf 11 (0)), some (rf 13 (14)), some (rf 13 (15)), some (rf 13 (16)), some (rf 13 (17)), some (rf 14 (6)), y7, some (.inl (u8)), some (.inl (u9)), some (.inl (u10)), some (.inl (u11)), some (.inl (n7)), some (.inl (n11)), y14, y15, y16, y17] [.inl (v14)] τ (w, σ') := h
        replace h := ec_p h rfl rfl rfl rfl
        obtain ⟨f, g, h⟩ := h
        replace hf := Nat.lt_trans g hf
        clear g
        replace h : EC C f 18 ab_main 750 [some (rf 98 (0)), some (rf 11 (0)), some (rf 13 (14)), some (rf 13 (15)), some (rf 13 (16)), some (rf 13 (17)), some (rf 14 (6)), y7, some (.inl (u8)), some (.inl (u9)), some (.inl (u10)), some (.inl (u11)), some (.inl (n7)), some (.inl (n11)), y14, y15, y16, y17] [.inl (Int32.ofInt 10), .inl (v14)] τ (w, σ') := h
        replace h := ec_irem h rfl
        obtain ⟨hd18, f, g, h⟩ := h
        replace hf := Nat.lt_trans g hf
        clear g
        replace h : EC C f 18 ab_main 751 [some (rf 98 (0)), some (rf 11 (0)), some (rf 13 (14)), some (rf 13 (15)), some (rf 13 (16)), some (rf 13 (17)), some (rf 14 (6)), y7, some (.inl (u8)), some (.inl (u9)), some (.inl (u10)), some (.inl (u11)), some (.inl (n7)), some (.inl (n11)), y14, y15, y16, y17] [.inl ((v14) - (v14) / (Int32.ofInt 10) * (Int32.ofInt 10))] τ (w, σ') := h
        replace h := ec_p h rfl rfl rfl rfl
        obtain ⟨f, g, h⟩ := h
        replace hf := Nat.lt_trans g hf
        clear g
        replace h : EC C f 18 ab_main 752 [some (rf 98 (0)), some (rf 11 (0)), some (rf 13 (14)), some (rf 13 (15)), some (rf 13 (16)), some (rf 13 (17)), some (rf 14 (6)), y7, some (.inl (u8)), some (.inl (u9)), some (.inl (u10)), some (.inl (u11)), some (.inl (n7)), some (.inl (n11)), y14, y15, y16, y17] [.inl (Int32.ofInt 1), .inl ((v14) - (v14) / (Int32.ofInt 10) * (Int32.ofInt 10))] τ (w, σ') := h
        replace h := ec_c h rfl rfl rfl
        rcases h with ⟨hp19, f, g, h⟩ | ⟨hp19, f, g, h⟩
        · skip
          replace hp19 : ((v14) - (v14) / (Int32.ofInt 10) * (Int32.ofInt 10)).toInt = (1 : Int) := ic_eq.mp hp19
          refine Or.inl ⟨hp19, ?_⟩
          replace hf := Nat.lt_trans g hf
          clear g
          replace h : EC C f 18 ab_main 768 [some (rf 98 (0)), some (rf 11 (0)), some (rf 13 (14)), some (rf 13 (15)), some (rf 13 (16)), some (rf 13 (17)), some (rf 14 (6)), y7, some (.inl (u8)), some (.inl (u9)), some (.inl (u10)), some (.inl (u11)), some (.inl (n7)), some (.inl (n11)), y14, y15, y16, y17] [] τ (w, σ') := h
          replace h := ec_p h rfl rfl rfl rfl
          obtain ⟨f, g, h⟩ := h
          replace hf := Nat.lt_trans g hf
          clear g
          replace h : EC C f 18 ab_main 769 [some (rf 98 (0)), some (rf 11 (0)), some (rf 13 (14)), some (rf 13 (15)), some (rf 13 (16)), some (rf 13 (17)), some (rf 14 (6)), y7, some (.inl (u8)), some (.inl (u9)), some (.inl (u10)), some (.inl (u11)), some (.inl (n7)), some (.inl (n11)), y14, y15, y16, y17] [.inl (Int32.ofInt 1)] τ (w, σ') := h
          replace h := ec_p h rfl rfl rfl rfl
          obtain ⟨f, g, h⟩ := h
          replace hf := Nat.lt_trans g hf
          clear g
          replace h : EC C f 18 ab_main 773 [some (rf 98 (0)), some (rf 11 (0)), some (rf 13 (14)), some (rf 13 (15)), some (rf 13 (16)), some (rf 13 (17)), some (rf 14 (6)), y7, some (.inl (u8)), some (.inl (u9)), some (.inl (u10)), some (.inl (u11)), some (.inl (n7)), some (.inl (n11)), y14, y15, y16, y17] [.inl (Int32.ofInt 1)] τ (w, σ') := h
          replace h := ec_p h rfl rfl rfl rfl
          obtain ⟨f, g, h⟩ := h
          replace hf := Nat.lt_trans g hf
          clear g
          replace h : EC C f 18 ab_main 775 [some (rf 98 (0)), some (rf 11 (0)), some (rf 13 (14)), some (rf 13 (15)), some (rf 13 (16)), some (rf 13 (17)), some (rf 14 (6)), y7, some (.inl (u8)), some (.inl (u9)), some (.inl (u10)), some (.inl (u11)), some (.inl (n7)), some (.inl (n11)), some (.inl (Int32.ofInt 1)), y15, y16, y17] [] τ (w, σ') := h
          exact H775 f hf (u8) (u10) (u11) (n7) (n11) (Int32.ofInt 1) y7 (some (.inl (u9))) y15 y16 y17 τ hsτ h
        · skip
          replace hp19 : ¬ (((v14) - (v14) / (Int32.ofInt 10) * (Int32.ofInt 10)).toInt = (1 : Int)) := (not_congr ic_eq).mp hp19
          refine Or.inr ⟨hp19, ?_⟩
          replace hf := Nat.lt_trans g hf
          clear g
          replace h : EC C f 18 ab_main 755 [some (rf 98 (0)), some (rf 11 (0)), some (rf 13 (14)), some (rf 13 (15)), some (rf 13 (16)), some (rf 13 (17)), some (rf 14 (6)), y7, some (.inl (u8)), some (.inl (u9)), some (.inl (u10)), some (.inl (u11)), some (.inl (n7)), some (.inl (n11)), y14, y15, y16, y17] [] τ (w, σ') := h
          replace h := ec_p h rfl rfl rfl rfl
          obtain ⟨f, g, h⟩ := h
          replace hf := Nat.lt_trans g hf
          clear g
          replace h : EC C f 18 ab_main 756 [some (rf 98 (0)), some (rf 11 (0)), some (rf 13 (14)), some (rf 13 (15)), some (rf 13 (16)), some (rf 13 (17)), some (rf 14 (6)), y7, some (.inl (u8)), some (.inl (u9)), some (.inl (u10)), some (.inl (u11)), some (.inl (n7)), some (.inl (n11)), y14, y15, y16, y17] [rf 11 (0)] τ (w, σ') := h
          replace h := ec_p h rfl rfl rfl rfl
          obtain ⟨f, g, h⟩ := h
          replace hf := Nat.lt_trans g hf
          clear g
          replace h : EC C f 18 ab_main 758 [some (rf 98 (0)), some (rf 11 (0)), some (rf 13 (14)), some (rf 13 (15)), some (rf 13 (16)), some (rf 13 (17)), some (rf 14 (6)), y7, some (.inl (u8)), some (.inl (u9)), some (.inl (u10)), some (.inl (u11)), some (.inl (n7)), some (.inl (n11)), y14, y15, y16, y17] [.inl (n11), rf 11 (0)] τ (w, σ') := h
          replace h := cx_I hC (ec_v (as := [.inl (n11)]) h rfl rfl rfl) rfl z140_at (Or.inl rfl)
          rcases h with ⟨v20, σ21, r22, f, g, h⟩ | ⟨b, σ21, r22, e⟩
          · skip
            have er22 := ro2_run rfl r22
            rw [er22] at h r22
            replace hf := Nat.lt_trans g hf
            clear g
            have p23 := x140 hsτ.1 r22
            refine Or.inl ⟨v20, p23, ?_⟩
            replace h : EC C f 18 ab_main 761 [some (rf 98 (0)), some (rf 11 (0)), some (rf 13 (14)), some (rf 13 (15)), some (rf 13 (16)), some (rf 13 (17)), some (rf 14 (6)), y7, some (.inl (u8)), some (.inl (u9)), some (.inl (u10)), some (.inl (u11)), some (.inl (n7)), some (.inl (n11)), y14, y15, y16, y17] [.inl (v20)] τ (w, σ') := h
            replace h := ec_p h rfl rfl rfl rfl
            obtain ⟨f, g, h⟩ := h
            replace hf := Nat.lt_trans g hf
            clear g
            replace h : EC C f 18 ab_main 763 [some (rf 98 (0)), some (rf 11 (0)), some (rf 13 (14)), some (rf 13 (15)), some (rf 13 (16)), some (rf 13 (17)), some (rf 14 (6)), y7, some (.inl (u8)), some (.inl (u9)), some (.inl (u10)), some (.inl (u11)), some (.inl (n7)), some (.inl (n11)), y14, y15, y16, y17] [.inl (Int32.ofInt 10), .inl (v20)] τ (w, σ') := h
            replace h := ec_irem h rfl
            obtain ⟨hd24, f, g, h⟩ := h
            replace hf := Nat.lt_trans g hf
            clear g
            replace h : EC C f 18 ab_main 764 [some (rf 98 (0)), some (rf 11 (0)), some (rf 13 (14)), some (rf 13 (15)), some (rf 13 (16)), some (rf 13 (17)), some (rf 14 (6)), y7, some (.inl (u8)), some (.inl (u9)), some (.inl (u10)), some (.inl (u11)), some (.inl (n7)), some (.inl (n11)), y14, y15, y16, y17] [.inl ((v20) - (v20) / (Int32.ofInt 10) * (Int32.ofInt 10))] τ (w, σ') := h
            replace h := ec_p h rfl rfl rfl rfl
            obtain ⟨f, g, h⟩ := h
            replace hf := Nat.lt_trans g hf
            clear g
            replace h : EC C f 18 ab_main 765 [some (rf 98 (0)), some (rf 11 (0)), some (rf 13 (14)), some (rf 13 (15)), some (rf 13 (16)), some (rf 13 (17)), some (rf 14 (6)), y7, some (.inl (u8)), some (.inl (u9)), some (.inl (u10)), some (.inl (u11)), some (.inl (n7)), some (.inl (n11)), y14, y15, y16, y17] [.inl (Int32.ofInt 1), .inl ((v20) - (v20) / (Int32.ofInt 10) * (Int32.ofInt 10))] τ (w, σ') := h
            replace h := ec_c h rfl rfl rfl
            rcases h with ⟨hp25, f, g, h⟩ | ⟨hp25, f, g, h⟩
            · skip
              replace hp25 : ((v20) - (v20) / (Int32.ofInt 10) * (Int32.ofInt 10)).toInt ≠ (1 : Int) := ic_ne.mp hp25
              refine Or.inl ⟨hp25, ?_⟩
              replace hf := Nat.lt_trans g hf
              clear g
              replace h : EC C f 18 ab_main 772 [some (rf 98 (0)), some (rf 11 (0)), some (rf 13 (14)), some (rf 13 (15)), some (rf 13 (16)), some (rf 13 (17)), some (rf 14 (6)), y7, some (.inl (u8)), some (.inl (u9)), some (.inl (u10)), some (.inl (u11)), some (.inl (n7)), some (.inl (n11)), y14, y15, y16, y17] [] τ (w, σ') := h
              replace h := ec_p h rfl rfl rfl rfl
              obtain ⟨f, g, h⟩ := h
              replace hf := Nat.lt_trans g hf
              clear g
              replace h : EC C f 18 ab_main 773 [some (rf 98 (0)), some (rf 11 (0)), some (rf 13 (14)), some (rf 13 (15)), some (rf 13 (16)), some (rf 13 (17)), some (rf 14 (6)), y7, some (.inl (u8)), some (.inl (u9)), some (.inl (u10)), some (.inl (u11)), some (.inl (n7)), some (.inl (n11)), y14, y15, y16, y17] [.inl (Int32.ofInt 0)] τ (w, σ') := h
              replace h := ec_p h rfl rfl rfl rfl
              obtain ⟨f, g, h⟩ := h
              replace hf := Nat.lt_trans g hf
              clear g
              replace h : EC C f 18 ab_main 775 [some (rf 98 (0)), some (rf 11 (0)), some (rf 13 (14)), some (rf 13 (15)), some (rf 13 (16)), some (rf 13 (17)), some (rf 14 (6)), y7, some (.inl (u8)), some (.inl (u9)), some (.inl (u10)), some (.inl (u11)), some (.inl (n7)), some (.inl (n11)), some (.inl (Int32.ofInt 0)), y15, y16, y17] [] τ (w, σ') := h
              exact H775 f hf (u8) (u10) (u11) (n7) (n11) (Int32.ofInt 0) y7 (some (.inl (u9))) y15 y16 y17 τ hsτ h
            · skip
              replace hp25 : ¬ (((v20) - (v20) / (Int32.ofInt 10) * (Int32.ofInt 10)).toInt ≠ (1 : Int)) := (not_congr ic_ne).mp hp25
              refine Or.inr ⟨hp25, ?_⟩
              replace hf := Nat.lt_trans g hf
              clear g
              replace h : EC C f 18 ab_main 768 [some (rf 98 (0)), some (rf 11 (0)), some (rf 13 (14)), some (rf 13 (15)), some (rf 13 (16)), some (rf 13 (17)), some (rf 14 (6)), y7, some (.inl (u8)), some (.inl (u9)), some (.inl (u10)), some (.inl (u11)), some (.inl (n7)), some (.inl (n11)), y14, y15, y16, y17] [] τ (w, σ') := h
              replace h := ec_p h rfl rfl rfl rfl
              obtain ⟨f, g, h⟩ := h
              replace hf := Nat.lt_trans g hf
              clear g
              replace h : EC C f 18 ab_main 769 [some (rf 98 (0)), some (rf 11 (0)), some (rf 13 (14)), some (rf 13 (15)), some (rf 13 (16)), some (rf 13 (17)), some (rf 14 (6)), y7, some (.inl (u8)), some (.inl (u9)), some (.inl (u10)), some (.inl (u11)), some (.inl (n7)), some (.inl (n11)), y14, y15, y16, y17] [.inl (Int32.ofInt 1)] τ (w, σ') := h
              replace h := ec_p h rfl rfl rfl rfl
              obtain ⟨f, g, h⟩ := h
              replace hf := Nat.lt_trans g hf
              clear g
              replace h : EC C f 18 ab_main 773 [some (rf 98 (0)), some (rf 11 (0)), some (rf 13 (14)), some (rf 13 (15)), some (rf 13 (16)), some (rf 13 (17)), some (rf 14 (6)), y7, some (.inl (u8)), some (.inl (u9)), some (.inl (u10)), some (.inl (u11)), some (.inl (n7)), some (.inl (n11)), y14, y15, y16, y17] [.inl (Int32.ofInt 1)] τ (w, σ') := h
              replace h := ec_p h rfl rfl rfl rfl
              obtain ⟨f, g, h⟩ := h
              replace hf := Nat.lt_trans g hf
              clear g
              replace h : EC C f 18 ab_main 775 [some (rf 98 (0)), some (rf 11 (0)), some (rf 13 (14)), some (rf 13 (15)), some (rf 13 (16)), some (rf 13 (17)), some (rf 14 (6)), y7, some (.inl (u8)), some (.inl (u9)), some (.inl (u10)), some (.inl (u11)), some (.inl (n7)), some (.inl (n11)), some (.inl (Int32.ofInt 1)), y15, y16, y17] [] τ (w, σ') := h
              exact H775 f hf (u8) (u10) (u11) (n7) (n11) (Int32.ofInt 1) y7 (some (.inl (u9))) y15 y16 y17 τ hsτ h
          · skip
            have er22 := ro2_run rfl r22
            rw [er22] at e r22
            have p23 := x140 hsτ.1 r22
            cases e
            exact Or.inr ⟨b, p23, rfl, rfl⟩
      · skip
        have er16 := ro2_run rfl r16
        rw [er16] at e r16
        have p17 := x140 hsτ.1 r16
        cases e
        exact Or.inr ⟨b, p17, rfl, rfl⟩
def T775 (K801 : Int32 → Int32 → Int32 → Int32 → Int32 → Int32 → mS → Prop) (u8 : Int32) (u10 : Int32) (u11 : Int32) (u12 : Int32) (u13 : Int32) (u14 : Int32) (τ : mS) (w : mX) (σ' : mS) : Prop := ((∃ v3, P182 τ (((u10) / (Int32.ofInt 9)) - ((u10) / (Int32.ofInt 9)) / (Int32.ofInt 5) * (Int32.ofInt 5)) (.inl (some (.inl v3))) τ ∧ (((v3).toInt ≠ (0 : Int) ∧ K801 (u8) (u10) (u11) (u12) (u13) (Int32.ofInt 1) τ) ∨ (¬ ((v3).toInt ≠ (0 : Int)) ∧ (((u14).toInt = (0 : Int) ∧ K801 (u8) (u10) (u11) (u12) (u13) (Int32.ofInt 0) τ) ∨ (¬ ((u14).toInt = (0 : Int)) ∧ K801 (u8) (u10) (u11) (u12) (u13) (Int32.ofInt 1) τ))))) ∨ (∃ b, P182 τ (((u10) / (Int32.ofInt 9)) - ((u10) / (Int32.ofInt 9)) / (Int32.ofInt 5) * (Int32.ofInt 5)) (.inr b) τ ∧ w = .inr b ∧ σ' = τ))
set_option maxRecDepth 100000 in
theorem t775 {C : ec_C} (hC : CK C) {N : Nat} {w : mX} {σ' : mS} {K801 : Int32 → Int32 → Int32 → Int32 → Int32 → Int32 → mS → Prop} (H801 : ∀ f, f < N → ∀ (u8 : Int32) (u10 : Int32) (u11 : Int32) (u12 : Int32) (u13 : Int32) (u15 : Int32) (y7 : Option mV) (y9 : Option mV) (y14 : Option mV) (y16 : Option mV) (y17 : Option mV) (τ : mS), HL τ → EC C f 18 ab_main 801 [some (rf 98 (0)), some (rf 11 (0)), some (rf 13 (14)), some (rf 13 (15)), some (rf 13 (16)), some (rf 13 (17)), some (rf 14 (6)), y7, some (.inl (u8)), y9, some (.inl (u10)), some (.inl (u11)), some (.inl (u12)), some (.inl (u13)), y14, some (.inl (u15)), y16, y17] [] τ (w, σ') → K801 u8 u10 u11 u12 u13 u15 τ) : ∀ f, f < N + 1 → ∀ (u8 : Int32) (u10 : Int32) (u11 : Int32) (u12 : Int32) (u13 : Int32) (u14 : Int32) (y7 : Option mV) (y9 : Option mV) (y15 : Option mV) (y16 : Option mV) (y17 : Option mV) (τ : mS), HL τ → EC C f 18 ab_main 775 [some (rf 98 (0)), some (rf 11 (0)), some (rf 13 (14)), some (rf 13 (15)), some (rf 13 (16)), some (rf 13 (17)), some (rf 14 (6)), y7, some (.inl (u8)), y9, some (.inl (u10)), some (.inl (u11)), some (.inl (u12)), some (.inl (u13)), some (.inl (u14)), y15, y16, y17] [] τ (w, σ') → T775 K801 u8 u10 u11 u12 u13 u14 τ w σ' := by
  intro f hf0 u8 u10 u11 u12 u13 u14 y7 y9 y15 y16 y17 τ hsτ h
  have hf : f < N + 1 := hf0
  clear hf0
  unfold T775
  replace h : EC C f 18 ab_main 775 [some (rf 98 (0)), some (rf 11 (0)), some (rf 13 (14)), some (rf 13 (15)), some (rf 13 (16)), some (rf 13 (17)), some (rf 14 (6)), y7, some (.inl (u8)), y9, some (.inl (u10)), some (.inl (u11)), some (.inl (u12)), some (.inl (u13)), some (.inl (u14)), y15, y16, y17] [] τ (w, σ') := h
  replace h := ec_p h rfl rfl rfl rfl
  obtain ⟨f, g, h⟩ := h
  replace hf := Nat.lt_of_lt_of_le g (Nat.le_of_lt_succ hf)
  clear g
  replace h : EC C f 18 ab_main 776 [some (rf 98 (0)), some (rf 11 (0)), some (rf 13 (14)), some (rf 13 (15)), some (rf 13 (16)), some (rf 13 (17)), some (rf 14 (6)), y7, some (.inl (u8)), y9, some (.inl (u10)), some (.inl (u11)), some (.inl (u12)), some (.inl (u13)), some (.inl (u14)), y15, y16, y17] [rf 11 (0)] τ (w, σ') := h
  replace h := ec_p h rfl rfl rfl rfl
  obtain ⟨f, g, h⟩ := h
  replace hf := Nat.lt_trans g hf
  clear g
  replace h : EC C f 18 ab_main 778 [some (rf 98 (0)), some (rf 11 (0)), some (rf 13 (14)), some (rf 13 (15)), some (rf 13 (16)), some (rf 13 (17)), some (rf 14 (6)), y7, some (.inl (u8)), y9, some (.inl (u10)), some (.inl (u11)), some (.inl (u12)), some (.inl (u13)), some (.inl (u14)), y15, y16, y17] [.inl (u10), rf 11 (0)] τ (w, σ') := h
  replace h := ec_p h rfl rfl rfl rfl
  obtain ⟨f, g, h⟩ := h
  replace hf := Nat.lt_trans g hf
  clear g
  replace h : EC C f 18 ab_main 780 [some (rf 98 (0)), some (rf 11 (0)), some (rf 13 (14)), some (rf 13 (15)), some (rf 13 (16)), some (rf 13 (17)), some (rf 14 (6)), y7, some (.inl (u8)), y9, some (.inl (u10)), some (.inl (u11)), some (.inl (u12)), some (.inl (u13)), some (.inl (u14)), y15, y16, y17] [.inl (Int32.ofInt 9), .inl (u10), rf 11 (0)] τ (w, σ') := h
  replace h := ec_idiv h rfl
  obtain ⟨hd1, f, g, h⟩ := h
  replace hf := Nat.lt_trans g hf
  clear g
  replace h : EC C f 18 ab_main 781 [some (rf 98 (0)), some (rf 11 (0)), some (rf 13 (14)), some (rf 13 (15)), some (rf 13 (16)), some (rf 13 (17)), some (rf 14 (6)), y7, some (.inl (u8)), y9, some (.inl (u10)), some (.inl (u11)), some (.inl (u12)), some (.inl (u13)), some (.inl (u14)), y15, y16, y17] [.inl ((u10) / (Int32.ofInt 9)), rf 11 (0)] τ (w, σ') := h
  replace h := ec_p h rfl rfl rfl rfl
  obtain ⟨f, g, h⟩ := h
  replace hf := Nat.lt_trans g hf
  clear g
  replace h : EC C f 18 ab_main 782 [some (rf 98 (0)), some (rf 11 (0)), some (rf 13 (14)), some (rf 13 (15)), some (rf 13 (16)), some (rf 13 (17)), some (rf 14 (6)), y7, some (.inl (u8)), y9, some (.inl (u10)), some (.inl (u11)), some (.inl (u12)), some (.inl (u13)), some (.inl (u14)), y15, y16, y17] [.inl (Int32.ofInt 5), .inl ((u10) / (Int32.ofInt 9)), rf 11 (0)] τ (w, σ') := h
  replace h := ec_irem h rfl
  obtain ⟨hd2, f, g, h⟩ := h
  replace hf := Nat.lt_trans g hf
  clear g
  replace h : EC C f 18 ab_main 783 [some (rf 98 (0)), some (rf 11 (0)), some (rf 13 (14)), some (rf 13 (15)), some (rf 13 (16)), some (rf 13 (17)), some (rf 14 (6)), y7, some (.inl (u8)), y9, some (.inl (u10)), some (.inl (u11)), some (.inl (u12)), some (.inl (u13)), some (.inl (u14)), y15, y16, y17] [.inl (((u10) / (Int32.ofInt 9)) - ((u10) / (Int32.ofInt 9)) / (Int32.ofInt 5) * (Int32.ofInt 5)), rf 11 (0)] τ (w, σ') := h
  replace h := cx_I hC (ec_s (as := [.inl (((u10) / (Int32.ofInt 9)) - ((u10) / (Int32.ofInt 9)) / (Int32.ofInt 5) * (Int32.ofInt 5)), rf 11 (0)]) h rfl (Nat.le_of_ble_eq_true rfl) rfl rfl) rfl z182_at (Or.inr rfl)
  rcases h with ⟨v3, σ4, r5, f, g, h⟩ | ⟨b, σ4, r5, e⟩
  · skip
    have er5 := ro2_run rfl r5
    rw [er5] at h r5
    replace hf := Nat.lt_trans g hf
    clear g
    have p6 := x182 hsτ r5
    refine Or.inl ⟨v3, p6, ?_⟩
    replace h : EC C f 18 ab_main 786 [some (rf 98 (0)), some (rf 11 (0)), some (rf 13 (14)), some (rf 13 (15)), some (rf 13 (16)), some (rf 13 (17)), some (rf 14 (6)), y7, some (.inl (u8)), y9, some (.inl (u10)), some (.inl (u11)), some (.inl (u12)), some (.inl (u13)), some (.inl (u14)), y15, y16, y17] [.inl (v3)] τ (w, σ') := h
    replace h := ec_c h rfl rfl rfl
    rcases h with ⟨hp7, f, g, h⟩ | ⟨hp7, f, g, h⟩
    · skip
      replace hp7 : (v3).toInt ≠ (0 : Int) := ic_ne.mp hp7
      refine Or.inl ⟨hp7, ?_⟩
      replace hf := Nat.lt_trans g hf
      clear g
      replace h : EC C f 18 ab_main 794 [some (rf 98 (0)), some (rf 11 (0)), some (rf 13 (14)), some (rf 13 (15)), some (rf 13 (16)), some (rf 13 (17)), some (rf 14 (6)), y7, some (.inl (u8)), y9, some (.inl (u10)), some (.inl (u11)), some (.inl (u12)), some (.inl (u13)), some (.inl (u14)), y15, y16, y17] [] τ (w, σ') := h
      replace h := ec_p h rfl rfl rfl rfl
      obtain ⟨f, g, h⟩ := h
      replace hf := Nat.lt_trans g hf
      clear g
      replace h : EC C f 18 ab_main 795 [some (rf 98 (0)), some (rf 11 (0)), some (rf 13 (14)), some (rf 13 (15)), some (rf 13 (16)), some (rf 13 (17)), some (rf 14 (6)), y7, some (.inl (u8)), y9, some (.inl (u10)), some (.inl (u11)), some (.inl (u12)), some (.inl (u13)), some (.inl (u14)), y15, y16, y17] [.inl (Int32.ofInt 1)] τ (w, σ') := h
      replace h := ec_p h rfl rfl rfl rfl
      obtain ⟨f, g, h⟩ := h
      replace hf := Nat.lt_trans g hf
      clear g
      replace h : EC C f 18 ab_main 799 [some (rf 98 (0)), some (rf 11 (0)), some (rf 13 (14)), some (rf 13 (15)), some (rf 13 (16)), some (rf 13 (17)), some (rf 14 (6)), y7, some (.inl (u8)), y9, some (.inl (u10)), some (.inl (u11)), some (.inl (u12)), some (.inl (u13)), some (.inl (u14)), y15, y16, y17] [.inl (Int32.ofInt 1)] τ (w, σ') := h
      replace h := ec_p h rfl rfl rfl rfl
      obtain ⟨f, g, h⟩ := h
      replace hf := Nat.lt_trans g hf
      clear g
      replace h : EC C f 18 ab_main 801 [some (rf 98 (0)), some (rf 11 (0)), some (rf 13 (14)), some (rf 13 (15)), some (rf 13 (16)), some (rf 13 (17)), some (rf 14 (6)), y7, some (.inl (u8)), y9, some (.inl (u10)), some (.inl (u11)), some (.inl (u12)), some (.inl (u13)), some (.inl (u14)), some (.inl (Int32.ofInt 1)), y16, y17] [] τ (w, σ') := h
      exact H801 f hf (u8) (u10) (u11) (u12) (u13) (Int32.ofInt 1) y7 y9 (some (.inl (u14))) y16 y17 τ hsτ h
    · skip
      replace hp7 : ¬ ((v3).toInt ≠ (0 : Int)) := (not_congr ic_ne).mp hp7
      refine Or.inr ⟨hp7, ?_⟩
      replace hf := Nat.lt_trans g hf
      clear g
      replace h : EC C f 18 ab_main 789 [some (rf 98 (0)), some (rf 11 (0)), some (rf 13 (14)), some (rf 13 (15)), some (rf 13 (16)), some (rf 13 (17)), some (rf 14 (6)), y7, some (.inl (u8)), y9, some (.inl (u10)), some (.inl (u11)), some (.inl (u12)), some (.inl (u13)), some (.inl (u14)), y15, y16, y17] [] τ (w, σ') := h
      replace h := ec_p h rfl rfl rfl rfl
      obtain ⟨f, g, h⟩ := h
      replace hf := Nat.lt_trans g hf
      clear g
      replace h : EC C f 18 ab_main 791 [some (rf 98 (0)), some (rf 11 (0)), some (rf 13 (14)), some (rf 13 (15)), some (rf 13 (16)), some (rf 13 (17)), some (rf 14 (6)), y7, some (.inl (u8)), y9, some (.inl (u10)), some (.inl (u11)), some (.inl (u12)), some (.inl (u13)), some (.inl (u14)), y15, y16, y17] [.inl (u14)] τ (w, σ') := h
      replace h := ec_c h rfl rfl rfl
      rcases h with ⟨hp8, f, g, h⟩ | ⟨hp8, f, g, h⟩
      · skip
        replace hp8 : (u14).toInt = (0 : Int) := ic_eq.mp hp8
        refine Or.inl ⟨hp8, ?_⟩
        replace hf := Nat.lt_trans g hf
        clear g
        replace h : EC C f 18 ab_main 798 [some (rf 98 (0)), some (rf 11 (0)), some (rf 13 (14)), some (rf 13 (15)), some (rf 13 (16)), some (rf 13 (17)), some (rf 14 (6)), y7, some (.inl (u8)), y9, some (.inl (u10)), some (.inl (u11)), some (.inl (u12)), some (.inl (u13)), some (.inl (u14)), y15, y16, y17] [] τ (w, σ') := h
        replace h := ec_p h rfl rfl rfl rfl
        obtain ⟨f, g, h⟩ := h
        replace hf := Nat.lt_trans g hf
        clear g
        replace h : EC C f 18 ab_main 799 [some (rf 98 (0)), some (rf 11 (0)), some (rf 13 (14)), some (rf 13 (15)), some (rf 13 (16)), some (rf 13 (17)), some (rf 14 (6)), y7, some (.inl (u8)), y9, some (.inl (u10)), some (.inl (u11)), some (.inl (u12)), some (.inl (u13)), some (.inl (u14)), y15, y16, y17] [.inl (Int32.ofInt 0)] τ (w, σ') := h
        replace h := ec_p h rfl rfl rfl rfl
        obtain ⟨f, g, h⟩ := h
        replace hf := Nat.lt_trans g hf
        clear g
        replace h : EC C f 18 ab_main 801 [some (rf 98 (0)), some (rf 11 (0)), some (rf 13 (14)), some (rf 13 (15)), some (rf 13 (16)), some (rf 13 (17)), some (rf 14 (6)), y7, some (.inl (u8)), y9, some (.inl (u10)), some (.inl (u11)), some (.inl (u12)), some (.inl (u13)), some (.inl (u14)), some (.inl (Int32.ofInt 0)), y16, y17] [] τ (w, σ') := h
        exact H801 f hf (u8) (u10) (u11) (u12) (u13) (Int32.ofInt 0) y7 y9 (some (.inl (u14))) y16 y17 τ hsτ h
      · skip
        replace hp8 : ¬ ((u14).toInt = (0 : Int)) := (not_congr ic_eq).mp hp8
        refine Or.inr ⟨hp8, ?_⟩
        replace hf := Nat.lt_trans g hf
        clear g
        replace h : EC C f 18 ab_main 794 [some (rf 98 (0)), some (rf 11 (0)), some (rf 13 (14)), some (rf 13 (15)), some (rf 13 (16)), some (rf 13 (17)), some (rf 14 (6)), y7, some (.inl (u8)), y9, some (.inl (u10)), some (.inl (u11)), some (.inl (u12)), some (.inl (u13)), some (.inl (u14)), y15, y16, y17] [] τ (w, σ') := h
        replace h := ec_p h rfl rfl rfl rfl
        obtain ⟨f, g, h⟩ := h
        replace hf := Nat.lt_trans g hf
        clear g
        replace h : EC C f 18 ab_main 795 [some (rf 98 (0)), some (rf 11 (0)), some (rf 13 (14)), some (rf 13 (15)), some (rf 13 (16)), some (rf 13 (17)), some (rf 14 (6)), y7, some (.inl (u8)), y9, some (.inl (u10)), some (.inl (u11)), some (.inl (u12)), some (.inl (u13)), some (.inl (u14)), y15, y16, y17] [.inl (Int32.ofInt 1)] τ (w, σ') := h
        replace h := ec_p h rfl rfl rfl rfl
        obtain ⟨f, g, h⟩ := h
        replace hf := Nat.lt_trans g hf
        clear g
        replace h : EC C f 18 ab_main 799 [some (rf 98 (0)), some (rf 11 (0)), some (rf 13 (14)), some (rf 13 (15)), some (rf 13 (16)), some (rf 13 (17)), some (rf 14 (6)), y7, some (.inl (u8)), y9, some (.inl (u10)), some (.inl (u11)), some (.inl (u12)), some (.inl (u13)), some (.inl (u14)), y15, y16, y17] [.inl (Int32.ofInt 1)] τ (w, σ') := h
        replace h := ec_p h rfl rfl rfl rfl
        obtain ⟨f, g, h⟩ := h
        replace hf := Nat.lt_trans g hf
        clear g
        replace h : EC C f 18 ab_main 801 [some (rf 98 (0)), some (rf 11 (0)), some (rf 13 (14)), some (rf 13 (15)), some (rf 13 (16)), some (rf 13 (17)), some (rf 14 (6)), y7, some (.inl (u8)), y9, some (.inl (u10)), some (.inl (u11)), some (.inl (u12)), some (.inl (u13)), some (.inl (u14)), some (.inl (Int32.ofInt 1)), y16, y17] [] τ (w, σ') := h
        exact H801 f hf (u8) (u10) (u11) (u12) (u13) (Int32.ofInt 1) y7 y9 (some (.inl (u14))) y16 y17 τ hsτ h
  · skip
    have er5 := ro2_run rfl r5
    rw [er5] at e r5
    have p6 := x182 hsτ r5
    cases e
    exact Or.inr ⟨b, p6, rfl, rfl⟩
def T801 (K839 : Int32 → Int32 → Int32 → Int32 → Int32 → Int64 → mS → Prop) (u8 : Int32) (u10 : Int32) (u11 : Int32) (u12 : Int32) (u13 : Int32) (u15 : Int32) (τ : mS) (w : mX) (σ' : mS) : Prop := ∃ v6 σ7, gF τ σ7 ∧ HL σ7 ∧ ev_run sm_all 172 [rf 11 (0), .inl (Int32.ofInt 5), .inl (((u10) / (Int32.ofInt 9)) - ((u10) / (Int32.ofInt 9)) / (Int32.ofInt 5) * (Int32.ofInt 5)), .inl (u12), .inl (u13), .inl ((Int32.ofInt 1) + ((u11) - (u11) / (Int32.ofInt 40) * (Int32.ofInt 40))), .inl ((((u11) / (Int32.ofInt 40)) - ((u11) / (Int32.ofInt 40)) / (Int32.ofInt 30) * (Int32.ofInt 30)) - (Int32.ofInt 15)), .inl (Int32.ofInt 0), .inl (Int32.ofInt 0)] τ (.inl (some (.inr (.inl v6)))) σ7 ∧ P172 τ (Int32.ofInt 5) (((u10) / (Int32.ofInt 9)) - ((u10) / (Int32.ofInt 9)) / (Int32.ofInt 5) * (Int32.ofInt 5)) (u12) (u13) ((Int32.ofInt 1) + ((u11) - (u11) / (Int32.ofInt 40) * (Int32.ofInt 40))) ((((u11) / (Int32.ofInt 40)) - ((u11) / (Int32.ofInt 40)) / (Int32.ofInt 30) * (Int32.ofInt 30)) - (Int32.ofInt 15)) (Int32.ofInt 0) (Int32.ofInt 0) (.inl (some (.inr (.inl v6)))) σ7 ∧ K839 (u8) (u11) (u12) (u13) (u15) (v6) σ7
set_option maxRecDepth 100000 in
theorem t801 {C : ec_C} (hC : CK C) {N : Nat} {w : mX} {σ' : mS} {K839 : Int32 → Int32 → Int32 → Int32 → Int32 → Int64 → mS → Prop} (H839 : ∀ f, f < N → ∀ (u8 : Int32) (u11 : Int32) (u12 : Int32) (u13 : Int32) (u15 : Int32) (u16 : Int64) (y7 : Option mV) (y9 : Option mV) (y10 : Option mV) (y14 : Option mV) (τ : mS), HL τ → EC C f 18 ab_main 839 [some (rf 98 (0)), some (rf 11 (0)), some (rf 13 (14)), some (rf 13 (15)), some (rf 13 (16)), some (rf 13 (17)), some (rf 14 (6)), y7, some (.inl (u8)), y9, y10, some (.inl (u11)), some (.inl (u12)), some (.inl (u13)), y14, some (.inl (u15)), some (.inr (.inl (u16))), none] [] τ (w, σ') → K839 u8 u11 u12 u13 u15 u16 τ) : ∀ f, f < N + 1 → ∀ (u8 : Int32) (u10 : Int32) (u11 : Int32) (u12 : Int32) (u13 : Int32) (u15 : Int32) (y7 : Option mV) (y9 : Option mV) (y14 : Option mV) (y16 : Option mV) (y17 : Option mV) (τ : mS), HL τ → EC C f 18 ab_main 801 [some (rf 98 (0)), some (rf 11 (0)), some (rf 13 (14)), some (rf 13 (15)), some (rf 13 (16)), some (rf 13 (17)), some (rf 14 (6)), y7, some (.inl (u8)), y9, some (.inl (u10)), some (.inl (u11)), some (.inl (u12)), some (.inl (u13)), y14, some (.inl (u15)), y16, y17] [] τ (w, σ') → T801 K839 u8 u10 u11 u12 u13 u15 τ w σ' := by
  intro f hf0 u8 u10 u11 u12 u13 u15 y7 y9 y14 y16 y17 τ hsτ h
  have hf : f < N + 1 := hf0
  clear hf0
  unfold T801
  replace h : EC C f 18 ab_main 801 [some (rf 98 (0)), some (rf 11 (0)), some (rf 13 (14)), some (rf 13 (15)), some (rf 13 (16)), some (rf 13 (17)), some (rf 14 (6)), y7, some (.inl (u8)), y9, some (.inl (u10)), some (.inl (u11)), some (.inl (u12)), some (.inl (u13)), y14, some (.inl (u15)), y16, y17] [] τ (w, σ') := h
  replace h := ec_p h rfl rfl rfl rfl
  obtain ⟨f, g, h⟩ := h
  replace hf := Nat.lt_of_lt_of_le g (Nat.le_of_lt_succ hf)
  clear g
  replace h : EC C f 18 ab_main 802 [some (rf 98 (0)), some (rf 11 (0)), some (rf 13 (14)), some (rf 13 (15)), some (rf 13 (16)), some (rf 13 (17)), some (rf 14 (6)), y7, some (.inl (u8)), y9, some (.inl (u10)), some (.inl (u11)), some (.inl (u12)), some (.inl (u13)), y14, some (.inl (u15)), y16, y17] [rf 11 (0)] τ (w, σ') := h
  replace h := ec_p h rfl rfl rfl rfl
  obtain ⟨f, g, h⟩ := h
  replace hf := Nat.lt_trans g hf
  clear g
  replace h : EC C f 18 ab_main 803 [some (rf 98 (0)), some (rf 11 (0)), some (rf 13 (14)), some (rf 13 (15)), some (rf 13 (16)), some (rf 13 (17)), some (rf 14 (6)), y7, some (.inl (u8)), y9, some (.inl (u10)), some (.inl (u11)), some (.inl (u12)), some (.inl (u13)), y14, some (.inl (u15)), y16, y17] [.inl (Int32.ofInt 5), rf 11 (0)] τ (w, σ') := h
  replace h := ec_p h rfl rfl rfl rfl
  obtain ⟨f, g, h⟩ := h
  replace hf := Nat.lt_trans g hf
  clear g
  replace h : EC C f 18 ab_main 805 [some (rf 98 (0)), some (rf 11 (0)), some (rf 13 (14)), some (rf 13 (15)), some (rf 13 (16)), some (rf 13 (17)), some (rf 14 (6)), y7, some (.inl (u8)), y9, some (.inl (u10)), some (.inl (u11)), some (.inl (u12)), some (.inl (u13)), y14, some (.inl (u15)), y16, y17] [.inl (u10), .inl (Int32.ofInt 5), rf 11 (0)] τ (w, σ') := h
  replace h := ec_p h rfl rfl rfl rfl
  obtain ⟨f, g, h⟩ := h
  replace hf := Nat.lt_trans g hf
  clear g
  replace h : EC C f 18 ab_main 807 [some (rf 98 (0)), some (rf 11 (0)), some (rf 13 (14)), some (rf 13 (15)), some (rf 13 (16)), some (rf 13 (17)), some (rf 14 (6)), y7, some (.inl (u8)), y9, some (.inl (u10)), some (.inl (u11)), some (.inl (u12)), some (.inl (u13)), y14, some (.inl (u15)), y16, y17] [.inl (Int32.ofInt 9), .inl (u10), .inl (Int32.ofInt 5), rf 11 (0)] τ (w, σ') := h
  replace h := ec_idiv h rfl
  obtain ⟨hd1, f, g, h⟩ := h
  replace hf := Nat.lt_trans g hf
  clear g
  replace h : EC C f 18 ab_main 808 [some (rf 98 (0)), some (rf 11 (0)), some (rf 13 (14)), some (rf 13 (15)), some (rf 13 (16)), some (rf 13 (17)), some (rf 14 (6)), y7, some (.inl (u8)), y9, some (.inl (u10)), some (.inl (u11)), some (.inl (u12)), some (.inl (u13)), y14, some (.inl (u15)), y16, y17] [.inl ((u10) / (Int32.ofInt 9)), .inl (Int32.ofInt 5), rf 11 (0)] τ (w, σ') := h
  replace h := ec_p h rfl rfl rfl rfl
  obtain ⟨f, g, h⟩ := h
  replace hf := Nat.lt_trans g hf
  clear g
  replace h : EC C f 18 ab_main 809 [some (rf 98 (0)), some (rf 11 (0)), some (rf 13 (14)), some (rf 13 (15)), some (rf 13 (16)), some (rf 13 (17)), some (rf 14 (6)), y7, some (.inl (u8)), y9, some (.inl (u10)), some (.inl (u11)), some (.inl (u12)), some (.inl (u13)), y14, some (.inl (u15)), y16, y17] [.inl (Int32.ofInt 5), .inl ((u10) / (Int32.ofInt 9)), .inl (Int32.ofInt 5), rf 11 (0)] τ (w, σ') := h
  replace h := ec_irem h rfl
  obtain ⟨hd2, f, g, h⟩ := h
  replace hf := Nat.lt_trans g hf
  clear g
  replace h : EC C f 18 ab_main 810 [some (rf 98 (0)), some (rf 11 (0)), some (rf 13 (14)), some (rf 13 (15)), some (rf 13 (16)), some (rf 13 (17)), some (rf 14 (6)), y7, some (.inl (u8)), y9, some (.inl (u10)), some (.inl (u11)), some (.inl (u12)), some (.inl (u13)), y14, some (.inl (u15)), y16, y17] [.inl (((u10) / (Int32.ofInt 9)) - ((u10) / (Int32.ofInt 9)) / (Int32.ofInt 5) * (Int32.ofInt 5)), .inl (Int32.ofInt 5), rf 11 (0)] τ (w, σ') := h
  replace h := ec_p h rfl rfl rfl rfl
  obtain ⟨f, g, h⟩ := h
  replace hf := Nat.lt_trans g hf
  clear g
  replace h : EC C f 18 ab_main 812 [some (rf 98 (0)), some (rf 11 (0)), some (rf 13 (14)), some (rf 13 (15)), some (rf 13 (16)), some (rf 13 (17)), some (rf 14 (6)), y7, some (.inl (u8)), y9, some (.inl (u10)), some (.inl (u11)), some (.inl (u12)), some (.inl (u13)), y14, some (.inl (u15)), y16, y17] [.inl (u12), .inl (((u10) / (Int32.ofInt 9)) - ((u10) / (Int32.ofInt 9)) / (Int32.ofInt 5) * (Int32.ofInt 5)), .inl (Int32.ofInt 5), rf 11 (0)] τ (w, σ') := h
  replace h := ec_p h rfl rfl rfl rfl
  obtain ⟨f, g, h⟩ := h
  replace hf := Nat.lt_trans g hf
  clear g
  replace h : EC C f 18 ab_main 814 [some (rf 98 (0)), some (rf 11 (0)), some (rf 13 (14)), some (rf 13 (15)), some (rf 13 (16)), some (rf 13 (17)), some (rf 14 (6)), y7, some (.inl (u8)), y9, some (.inl (u10)), some (.inl (u11)), some (.inl (u12)), some (.inl (u13)), y14, some (.inl (u15)), y16, y17] [.inl (u13), .inl (u12), .inl (((u10) / (Int32.ofInt 9)) - ((u10) / (Int32.ofInt 9)) / (Int32.ofInt 5) * (Int32.ofInt 5)), .inl (Int32.ofInt 5), rf 11 (0)] τ (w, σ') := h
  replace h := ec_p h rfl rfl rfl rfl
  obtain ⟨f, g, h⟩ := h
  replace hf := Nat.lt_trans g hf
  clear g
  replace h : EC C f 18 ab_main 815 [some (rf 98 (0)), some (rf 11 (0)), some (rf 13 (14)), some (rf 13 (15)), some (rf 13 (16)), some (rf 13 (17)), some (rf 14 (6)), y7, some (.inl (u8)), y9, some (.inl (u10)), some (.inl (u11)), some (.inl (u12)), some (.inl (u13)), y14, some (.inl (u15)), y16, y17] [.inl (Int32.ofInt 1), .inl (u13), .inl (u12), .inl (((u10) / (Int32.ofInt 9)) - ((u10) / (Int32.ofInt 9)) / (Int32.ofInt 5) * (Int32.ofInt 5)), .inl (Int32.ofInt 5), rf 11 (0)] τ (w, σ') := h
  replace h := ec_p h rfl rfl rfl rfl
  obtain ⟨f, g, h⟩ := h
  replace hf := Nat.lt_trans g hf
  clear g
  replace h : EC C f 18 ab_main 817 [some (rf 98 (0)), some (rf 11 (0)), some (rf 13 (14)), some (rf 13 (15)), some (rf 13 (16)), some (rf 13 (17)), some (rf 14 (6)), y7, some (.inl (u8)), y9, some (.inl (u10)), some (.inl (u11)), some (.inl (u12)), some (.inl (u13)), y14, some (.inl (u15)), y16, y17] [.inl (u11), .inl (Int32.ofInt 1), .inl (u13), .inl (u12), .inl (((u10) / (Int32.ofInt 9)) - ((u10) / (Int32.ofInt 9)) / (Int32.ofInt 5) * (Int32.ofInt 5)), .inl (Int32.ofInt 5), rf 11 (0)] τ (w, σ') := h
  replace h := ec_p h rfl rfl rfl rfl
  obtain ⟨f, g, h⟩ := h
  replace hf := Nat.lt_trans g hf
  clear g
  replace h : EC C f 18 ab_main 819 [some (rf 98 (0)), some (rf 11 (0)), some (rf 13 (14)), some (rf 13 (15)), some (rf 13 (16)), some (rf 13 (17)), some (rf 14 (6)), y7, some (.inl (u8)), y9, some (.inl (u10)), some (.inl (u11)), some (.inl (u12)), some (.inl (u13)), y14, some (.inl (u15)), y16, y17] [.inl (Int32.ofInt 40), .inl (u11), .inl (Int32.ofInt 1), .inl (u13), .inl (u12), .inl (((u10) / (Int32.ofInt 9)) - ((u10) / (Int32.ofInt 9)) / (Int32.ofInt 5) * (Int32.ofInt 5)), .inl (Int32.ofInt 5), rf 11 (0)] τ (w, σ') := h
  replace h := ec_irem h rfl
  obtain ⟨hd3, f, g, h⟩ := h
  replace hf := Nat.lt_trans g hf
  clear g
  replace h : EC C f 18 ab_main 820 [some (rf 98 (0)), some (rf 11 (0)), some (rf 13 (14)), some (rf 13 (15)), some (rf 13 (16)), some (rf 13 (17)), some (rf 14 (6)), y7, some (.inl (u8)), y9, some (.inl (u10)), some (.inl (u11)), some (.inl (u12)), some (.inl (u13)), y14, some (.inl (u15)), y16, y17] [.inl ((u11) - (u11) / (Int32.ofInt 40) * (Int32.ofInt 40)), .inl (Int32.ofInt 1), .inl (u13), .inl (u12), .inl (((u10) / (Int32.ofInt 9)) - ((u10) / (Int32.ofInt 9)) / (Int32.ofInt 5) * (Int32.ofInt 5)), .inl (Int32.ofInt 5), rf 11 (0)] τ (w, σ') := h
  replace h := ec_p h rfl rfl rfl rfl
  obtain ⟨f, g, h⟩ := h
  replace hf := Nat.lt_trans g hf
  clear g
  replace h : EC C f 18 ab_main 821 [some (rf 98 (0)), some (rf 11 (0)), some (rf 13 (14)), some (rf 13 (15)), some (rf 13 (16)), some (rf 13 (17)), some (rf 14 (6)), y7, some (.inl (u8)), y9, some (.inl (u10)), some (.inl (u11)), some (.inl (u12)), some (.inl (u13)), y14, some (.inl (u15)), y16, y17] [.inl ((Int32.ofInt 1) + ((u11) - (u11) / (Int32.ofInt 40) * (Int32.ofInt 40))), .inl (u13), .inl (u12), .inl (((u10) / (Int32.ofInt 9)) - ((u10) / (Int32.ofInt 9)) / (Int32.ofInt 5) * (Int32.ofInt 5)), .inl (Int32.ofInt 5), rf 11 (0)] τ (w, σ') := h
  replace h := ec_p h rfl rfl rfl rfl
  obtain ⟨f, g, h⟩ := h
  replace hf := Nat.lt_trans g hf
  clear g
  replace h : EC C f 18 ab_main 823 [some (rf 98 (0)), some (rf 11 (0)), some (rf 13 (14)), some (rf 13 (15)), some (rf 13 (16)), some (rf 13 (17)), some (rf 14 (6)), y7, some (.inl (u8)), y9, some (.inl (u10)), some (.inl (u11)), some (.inl (u12)), some (.inl (u13)), y14, some (.inl (u15)), y16, y17] [.inl (u11), .inl ((Int32.ofInt 1) + ((u11) - (u11) / (Int32.ofInt 40) * (Int32.ofInt 40))), .inl (u13), .inl (u12), .inl (((u10) / (Int32.ofInt 9)) - ((u10) / (Int32.ofInt 9)) / (Int32.ofInt 5) * (Int32.ofInt 5)), .inl (Int32.ofInt 5), rf 11 (0)] τ (w, σ') := h
  replace h := ec_p h rfl rfl rfl rfl
  obtain ⟨f, g, h⟩ := h
  replace hf := Nat.lt_trans g hf
  clear g
  replace h : EC C f 18 ab_main 825 [some (rf 98 (0)), some (rf 11 (0)), some (rf 13 (14)), some (rf 13 (15)), some (rf 13 (16)), some (rf 13 (17)), some (rf 14 (6)), y7, some (.inl (u8)), y9, some (.inl (u10)), some (.inl (u11)), some (.inl (u12)), some (.inl (u13)), y14, some (.inl (u15)), y16, y17] [.inl (Int32.ofInt 40), .inl (u11), .inl ((Int32.ofInt 1) + ((u11) - (u11) / (Int32.ofInt 40) * (Int32.ofInt 40))), .inl (u13), .inl (u12), .inl (((u10) / (Int32.ofInt 9)) - ((u10) / (Int32.ofInt 9)) / (Int32.ofInt 5) * (Int32.ofInt 5)), .inl (Int32.ofInt 5), rf 11 (0)] τ (w, σ') := h
  replace h := ec_idiv h rfl
  obtain ⟨hd4, f, g, h⟩ := h
  replace hf := Nat.lt_trans g hf
  clear g
  replace h : EC C f 18 ab_main 826 [some (rf 98 (0)), some (rf 11 (0)), some (rf 13 (14)), some (rf 13 (15)), some (rf 13 (16)), some (rf 13 (17)), some (rf 14 (6)), y7, some (.inl (u8)), y9, some (.inl (u10)), some (.inl (u11)), some (.inl (u12)), some (.inl (u13)), y14, some (.inl (u15)), y16, y17] [.inl ((u11) / (Int32.ofInt 40)), .inl ((Int32.ofInt 1) + ((u11) - (u11) / (Int32.ofInt 40) * (Int32.ofInt 40))), .inl (u13), .inl (u12), .inl (((u10) / (Int32.ofInt 9)) - ((u10) / (Int32.ofInt 9)) / (Int32.ofInt 5) * (Int32.ofInt 5)), .inl (Int32.ofInt 5), rf 11 (0)] τ (w, σ') := h
  replace h := ec_p h rfl rfl rfl rfl
  obtain ⟨f, g, h⟩ := h
  replace hf := Nat.lt_trans g hf
  clear g
  replace h : EC C f 18 ab_main 828 [some (rf 98 (0)), some (rf 11 (0)), some (rf 13 (14)), some (rf 13 (15)), some (rf 13 (16)), some (rf 13 (17)), some (rf 14 (6)), y7, some (.inl (u8)), y9, some (.inl (u10)), some (.inl (u11)), some (.inl (u12)), some (.inl (u13)), y14, some (.inl (u15)), y16, y17] [.inl (Int32.ofInt 30), .inl ((u11) / (Int32.ofInt 40)), .inl ((Int32.ofInt 1) + ((u11) - (u11) / (Int32.ofInt 40) * (Int32.ofInt 40))), .inl (u13), .inl (u12), .inl (((u10) / (Int32.ofInt 9)) - ((u10) / (Int32.ofInt 9)) / (Int32.ofInt 5) * (Int32.ofInt 5)), .inl (Int32.ofInt 5), rf 11 (0)] τ (w, σ') := h
  replace h := ec_irem h rfl
  obtain ⟨hd5, f, g, h⟩ := h
  replace hf := Nat.lt_trans g hf
  clear g
  replace h : EC C f 18 ab_main 829 [some (rf 98 (0)), some (rf 11 (0)), some (rf 13 (14)), some (rf 13 (15)), some (rf 13 (16)), some (rf 13 (17)), some (rf 14 (6)), y7, some (.inl (u8)), y9, some (.inl (u10)), some (.inl (u11)), some (.inl (u12)), some (.inl (u13)), y14, some (.inl (u15)), y16, y17] [.inl (((u11) / (Int32.ofInt 40)) - ((u11) / (Int32.ofInt 40)) / (Int32.ofInt 30) * (Int32.ofInt 30)), .inl ((Int32.ofInt 1) + ((u11) - (u11) / (Int32.ofInt 40) * (Int32.ofInt 40))), .inl (u13), .inl (u12), .inl (((u10) / (Int32.ofInt 9)) - ((u10) / (Int32.ofInt 9)) / (Int32.ofInt 5) * (Int32.ofInt 5)), .inl (Int32.ofInt 5), rf 11 (0)] τ (w, σ') := h
  replace h := ec_p h rfl rfl rfl rfl
  obtain ⟨f, g, h⟩ := h
  replace hf := Nat.lt_trans g hf
  clear g
  replace h : EC C f 18 ab_main 831 [some (rf 98 (0)), some (rf 11 (0)), some (rf 13 (14)), some (rf 13 (15)), some (rf 13 (16)), some (rf 13 (17)), some (rf 14 (6)), y7, some (.inl (u8)), y9, some (.inl (u10)), some (.inl (u11)), some (.inl (u12)), some (.inl (u13)), y14, some (.inl (u15)), y16, y17] [.inl (Int32.ofInt 15), .inl (((u11) / (Int32.ofInt 40)) - ((u11) / (Int32.ofInt 40)) / (Int32.ofInt 30) * (Int32.ofInt 30)), .inl ((Int32.ofInt 1) + ((u11) - (u11) / (Int32.ofInt 40) * (Int32.ofInt 40))), .inl (u13), .inl (u12), .inl (((u10) / (Int32.ofInt 9)) - ((u10) / (Int32.ofInt 9)) / (Int32.ofInt 5) * (Int32.ofInt 5)), .inl (Int32.ofInt 5), rf 11 (0)] τ (w, σ') := h
  replace h := ec_p h rfl rfl rfl rfl
  obtain ⟨f, g, h⟩ := h
  replace hf := Nat.lt_trans g hf
  clear g
  replace h : EC C f 18 ab_main 832 [some (rf 98 (0)), some (rf 11 (0)), some (rf 13 (14)), some (rf 13 (15)), some (rf 13 (16)), some (rf 13 (17)), some (rf 14 (6)), y7, some (.inl (u8)), y9, some (.inl (u10)), some (.inl (u11)), some (.inl (u12)), some (.inl (u13)), y14, some (.inl (u15)), y16, y17] [.inl ((((u11) / (Int32.ofInt 40)) - ((u11) / (Int32.ofInt 40)) / (Int32.ofInt 30) * (Int32.ofInt 30)) - (Int32.ofInt 15)), .inl ((Int32.ofInt 1) + ((u11) - (u11) / (Int32.ofInt 40) * (Int32.ofInt 40))), .inl (u13), .inl (u12), .inl (((u10) / (Int32.ofInt 9)) - ((u10) / (Int32.ofInt 9)) / (Int32.ofInt 5) * (Int32.ofInt 5)), .inl (Int32.ofInt 5), rf 11 (0)] τ (w, σ') := h
  replace h := ec_p h rfl rfl rfl rfl
  obtain ⟨f, g, h⟩ := h
  replace hf := Nat.lt_trans g hf
  clear g
  replace h : EC C f 18 ab_main 833 [some (rf 98 (0)), some (rf 11 (0)), some (rf 13 (14)), some (rf 13 (15)), some (rf 13 (16)), some (rf 13 (17)), some (rf 14 (6)), y7, some (.inl (u8)), y9, some (.inl (u10)), some (.inl (u11)), some (.inl (u12)), some (.inl (u13)), y14, some (.inl (u15)), y16, y17] [.inl (Int32.ofInt 0), .inl ((((u11) / (Int32.ofInt 40)) - ((u11) / (Int32.ofInt 40)) / (Int32.ofInt 30) * (Int32.ofInt 30)) - (Int32.ofInt 15)), .inl ((Int32.ofInt 1) + ((u11) - (u11) / (Int32.ofInt 40) * (Int32.ofInt 40))), .inl (u13), .inl (u12), .inl (((u10) / (Int32.ofInt 9)) - ((u10) / (Int32.ofInt 9)) / (Int32.ofInt 5) * (Int32.ofInt 5)), .inl (Int32.ofInt 5), rf 11 (0)] τ (w, σ') := h
  replace h := ec_p h rfl rfl rfl rfl
  obtain ⟨f, g, h⟩ := h
  replace hf := Nat.lt_trans g hf
  clear g
  replace h : EC C f 18 ab_main 834 [some (rf 98 (0)), some (rf 11 (0)), some (rf 13 (14)), some (rf 13 (15)), some (rf 13 (16)), some (rf 13 (17)), some (rf 14 (6)), y7, some (.inl (u8)), y9, some (.inl (u10)), some (.inl (u11)), some (.inl (u12)), some (.inl (u13)), y14, some (.inl (u15)), y16, y17] [.inl (Int32.ofInt 0), .inl (Int32.ofInt 0), .inl ((((u11) / (Int32.ofInt 40)) - ((u11) / (Int32.ofInt 40)) / (Int32.ofInt 30) * (Int32.ofInt 30)) - (Int32.ofInt 15)), .inl ((Int32.ofInt 1) + ((u11) - (u11) / (Int32.ofInt 40) * (Int32.ofInt 40))), .inl (u13), .inl (u12), .inl (((u10) / (Int32.ofInt 9)) - ((u10) / (Int32.ofInt 9)) / (Int32.ofInt 5) * (Int32.ofInt 5)), .inl (Int32.ofInt 5), rf 11 (0)] τ (w, σ') := h
  replace h := cx_L hC (ec_s (as := [.inl (Int32.ofInt 0), .inl (Int32.ofInt 0), .inl ((((u11) / (Int32.ofInt 40)) - ((u11) / (Int32.ofInt 40)) / (Int32.ofInt 30) * (Int32.ofInt 30)) - (Int32.ofInt 15)), .inl ((Int32.ofInt 1) + ((u11) - (u11) / (Int32.ofInt 40) * (Int32.ofInt 40))), .inl (u13), .inl (u12), .inl (((u10) / (Int32.ofInt 9)) - ((u10) / (Int32.ofInt 9)) / (Int32.ofInt 5) * (Int32.ofInt 5)), .inl (Int32.ofInt 5), rf 11 (0)]) h rfl (Nat.le_of_ble_eq_true rfl) rfl rfl) rfl z172_at rfl
  rcases h with ⟨v6, σ7, r8, f, g, h⟩ | ⟨b, σ7, r8, e⟩
  rotate_left
  · exact (nt172 (x172 hsτ r8)).elim
  replace hf := Nat.lt_trans g hf
  clear g
  have p9 := x172 hsτ r8
  have hsσ7 : HL σ7 := hl172 p9
  refine ⟨v6, σ7, gF_r r8 rfl hsτ, hsσ7, r8, p9, ?_⟩
  replace h : EC C f 18 ab_main 837 [some (rf 98 (0)), some (rf 11 (0)), some (rf 13 (14)), some (rf 13 (15)), some (rf 13 (16)), some (rf 13 (17)), some (rf 14 (6)), y7, some (.inl (u8)), y9, some (.inl (u10)), some (.inl (u11)), some (.inl (u12)), some (.inl (u13)), y14, some (.inl (u15)), y16, y17] [.inr (.inl (v6))] σ7 (w, σ') := h
  replace h := ec_p h rfl rfl rfl rfl
  obtain ⟨f, g, h⟩ := h
  replace hf := Nat.lt_trans g hf
  clear g
  replace h : EC C f 18 ab_main 839 [some (rf 98 (0)), some (rf 11 (0)), some (rf 13 (14)), some (rf 13 (15)), some (rf 13 (16)), some (rf 13 (17)), some (rf 14 (6)), y7, some (.inl (u8)), y9, some (.inl (u10)), some (.inl (u11)), some (.inl (u12)), some (.inl (u13)), y14, some (.inl (u15)), some (.inr (.inl (v6))), none] [] σ7 (w, σ') := h
  exact H839 f hf (u8) (u11) (u12) (u13) (u15) (v6) y7 y9 (some (.inl (u10))) y14 σ7 hsσ7 h
def T839 (K896 : Int32 → Int32 → mS → Prop) (K925 : Int32 → Int32 → Int32 → mS → Prop) (u8 : Int32) (u11 : Int32) (u12 : Int32) (u13 : Int32) (u15 : Int32) (u16 : Int64) (τ : mS) (w : mX) (σ' : mS) : Prop := (((u12).toInt ≠ (u13).toInt ∧ (((u15).toInt = (0 : Int) ∧ (((u16).toInt < (Int64.ofNat 0).toInt ∧ K925 (Int32.ofInt 0) (u8) (u11) τ) ∨ (¬ ((u16).toInt < (Int64.ofNat 0).toInt) ∧ (((((Int32.ofInt 1) + ((u11) - (u11) / (Int32.ofInt 40) * (Int32.ofInt 40))).toInt64).toInt < (u16).toInt ∧ K925 (Int32.ofInt 0) (u8) (u11) τ) ∨ (¬ ((((Int32.ofInt 1) + ((u11) - (u11) / (Int32.ofInt 40) * (Int32.ofInt 40))).toInt64).toInt < (u16).toInt) ∧ K896 (u8) (u11) τ))))) ∨ (¬ ((u15).toInt = (0 : Int)) ∧ (((u16).toInt ≠ (Int64.ofInt (-1000000000)).toInt ∧ K925 (Int32.ofInt 0) (u8) (u11) τ) ∨ (¬ ((u16).toInt ≠ (Int64.ofInt (-1000000000)).toInt) ∧ K896 (u8) (u11) τ))))) ∨ (¬ ((u12).toInt ≠ (u13).toInt) ∧ (((u16).toInt ≠ (Int64.ofInt (-2000000000)).toInt ∧ K925 (Int32.ofInt 0) (u8) (u11) τ) ∨ (¬ ((u16).toInt ≠ (Int64.ofInt (-2000000000)).toInt) ∧ K896 (u8) (u11) τ))))
set_option maxRecDepth 100000 in
theorem t839 {C : ec_C} (hC : CK C) {N : Nat} {w : mX} {σ' : mS} {K896 : Int32 → Int32 → mS → Prop} {K925 : Int32 → Int32 → Int32 → mS → Prop} (H896 : ∀ f, f < N → ∀ (u8 : Int32) (u11 : Int32) (y7 : Option mV) (y9 : Option mV) (y10 : Option mV) (y12 : Option mV) (y13 : Option mV) (y14 : Option mV) (y15 : Option mV) (y16 : Option mV) (y17 : Option mV) (τ : mS), HL τ → EC C f 18 ab_main 896 [some (rf 98 (0)), some (rf 11 (0)), some (rf 13 (14)), some (rf 13 (15)), some (rf 13 (16)), some (rf 13 (17)), some (rf 14 (6)), y7, some (.inl (u8)), y9, y10, some (.inl (u11)), y12, y13, y14, y15, y16, y17] [] τ (w, σ') → K896 u8 u11 τ) (H925 : ∀ f, f < N → ∀ (u7 : Int32) (u8 : Int32) (u11 : Int32) (y9 : Option mV) (y10 : Option mV) (y12 : Option mV) (y13 : Option mV) (y14 : Option mV) (y15 : Option mV) (y16 : Option mV) (y17 : Option mV) (τ : mS), HL τ → EC C f 18 ab_main 925 [some (rf 98 (0)), some (rf 11 (0)), some (rf 13 (14)), some (rf 13 (15)), some (rf 13 (16)), some (rf 13 (17)), some (rf 14 (6)), some (.inl (u7)), some (.inl (u8)), y9, y10, some (.inl (u11)), y12, y13, y14, y15, y16, y17] [] τ (w, σ') → K925 u7 u8 u11 τ) : ∀ f, f < N + 1 → ∀ (u8 : Int32) (u11 : Int32) (u12 : Int32) (u13 : Int32) (u15 : Int32) (u16 : Int64) (y7 : Option mV) (y9 : Option mV) (y10 : Option mV) (y14 : Option mV) (τ : mS), HL τ → EC C f 18 ab_main 839 [some (rf 98 (0)), some (rf 11 (0)), some (rf 13 (14)), some (rf 13 (15)), some (rf 13 (16)), some (rf 13 (17)), some (rf 14 (6)), y7, some (.inl (u8)), y9, y10, some (.inl (u11)), some (.inl (u12)), some (.inl (u13)), y14, some (.inl (u15)), some (.inr (.inl (u16))), none] [] τ (w, σ') → T839 K896 K925 u8 u11 u12 u13 u15 u16 τ w σ' := by
  intro f hf0 u8 u11 u12 u13 u15 u16 y7 y9 y10 y14 τ hsτ h
  have hf : f < N + 1 := hf0
  clear hf0
  unfold T839
  replace h : EC C f 18 ab_main 839 [some (rf 98 (0)), some (rf 11 (0)), some (rf 13 (14)), some (rf 13 (15)), some (rf 13 (16)), some (rf 13 (17)), some (rf 14 (6)), y7, some (.inl (u8)), y9, y10, some (.inl (u11)), some (.inl (u12)), some (.inl (u13)), y14, some (.inl (u15)), some (.inr (.inl (u16))), none] [] τ (w, σ') := h
  replace h := ec_p h rfl rfl rfl rfl
  obtain ⟨f, g, h⟩ := h
  replace hf := Nat.lt_of_lt_of_le g (Nat.le_of_lt_succ hf)
  clear g
  replace h : EC C f 18 ab_main 841 [some (rf 98 (0)), some (rf 11 (0)), some (rf 13 (14)), some (rf 13 (15)), some (rf 13 (16)), some (rf 13 (17)), some (rf 14 (6)), y7, some (.inl (u8)), y9, y10, some (.inl (u11)), some (.inl (u12)), some (.inl (u13)), y14, some (.inl (u15)), some (.inr (.inl (u16))), none] [.inl (u12)] τ (w, σ') := h
  replace h := ec_p h rfl rfl rfl rfl
  obtain ⟨f, g, h⟩ := h
  replace hf := Nat.lt_trans g hf
  clear g
  replace h : EC C f 18 ab_main 843 [some (rf 98 (0)), some (rf 11 (0)), some (rf 13 (14)), some (rf 13 (15)), some (rf 13 (16)), some (rf 13 (17)), some (rf 14 (6)), y7, some (.inl (u8)), y9, y10, some (.inl (u11)), some (.inl (u12)), some (.inl (u13)), y14, some (.inl (u15)), some (.inr (.inl (u16))), none] [.inl (u13), .inl (u12)] τ (w, σ') := h
  replace h := ec_c h rfl rfl rfl
  rcases h with ⟨hp1, f, g, h⟩ | ⟨hp1, f, g, h⟩
  · skip
    replace hp1 : (u12).toInt ≠ (u13).toInt := ic_ne.mp hp1
    refine Or.inl ⟨hp1, ?_⟩
    replace hf := Nat.lt_trans g hf
    clear g
    replace h : EC C f 18 ab_main 858 [some (rf 98 (0)), some (rf 11 (0)), some (rf 13 (14)), some (rf 13 (15)), some (rf 13 (16)), some (rf 13 (17)), some (rf 14 (6)), y7, some (.inl (u8)), y9, y10, some (.inl (u11)), some (.inl (u12)), some (.inl (u13)), y14, some (.inl (u15)), some (.inr (.inl (u16))), none] [] τ (w, σ') := h
    replace h := ec_p h rfl rfl rfl rfl
    obtain ⟨f, g, h⟩ := h
    replace hf := Nat.lt_trans g hf
    clear g
    replace h : EC C f 18 ab_main 860 [some (rf 98 (0)), some (rf 11 (0)), some (rf 13 (14)), some (rf 13 (15)), some (rf 13 (16)), some (rf 13 (17)), some (rf 14 (6)), y7, some (.inl (u8)), y9, y10, some (.inl (u11)), some (.inl (u12)), some (.inl (u13)), y14, some (.inl (u15)), some (.inr (.inl (u16))), none] [.inl (u15)] τ (w, σ') := h
    replace h := ec_c h rfl rfl rfl
    rcases h with ⟨hp2, f, g, h⟩ | ⟨hp2, f, g, h⟩
    · skip
      replace hp2 : (u15).toInt = (0 : Int) := ic_eq.mp hp2
      refine Or.inl ⟨hp2, ?_⟩
      replace hf := Nat.lt_trans g hf
      clear g
      replace h : EC C f 18 ab_main 875 [some (rf 98 (0)), some (rf 11 (0)), some (rf 13 (14)), some (rf 13 (15)), some (rf 13 (16)), some (rf 13 (17)), some (rf 14 (6)), y7, some (.inl (u8)), y9, y10, some (.inl (u11)), some (.inl (u12)), some (.inl (u13)), y14, some (.inl (u15)), some (.inr (.inl (u16))), none] [] τ (w, σ') := h
      replace h := ec_p h rfl rfl rfl rfl
      obtain ⟨f, g, h⟩ := h
      replace hf := Nat.lt_trans g hf
      clear g
      replace h : EC C f 18 ab_main 877 [some (rf 98 (0)), some (rf 11 (0)), some (rf 13 (14)), some (rf 13 (15)), some (rf 13 (16)), some (rf 13 (17)), some (rf 14 (6)), y7, some (.inl (u8)), y9, y10, some (.inl (u11)), some (.inl (u12)), some (.inl (u13)), y14, some (.inl (u15)), some (.inr (.inl (u16))), none] [.inr (.inl (u16))] τ (w, σ') := h
      replace h := ec_p h rfl rfl rfl rfl
      obtain ⟨f, g, h⟩ := h
      replace hf := Nat.lt_trans g hf
      clear g
      replace h : EC C f 18 ab_main 878 [some (rf 98 (0)), some (rf 11 (0)), some (rf 13 (14)), some (rf 13 (15)), some (rf 13 (16)), some (rf 13 (17)), some (rf 14 (6)), y7, some (.inl (u8)), y9, y10, some (.inl (u11)), some (.inl (u12)), some (.inl (u13)), y14, some (.inl (u15)), some (.inr (.inl (u16))), none] [.inr (.inl (Int64.ofNat 0)), .inr (.inl (u16))] τ (w, σ') := h
      replace h := ec_p h rfl rfl rfl rfl
      obtain ⟨f, g, h⟩ := h
      replace hf := Nat.lt_trans g hf
      clear g
      replace h : EC C f 18 ab_main 879 [some (rf 98 (0)), some (rf 11 (0)), some (rf 13 (14)), some (rf 13 (15)), some (rf 13 (16)), some (rf 13 (17)), some (rf 14 (6)), y7, some (.inl (u8)), y9, y10, some (.inl (u11)), some (.inl (u12)), some (.inl (u13)), y14, some (.inl (u15)), some (.inr (.inl (u16))), none] [.inl (lg_cmp (u16) (Int64.ofNat 0))] τ (w, σ') := h
      replace h := ec_c h rfl rfl rfl
      rcases h with ⟨hp3, f, g, h⟩ | ⟨hp3, f, g, h⟩
      · skip
        replace hp3 : (u16).toInt < (Int64.ofNat 0).toInt := (ab_lc .lt _ _).mp hp3
        refine Or.inl ⟨hp3, ?_⟩
        replace hf := Nat.lt_trans g hf
        clear g
        replace h : EC C f 18 ab_main 909 [some (rf 98 (0)), some (rf 11 (0)), some (rf 13 (14)), some (rf 13 (15)), some (rf 13 (16)), some (rf 13 (17)), some (rf 14 (6)), y7, some (.inl (u8)), y9, y10, some (.inl (u11)), some (.inl (u12)), some (.inl (u13)), y14, some (.inl (u15)), some (.inr (.inl (u16))), none] [] τ (w, σ') := h
        replace h := ec_p h rfl rfl rfl rfl
        obtain ⟨f, g, h⟩ := h
        replace hf := Nat.lt_trans g hf
        clear g
        replace h : EC C f 18 ab_main 910 [some (rf 98 (0)), some (rf 11 (0)), some (rf 13 (14)), some (rf 13 (15)), some (rf 13 (16)), some (rf 13 (17)), some (rf 14 (6)), y7, some (.inl (u8)), y9, y10, some (.inl (u11)), some (.inl (u12)), some (.inl (u13)), y14, some (.inl (u15)), some (.inr (.inl (u16))), none] [.inl (Int32.ofInt 0)] τ (w, σ') := h
        replace h := ec_p h rfl rfl rfl rfl
        obtain ⟨f, g, h⟩ := h
        replace hf := Nat.lt_trans g hf
        clear g
        replace h : EC C f 18 ab_main 912 [some (rf 98 (0)), some (rf 11 (0)), some (rf 13 (14)), some (rf 13 (15)), some (rf 13 (16)), some (rf 13 (17)), some (rf 14 (6)), some (.inl (Int32.ofInt 0)), some (.inl (u8)), y9, y10, some (.inl (u11)), some (.inl (u12)), some (.inl (u13)), y14, some (.inl (u15)), some (.inr (.inl (u16))), none] [] τ (w, σ') := h
        replace h := ec_p h rfl rfl rfl rfl
        obtain ⟨f, g, h⟩ := h
        replace hf := Nat.lt_trans g hf
        clear g
        replace h : EC C f 18 ab_main 925 [some (rf 98 (0)), some (rf 11 (0)), some (rf 13 (14)), some (rf 13 (15)), some (rf 13 (16)), some (rf 13 (17)), some (rf 14 (6)), some (.inl (Int32.ofInt 0)), some (.inl (u8)), y9, y10, some (.inl (u11)), some (.inl (u12)), some (.inl (u13)), y14, some (.inl (u15)), some (.inr (.inl (u16))), none] [] τ (w, σ') := h
        exact H925 f hf (Int32.ofInt 0) (u8) (u11) y9 y10 (some (.inl (u12))) (some (.inl (u13))) y14 (some (.inl (u15))) (some (.inr (.inl (u16)))) (none) τ hsτ h
      · skip
        replace hp3 : ¬ ((u16).toInt < (Int64.ofNat 0).toInt) := (not_congr (ab_lc .lt _ _)).mp hp3
        refine Or.inr ⟨hp3, ?_⟩
        replace hf := Nat.lt_trans g hf
        clear g
        replace h : EC C f 18 ab_main 882 [some (rf 98 (0)), some (rf 11 (0)), some (rf 13 (14)), some (rf 13 (15)), some (rf 13 (16)), some (rf 13 (17)), some (rf 14 (6)), y7, some (.inl (u8)), y9, y10, some (.inl (u11)), some (.inl (u12)), some (.inl (u13)), y14, some (.inl (u15)), some (.inr (.inl (u16))), none] [] τ (w, σ') := h
        replace h := ec_p h rfl rfl rfl rfl
        obtain ⟨f, g, h⟩ := h
        replace hf := Nat.lt_trans g hf
        clear g
        replace h : EC C f 18 ab_main 884 [some (rf 98 (0)), some (rf 11 (0)), some (rf 13 (14)), some (rf 13 (15)), some (rf 13 (16)), some (rf 13 (17)), some (rf 14 (6)), y7, some (.inl (u8)), y9, y10, some (.inl (u11)), some (.inl (u12)), some (.inl (u13)), y14, some (.inl (u15)), some (.inr (.inl (u16))), none] [.inr (.inl (u16))] τ (w, σ') := h
        replace h := ec_p h rfl rfl rfl rfl
        obtain ⟨f, g, h⟩ := h
        replace hf := Nat.lt_trans g hf
        clear g
        replace h : EC C f 18 ab_main 885 [some (rf 98 (0)), some (rf 11 (0)), some (rf 13 (14)), some (rf 13 (15)), some (rf 13 (16)), some (rf 13 (17)), some (rf 14 (6)), y7, some (.inl (u8)), y9, y10, some (.inl (u11)), some (.inl (u12)), some (.inl (u13)), y14, some (.inl (u15)), some (.inr (.inl (u16))), none] [.inl (Int32.ofInt 1), .inr (.inl (u16))] τ (w, σ') := h
        replace h := ec_p h rfl rfl rfl rfl
        obtain ⟨f, g, h⟩ := h
        replace hf := Nat.lt_trans g hf
        clear g
        replace h : EC C f 18 ab_main 887 [some (rf 98 (0)), some (rf 11 (0)), some (rf 13 (14)), some (rf 13 (15)), some (rf 13 (16)), some (rf 13 (17)), some (rf 14 (6)), y7, some (.inl (u8)), y9, y10, some (.inl (u11)), some (.inl (u12)), some (.inl (u13)), y14, some (.inl (u15)), some (.inr (.inl (u16))), none] [.inl (u11), .inl (Int32.ofInt 1), .inr (.inl (u16))] τ (w, σ') := h
        replace h := ec_p h rfl rfl rfl rfl
        obtain ⟨f, g, h⟩ := h
        replace hf := Nat.lt_trans g hf
        clear g
        replace h : EC C f 18 ab_main 889 [some (rf 98 (0)), some (rf 11 (0)), some (rf 13 (14)), some (rf 13 (15)), some (rf 13 (16)), some (rf 13 (17)), some (rf 14 (6)), y7, some (.inl (u8)), y9, y10, some (.inl (u11)), some (.inl (u12)), some (.inl (u13)), y14, some (.inl (u15)), some (.inr (.inl (u16))), none] [.inl (Int32.ofInt 40), .inl (u11), .inl (Int32.ofInt 1), .inr (.inl (u16))] τ (w, σ') := h
        replace h := ec_irem h rfl
        obtain ⟨hd4, f, g, h⟩ := h
        replace hf := Nat.lt_trans g hf
        clear g
        replace h : EC C f 18 ab_main 890 [some (rf 98 (0)), some (rf 11 (0)), some (rf 13 (14)), some (rf 13 (15)), some (rf 13 (16)), some (rf 13 (17)), some (rf 14 (6)), y7, some (.inl (u8)), y9, y10, some (.inl (u11)), some (.inl (u12)), some (.inl (u13)), y14, some (.inl (u15)), some (.inr (.inl (u16))), none] [.inl ((u11) - (u11) / (Int32.ofInt 40) * (Int32.ofInt 40)), .inl (Int32.ofInt 1), .inr (.inl (u16))] τ (w, σ') := h
        replace h := ec_p h rfl rfl rfl rfl
        obtain ⟨f, g, h⟩ := h
        replace hf := Nat.lt_trans g hf
        clear g
        replace h : EC C f 18 ab_main 891 [some (rf 98 (0)), some (rf 11 (0)), some (rf 13 (14)), some (rf 13 (15)), some (rf 13 (16)), some (rf 13 (17)), some (rf 14 (6)), y7, some (.inl (u8)), y9, y10, some (.inl (u11)), some (.inl (u12)), some (.inl (u13)), y14, some (.inl (u15)), some (.inr (.inl (u16))), none] [.inl ((Int32.ofInt 1) + ((u11) - (u11) / (Int32.ofInt 40) * (Int32.ofInt 40))), .inr (.inl (u16))] τ (w, σ') := h
        replace h := ec_p h rfl rfl rfl rfl
        obtain ⟨f, g, h⟩ := h
        replace hf := Nat.lt_trans g hf
        clear g
        replace h : EC C f 18 ab_main 892 [some (rf 98 (0)), some (rf 11 (0)), some (rf 13 (14)), some (rf 13 (15)), some (rf 13 (16)), some (rf 13 (17)), some (rf 14 (6)), y7, some (.inl (u8)), y9, y10, some (.inl (u11)), some (.inl (u12)), some (.inl (u13)), y14, some (.inl (u15)), some (.inr (.inl (u16))), none] [.inr (.inl (((Int32.ofInt 1) + ((u11) - (u11) / (Int32.ofInt 40) * (Int32.ofInt 40))).toInt64)), .inr (.inl (u16))] τ (w, σ') := h
        replace h := ec_p h rfl rfl rfl rfl
        obtain ⟨f, g, h⟩ := h
        replace hf := Nat.lt_trans g hf
        clear g
        replace h : EC C f 18 ab_main 893 [some (rf 98 (0)), some (rf 11 (0)), some (rf 13 (14)), some (rf 13 (15)), some (rf 13 (16)), some (rf 13 (17)), some (rf 14 (6)), y7, some (.inl (u8)), y9, y10, some (.inl (u11)), some (.inl (u12)), some (.inl (u13)), y14, some (.inl (u15)), some (.inr (.inl (u16))), none] [.inl (lg_cmp (u16) (((Int32.ofInt 1) + ((u11) - (u11) / (Int32.ofInt 40) * (Int32.ofInt 40))).toInt64))] τ (w, σ') := h
        replace h := ec_c h rfl rfl rfl
        rcases h with ⟨hp5, f, g, h⟩ | ⟨hp5, f, g, h⟩
        · skip
          replace hp5 : (((Int32.ofInt 1) + ((u11) - (u11) / (Int32.ofInt 40) * (Int32.ofInt 40))).toInt64).toInt < (u16).toInt := (ab_lc .gt _ _).mp hp5
          refine Or.inl ⟨hp5, ?_⟩
          replace hf := Nat.lt_trans g hf
          clear g
          replace h : EC C f 18 ab_main 909 [some (rf 98 (0)), some (rf 11 (0)), some (rf 13 (14)), some (rf 13 (15)), some (rf 13 (16)), some (rf 13 (17)), some (rf 14 (6)), y7, some (.inl (u8)), y9, y10, some (.inl (u11)), some (.inl (u12)), some (.inl (u13)), y14, some (.inl (u15)), some (.inr (.inl (u16))), none] [] τ (w, σ') := h
          replace h := ec_p h rfl rfl rfl rfl
          obtain ⟨f, g, h⟩ := h
          replace hf := Nat.lt_trans g hf
          clear g
          replace h : EC C f 18 ab_main 910 [some (rf 98 (0)), some (rf 11 (0)), some (rf 13 (14)), some (rf 13 (15)), some (rf 13 (16)), some (rf 13 (17)), some (rf 14 (6)), y7, some (.inl (u8)), y9, y10, some (.inl (u11)), some (.inl (u12)), some (.inl (u13)), y14, some (.inl (u15)), some (.inr (.inl (u16))), none] [.inl (Int32.ofInt 0)] τ (w, σ') := h
          replace h := ec_p h rfl rfl rfl rfl
          obtain ⟨f, g, h⟩ := h
          replace hf := Nat.lt_trans g hf
          clear g
          replace h : EC C f 18 ab_main 912 [some (rf 98 (0)), some (rf 11 (0)), some (rf 13 (14)), some (rf 13 (15)), some (rf 13 (16)), some (rf 13 (17)), some (rf 14 (6)), some (.inl (Int32.ofInt 0)), some (.inl (u8)), y9, y10, some (.inl (u11)), some (.inl (u12)), some (.inl (u13)), y14, some (.inl (u15)), some (.inr (.inl (u16))), none] [] τ (w, σ') := h
          replace h := ec_p h rfl rfl rfl rfl
          obtain ⟨f, g, h⟩ := h
          replace hf := Nat.lt_trans g hf
          clear g
          replace h : EC C f 18 ab_main 925 [some (rf 98 (0)), some (rf 11 (0)), some (rf 13 (14)), some (rf 13 (15)), some (rf 13 (16)), some (rf 13 (17)), some (rf 14 (6)), some (.inl (Int32.ofInt 0)), some (.inl (u8)), y9, y10, some (.inl (u11)), some (.inl (u12)), some (.inl (u13)), y14, some (.inl (u15)), some (.inr (.inl (u16))), none] [] τ (w, σ') := h
          exact H925 f hf (Int32.ofInt 0) (u8) (u11) y9 y10 (some (.inl (u12))) (some (.inl (u13))) y14 (some (.inl (u15))) (some (.inr (.inl (u16)))) (none) τ hsτ h
        · skip
          replace hp5 : ¬ ((((Int32.ofInt 1) + ((u11) - (u11) / (Int32.ofInt 40) * (Int32.ofInt 40))).toInt64).toInt < (u16).toInt) := (not_congr (ab_lc .gt _ _)).mp hp5
          refine Or.inr ⟨hp5, ?_⟩
          replace hf := Nat.lt_trans g hf
          clear g
          replace h : EC C f 18 ab_main 896 [some (rf 98 (0)), some (rf 11 (0)), some (rf 13 (14)), some (rf 13 (15)), some (rf 13 (16)), some (rf 13 (17)), some (rf 14 (6)), y7, some (.inl (u8)), y9, y10, some (.inl (u11)), some (.inl (u12)), some (.inl (u13)), y14, some (.inl (u15)), some (.inr (.inl (u16))), none] [] τ (w, σ') := h
          exact H896 f hf (u8) (u11) y7 y9 y10 (some (.inl (u12))) (some (.inl (u13))) y14 (some (.inl (u15))) (some (.inr (.inl (u16)))) (none) τ hsτ h
    · skip
      replace hp2 : ¬ ((u15).toInt = (0 : Int)) := (not_congr ic_eq).mp hp2
      refine Or.inr ⟨hp2, ?_⟩
      replace hf := Nat.lt_trans g hf
      clear g
      replace h : EC C f 18 ab_main 863 [some (rf 98 (0)), some (rf 11 (0)), some (rf 13 (14)), some (rf 13 (15)), some (rf 13 (16)), some (rf 13 (17)), some (rf 14 (6)), y7, some (.inl (u8)), y9, y10, some (.inl (u11)), some (.inl (u12)), some (.inl (u13)), y14, some (.inl (u15)), some (.inr (.inl (u16))), none] [] τ (w, σ') := h
      replace h := ec_p h rfl rfl rfl rfl
      obtain ⟨f, g, h⟩ := h
      replace hf := Nat.lt_trans g hf
      clear g
      replace h : EC C f 18 ab_main 865 [some (rf 98 (0)), some (rf 11 (0)), some (rf 13 (14)), some (rf 13 (15)), some (rf 13 (16)), some (rf 13 (17)), some (rf 14 (6)), y7, some (.inl (u8)), y9, y10, some (.inl (u11)), some (.inl (u12)), some (.inl (u13)), y14, some (.inl (u15)), some (.inr (.inl (u16))), none] [.inr (.inl (u16))] τ (w, σ') := h
      replace h := ec_p h rfl rfl rfl rfl
      obtain ⟨f, g, h⟩ := h
      replace hf := Nat.lt_trans g hf
      clear g
      replace h : EC C f 18 ab_main 868 [some (rf 98 (0)), some (rf 11 (0)), some (rf 13 (14)), some (rf 13 (15)), some (rf 13 (16)), some (rf 13 (17)), some (rf 14 (6)), y7, some (.inl (u8)), y9, y10, some (.inl (u11)), some (.inl (u12)), some (.inl (u13)), y14, some (.inl (u15)), some (.inr (.inl (u16))), none] [.inr (.inl (Int64.ofInt (-1000000000))), .inr (.inl (u16))] τ (w, σ') := h
      replace h := ec_p h rfl rfl rfl rfl
      obtain ⟨f, g, h⟩ := h
      replace hf := Nat.lt_trans g hf
      clear g
      replace h : EC C f 18 ab_main 869 [some (rf 98 (0)), some (rf 11 (0)), some (rf 13 (14)), some (rf 13 (15)), some (rf 13 (16)), some (rf 13 (17)), some (rf 14 (6)), y7, some (.inl (u8)), y9, y10, some (.inl (u11)), some (.inl (u12)), some (.inl (u13)), y14, some (.inl (u15)), some (.inr (.inl (u16))), none] [.inl (lg_cmp (u16) (Int64.ofInt (-1000000000)))] τ (w, σ') := h
      replace h := ec_c h rfl rfl rfl
      rcases h with ⟨hp6, f, g, h⟩ | ⟨hp6, f, g, h⟩
      · skip
        replace hp6 : (u16).toInt ≠ (Int64.ofInt (-1000000000)).toInt := (ab_lc .ne _ _).mp hp6
        refine Or.inl ⟨hp6, ?_⟩
        replace hf := Nat.lt_trans g hf
        clear g
        replace h : EC C f 18 ab_main 909 [some (rf 98 (0)), some (rf 11 (0)), some (rf 13 (14)), some (rf 13 (15)), some (rf 13 (16)), some (rf 13 (17)), some (rf 14 (6)), y7, some (.inl (u8)), y9, y10, some (.inl (u11)), some (.inl (u12)), some (.inl (u13)), y14, some (.inl (u15)), some (.inr (.inl (u16))), none] [] τ (w, σ') := h
        replace h := ec_p h rfl rfl rfl rfl
        obtain ⟨f, g, h⟩ := h
        replace hf := Nat.lt_trans g hf
        clear g
        replace h : EC C f 18 ab_main 910 [some (rf 98 (0)), some (rf 11 (0)), some (rf 13 (14)), some (rf 13 (15)), some (rf 13 (16)), some (rf 13 (17)), some (rf 14 (6)), y7, some (.inl (u8)), y9, y10, some (.inl (u11)), some (.inl (u12)), some (.inl (u13)), y14, some (.inl (u15)), some (.inr (.inl (u16))), none] [.inl (Int32.ofInt 0)] τ (w, σ') := h
        replace h := ec_p h rfl rfl rfl rfl
        obtain ⟨f, g, h⟩ := h
        replace hf := Nat.lt_trans g hf
        clear g
        replace h : EC C f 18 ab_main 912 [some (rf 98 (0)), some (rf 11 (0)), some (rf 13 (14)), some (rf 13 (15)), some (rf 13 (16)), some (rf 13 (17)), some (rf 14 (6)), some (.inl (Int32.ofInt 0)), some (.inl (u8)), y9, y10, some (.inl (u11)), some (.inl (u12)), some (.inl (u13)), y14, some (.inl (u15)), some (.inr (.inl (u16))), none] [] τ (w, σ') := h
        replace h := ec_p h rfl rfl rfl rfl
        obtain ⟨f, g, h⟩ := h
        replace hf := Nat.lt_trans g hf
        clear g
        replace h : EC C f 18 ab_main 925 [some (rf 98 (0)), some (rf 11 (0)), some (rf 13 (14)), some (rf 13 (15)), some (rf 13 (16)), some (rf 13 (17)), some (rf 14 (6)), some (.inl (Int32.ofInt 0)), some (.inl (u8)), y9, y10, some (.inl (u11)), some (.inl (u12)), some (.inl (u13)), y14, some (.inl (u15)), some (.inr (.inl (u16))), none] [] τ (w, σ') := h
        exact H925 f hf (Int32.ofInt 0) (u8) (u11) y9 y10 (some (.inl (u12))) (some (.inl (u13))) y14 (some (.inl (u15))) (some (.inr (.inl (u16)))) (none) τ hsτ h
      · skip
        replace hp6 : ¬ ((u16).toInt ≠ (Int64.ofInt (-1000000000)).toInt) := (not_congr (ab_lc .ne _ _)).mp hp6
        refine Or.inr ⟨hp6, ?_⟩
        replace hf := Nat.lt_trans g hf
        clear g
        replace h : EC C f 18 ab_main 872 [some (rf 98 (0)), some (rf 11 (0)), some (rf 13 (14)), some (rf 13 (15)), some (rf 13 (16)), some (rf 13 (17)), some (rf 14 (6)), y7, some (.inl (u8)), y9, y10, some (.inl (u11)), some (.inl (u12)), some (.inl (u13)), y14, some (.inl (u15)), some (.inr (.inl (u16))), none] [] τ (w, σ') := h
        replace h := ec_p h rfl rfl rfl rfl
        obtain ⟨f, g, h⟩ := h
        replace hf := Nat.lt_trans g hf
        clear g
        replace h : EC C f 18 ab_main 896 [some (rf 98 (0)), some (rf 11 (0)), some (rf 13 (14)), some (rf 13 (15)), some (rf 13 (16)), some (rf 13 (17)), some (rf 14 (6)), y7, some (.inl (u8)), y9, y10, some (.inl (u11)), some (.inl (u12)), some (.inl (u13)), y14, some (.inl (u15)), some (.inr (.inl (u16))), none] [] τ (w, σ') := h
        exact H896 f hf (u8) (u11) y7 y9 y10 (some (.inl (u12))) (some (.inl (u13))) y14 (some (.inl (u15))) (some (.inr (.inl (u16)))) (none) τ hsτ h
  · skip
    replace hp1 : ¬ ((u12).toInt ≠ (u13).toInt) := (not_congr ic_ne).mp hp1
    refine Or.inr ⟨hp1, ?_⟩
    replace hf := Nat.lt_trans g hf
    clear g
    replace h : EC C f 18 ab_main 846 [some (rf 98 (0)), some (rf 11 (0)), some (rf 13 (14)), some (rf 13 (15)), some (rf 13 (16)), some (rf 13 (17)), some (rf 14 (6)), y7, some (.inl (u8)), y9, y10, some (.inl (u11)), some (.inl (u12)), some (.inl (u13)), y14, some (.inl (u15)), some (.inr (.inl (u16))), none] [] τ (w, σ') := h
    replace h := ec_p h rfl rfl rfl rfl
    obtain ⟨f, g, h⟩ := h
    replace hf := Nat.lt_trans g hf
    clear g
    replace h : EC C f 18 ab_main 848 [some (rf 98 (0)), some (rf 11 (0)), some (rf 13 (14)), some (rf 13 (15)), some (rf 13 (16)), some (rf 13 (17)), some (rf 14 (6)), y7, some (.inl (u8)), y9, y10, some (.inl (u11)), some (.inl (u12)), some (.inl (u13)), y14, some (.inl (u15)), some (.inr (.inl (u16))), none] [.inr (.inl (u16))] τ (w, σ') := h
    replace h := ec_p h rfl rfl rfl rfl
    obtain ⟨f, g, h⟩ := h
    replace hf := Nat.lt_trans g hf
    clear g
    replace h : EC C f 18 ab_main 851 [some (rf 98 (0)), some (rf 11 (0)), some (rf 13 (14)), some (rf 13 (15)), some (rf 13 (16)), some (rf 13 (17)), some (rf 14 (6)), y7, some (.inl (u8)), y9, y10, some (.inl (u11)), some (.inl (u12)), some (.inl (u13)), y14, some (.inl (u15)), some (.inr (.inl (u16))), none] [.inr (.inl (Int64.ofInt (-2000000000))), .inr (.inl (u16))] τ (w, σ') := h
    replace h := ec_p h rfl rfl rfl rfl
    obtain ⟨f, g, h⟩ := h
    replace hf := Nat.lt_trans g hf
    clear g
    replace h : EC C f 18 ab_main 852 [some (rf 98 (0)), some (rf 11 (0)), some (rf 13 (14)), some (rf 13 (15)), some (rf 13 (16)), some (rf 13 (17)), some (rf 14 (6)), y7, some (.inl (u8)), y9, y10, some (.inl (u11)), some (.inl (u12)), some (.inl (u13)), y14, some (.inl (u15)), some (.inr (.inl (u16))), none] [.inl (lg_cmp (u16) (Int64.ofInt (-2000000000)))] τ (w, σ') := h
    replace h := ec_c h rfl rfl rfl
    rcases h with ⟨hp7, f, g, h⟩ | ⟨hp7, f, g, h⟩
    · skip
      replace hp7 : (u16).toInt ≠ (Int64.ofInt (-2000000000)).toInt := (ab_lc .ne _ _).mp hp7
      refine Or.inl ⟨hp7, ?_⟩
      replace hf := Nat.lt_trans g hf
      clear g
      replace h : EC C f 18 ab_main 909 [some (rf 98 (0)), some (rf 11 (0)), some (rf 13 (14)), some (rf 13 (15)), some (rf 13 (16)), some (rf 13 (17)), some (rf 14 (6)), y7, some (.inl (u8)), y9, y10, some (.inl (u11)), some (.inl (u12)), some (.inl (u13)), y14, some (.inl (u15)), some (.inr (.inl (u16))), none] [] τ (w, σ') := h
      replace h := ec_p h rfl rfl rfl rfl
      obtain ⟨f, g, h⟩ := h
      replace hf := Nat.lt_trans g hf
      clear g
      replace h : EC C f 18 ab_main 910 [some (rf 98 (0)), some (rf 11 (0)), some (rf 13 (14)), some (rf 13 (15)), some (rf 13 (16)), some (rf 13 (17)), some (rf 14 (6)), y7, some (.inl (u8)), y9, y10, some (.inl (u11)), some (.inl (u12)), some (.inl (u13)), y14, some (.inl (u15)), some (.inr (.inl (u16))), none] [.inl (Int32.ofInt 0)] τ (w, σ') := h
      replace h := ec_p h rfl rfl rfl rfl
      obtain ⟨f, g, h⟩ := h
      replace hf := Nat.lt_trans g hf
      clear g
      replace h : EC C f 18 ab_main 912 [some (rf 98 (0)), some (rf 11 (0)), some (rf 13 (14)), some (rf 13 (15)), some (rf 13 (16)), some (rf 13 (17)), some (rf 14 (6)), some (.inl (Int32.ofInt 0)), some (.inl (u8)), y9, y10, some (.inl (u11)), some (.inl (u12)), some (.inl (u13)), y14, some (.inl (u15)), some (.inr (.inl (u16))), none] [] τ (w, σ') := h
      replace h := ec_p h rfl rfl rfl rfl
      obtain ⟨f, g, h⟩ := h
      replace hf := Nat.lt_trans g hf
      clear g
      replace h : EC C f 18 ab_main 925 [some (rf 98 (0)), some (rf 11 (0)), some (rf 13 (14)), some (rf 13 (15)), some (rf 13 (16)), some (rf 13 (17)), some (rf 14 (6)), some (.inl (Int32.ofInt 0)), some (.inl (u8)), y9, y10, some (.inl (u11)), some (.inl (u12)), some (.inl (u13)), y14, some (.inl (u15)), some (.inr (.inl (u16))), none] [] τ (w, σ') := h
      exact H925 f hf (Int32.ofInt 0) (u8) (u11) y9 y10 (some (.inl (u12))) (some (.inl (u13))) y14 (some (.inl (u15))) (some (.inr (.inl (u16)))) (none) τ hsτ h
    · skip
      replace hp7 : ¬ ((u16).toInt ≠ (Int64.ofInt (-2000000000)).toInt) := (not_congr (ab_lc .ne _ _)).mp hp7
      refine Or.inr ⟨hp7, ?_⟩
      replace hf := Nat.lt_trans g hf
      clear g
      replace h : EC C f 18 ab_main 855 [some (rf 98 (0)), some (rf 11 (0)), some (rf 13 (14)), some (rf 13 (15)), some (rf 13 (16)), some (rf 13 (17)), some (rf 14 (6)), y7, some (.inl (u8)), y9, y10, some (.inl (u11)), some (.inl (u12)), some (.inl (u13)), y14, some (.inl (u15)), some (.inr (.inl (u16))), none] [] τ (w, σ') := h
      replace h := ec_p h rfl rfl rfl rfl
      obtain ⟨f, g, h⟩ := h
      replace hf := Nat.lt_trans g hf
      clear g
      replace h : EC C f 18 ab_main 896 [some (rf 98 (0)), some (rf 11 (0)), some (rf 13 (14)), some (rf 13 (15)), some (rf 13 (16)), some (rf 13 (17)), some (rf 14 (6)), y7, some (.inl (u8)), y9, y10, some (.inl (u11)), some (.inl (u12)), some (.inl (u13)), y14, some (.inl (u15)), some (.inr (.inl (u16))), none] [] τ (w, σ') := h
      exact H896 f hf (u8) (u11) y7 y9 y10 (some (.inl (u12))) (some (.inl (u13))) y14 (some (.inl (u15))) (some (.inr (.inl (u16)))) (none) τ hsτ h
def T896 (K925 : Int32 → Int32 → Int32 → mS → Prop) (u8 : Int32) (u11 : Int32) (τ : mS) (w : mX) (σ' : mS) : Prop := ((∃ v1 σ2, ev_run sm_all 181 [rf 11 (0), rf 13 (17)] τ (.inl (some (.inl v1))) σ2 ∧ P181 τ (.inl (some (.inl v1))) σ2 ∧ (HL σ2 → (((v1).toInt = (0 : Int) ∧ K925 (Int32.ofInt 0) (u8) (u11) σ2) ∨ (¬ ((v1).toInt = (0 : Int)) ∧ K925 (Int32.ofInt 1) (u8) (u11) σ2)))) ∨ (∃ b, P181 τ (.inr b) σ' ∧ w = .inr b))
set_option maxRecDepth 100000 in
theorem t896 {C : ec_C} (hC : CK C) {N : Nat} {w : mX} {σ' : mS} {K925 : Int32 → Int32 → Int32 → mS → Prop} (H925 : ∀ f, f < N → ∀ (u7 : Int32) (u8 : Int32) (u11 : Int32) (y9 : Option mV) (y10 : Option mV) (y12 : Option mV) (y13 : Option mV) (y14 : Option mV) (y15 : Option mV) (y16 : Option mV) (y17 : Option mV) (τ : mS), HL τ → EC C f 18 ab_main 925 [some (rf 98 (0)), some (rf 11 (0)), some (rf 13 (14)), some (rf 13 (15)), some (rf 13 (16)), some (rf 13 (17)), some (rf 14 (6)), some (.inl (u7)), some (.inl (u8)), y9, y10, some (.inl (u11)), y12, y13, y14, y15, y16, y17] [] τ (w, σ') → K925 u7 u8 u11 τ) : ∀ f, f < N + 1 → ∀ (u8 : Int32) (u11 : Int32) (y7 : Option mV) (y9 : Option mV) (y10 : Option mV) (y12 : Option mV) (y13 : Option mV) (y14 : Option mV) (y15 : Option mV) (y16 : Option mV) (y17 : Option mV) (τ : mS), HL τ → EC C f 18 ab_main 896 [some (rf 98 (0)), some (rf 11 (0)), some (rf 13 (14)), some (rf 13 (15)), some (rf 13 (16)), some (rf 13 (17)), some (rf 14 (6)), y7, some (.inl (u8)), y9, y10, some (.inl (u11)), y12, y13, y14, y15, y16, y17] [] τ (w, σ') → T896 K925 u8 u11 τ w σ' := by
  intro f hf0 u8 u11 y7 y9 y10 y12 y13 y14 y15 y16 y17 τ hsτ h
  have hf : f < N + 1 := hf0
  clear hf0
  unfold T896
  replace h : EC C f 18 ab_main 896 [some (rf 98 (0)), some (rf 11 (0)), some (rf 13 (14)), some (rf 13 (15)), some (rf 13 (16)), some (rf 13 (17)), some (rf 14 (6)), y7, some (.inl (u8)), y9, y10, some (.inl (u11)), y12, y13, y14, y15, y16, y17] [] τ (w, σ') := h
  replace h := ec_p h rfl rfl rfl rfl
  obtain ⟨f, g, h⟩ := h
  replace hf := Nat.lt_of_lt_of_le g (Nat.le_of_lt_succ hf)
  clear g
  replace h : EC C f 18 ab_main 897 [some (rf 98 (0)), some (rf 11 (0)), some (rf 13 (14)), some (rf 13 (15)), some (rf 13 (16)), some (rf 13 (17)), some (rf 14 (6)), y7, some (.inl (u8)), y9, y10, some (.inl (u11)), y12, y13, y14, y15, y16, y17] [rf 11 (0)] τ (w, σ') := h
  replace h := ec_p h rfl rfl rfl rfl
  obtain ⟨f, g, h⟩ := h
  replace hf := Nat.lt_trans g hf
  clear g
  replace h : EC C f 18 ab_main 899 [some (rf 98 (0)), some (rf 11 (0)), some (rf 13 (14)), some (rf 13 (15)), some (rf 13 (16)), some (rf 13 (17)), some (rf 14 (6)), y7, some (.inl (u8)), y9, y10, some (.inl (u11)), y12, y13, y14, y15, y16, y17] [rf 13 (17), rf 11 (0)] τ (w, σ') := h
  replace h := cx_I hC (ec_s (as := [rf 13 (17), rf 11 (0)]) h rfl (Nat.le_of_ble_eq_true rfl) rfl rfl) rfl z181_at (Or.inr rfl)
  rcases h with ⟨v1, σ2, r3, f, g, h⟩ | ⟨b, σ2, r3, e⟩
  · skip
    replace hf := Nat.lt_trans g hf
    clear g
    have p4 := x181 hsτ r3
    refine Or.inl ⟨v1, σ2, r3, p4, fun hsσ2 => ?_⟩
    replace h : EC C f 18 ab_main 902 [some (rf 98 (0)), some (rf 11 (0)), some (rf 13 (14)), some (rf 13 (15)), some (rf 13 (16)), some (rf 13 (17)), some (rf 14 (6)), y7, some (.inl (u8)), y9, y10, some (.inl (u11)), y12, y13, y14, y15, y16, y17] [.inl (v1)] σ2 (w, σ') := h
    replace h := ec_c h rfl rfl rfl
    rcases h with ⟨hp5, f, g, h⟩ | ⟨hp5, f, g, h⟩
    · skip
      replace hp5 : (v1).toInt = (0 : Int) := ic_eq.mp hp5
      refine Or.inl ⟨hp5, ?_⟩
      replace hf := Nat.lt_trans g hf
      clear g
      replace h : EC C f 18 ab_main 909 [some (rf 98 (0)), some (rf 11 (0)), some (rf 13 (14)), some (rf 13 (15)), some (rf 13 (16)), some (rf 13 (17)), some (rf 14 (6)), y7, some (.inl (u8)), y9, y10, some (.inl (u11)), y12, y13, y14, y15, y16, y17] [] σ2 (w, σ') := h
      replace h := ec_p h rfl rfl rfl rfl
      obtain ⟨f, g, h⟩ := h
      replace hf := Nat.lt_trans g hf
      clear g
      replace h : EC C f 18 ab_main 910 [some (rf 98 (0)), some (rf 11 (0)), some (rf 13 (14)), some (rf 13 (15)), some (rf 13 (16)), some (rf 13 (17)), some (rf 14 (6)), y7, some (.inl (u8)), y9, y10, some (.inl (u11)), y12, y13, y14, y15, y16, y17] [.inl (Int32.ofInt 0)] σ2 (w, σ') := h
      replace h := ec_p h rfl rfl rfl rfl
      obtain ⟨f, g, h⟩ := h
      replace hf := Nat.lt_trans g hf
      clear g
      replace h : EC C f 18 ab_main 912 [some (rf 98 (0)), some (rf 11 (0)), some (rf 13 (14)), some (rf 13 (15)), some (rf 13 (16)), some (rf 13 (17)), some (rf 14 (6)), some (.inl (Int32.ofInt 0)), some (.inl (u8)), y9, y10, some (.inl (u11)), y12, y13, y14, y15, y16, y17] [] σ2 (w, σ') := h
      replace h := ec_p h rfl rfl rfl rfl
      obtain ⟨f, g, h⟩ := h
      replace hf := Nat.lt_trans g hf
      clear g
      replace h : EC C f 18 ab_main 925 [some (rf 98 (0)), some (rf 11 (0)), some (rf 13 (14)), some (rf 13 (15)), some (rf 13 (16)), some (rf 13 (17)), some (rf 14 (6)), some (.inl (Int32.ofInt 0)), some (.inl (u8)), y9, y10, some (.inl (u11)), y12, y13, y14, y15, y16, y17] [] σ2 (w, σ') := h
      exact H925 f hf (Int32.ofInt 0) (u8) (u11) y9 y10 y12 y13 y14 y15 y16 y17 σ2 hsσ2 h
    · skip
      replace hp5 : ¬ ((v1).toInt = (0 : Int)) := (not_congr ic_eq).mp hp5
      refine Or.inr ⟨hp5, ?_⟩
      replace hf := Nat.lt_trans g hf
      clear g
      replace h : EC C f 18 ab_main 905 [some (rf 98 (0)), some (rf 11 (0)), some (rf 13 (14)), some (rf 13 (15)), some (rf 13 (16)), some (rf 13 (17)), some (rf 14 (6)), y7, some (.inl (u8)), y9, y10, some (.inl (u11)), y12, y13, y14, y15, y16, y17] [] σ2 (w, σ') := h
      replace h := ec_p h rfl rfl rfl rfl
      obtain ⟨f, g, h⟩ := h
      replace hf := Nat.lt_trans g hf
      clear g
      replace h : EC C f 18 ab_main 906 [some (rf 98 (0)), some (rf 11 (0)), some (rf 13 (14)), some (rf 13 (15)), some (rf 13 (16)), some (rf 13 (17)), some (rf 14 (6)), y7, some (.inl (u8)), y9, y10, some (.inl (u11)), y12, y13, y14, y15, y16, y17] [.inl (Int32.ofInt 1)] σ2 (w, σ') := h
      replace h := ec_p h rfl rfl rfl rfl
      obtain ⟨f, g, h⟩ := h
      replace hf := Nat.lt_trans g hf
      clear g
      replace h : EC C f 18 ab_main 910 [some (rf 98 (0)), some (rf 11 (0)), some (rf 13 (14)), some (rf 13 (15)), some (rf 13 (16)), some (rf 13 (17)), some (rf 14 (6)), y7, some (.inl (u8)), y9, y10, some (.inl (u11)), y12, y13, y14, y15, y16, y17] [.inl (Int32.ofInt 1)] σ2 (w, σ') := h
      replace h := ec_p h rfl rfl rfl rfl
      obtain ⟨f, g, h⟩ := h
      replace hf := Nat.lt_trans g hf
      clear g
      replace h : EC C f 18 ab_main 912 [some (rf 98 (0)), some (rf 11 (0)), some (rf 13 (14)), some (rf 13 (15)), some (rf 13 (16)), some (rf 13 (17)), some (rf 14 (6)), some (.inl (Int32.ofInt 1)), some (.inl (u8)), y9, y10, some (.inl (u11)), y12, y13, y14, y15, y16, y17] [] σ2 (w, σ') := h
      replace h := ec_p h rfl rfl rfl rfl
      obtain ⟨f, g, h⟩ := h
      replace hf := Nat.lt_trans g hf
      clear g
      replace h : EC C f 18 ab_main 925 [some (rf 98 (0)), some (rf 11 (0)), some (rf 13 (14)), some (rf 13 (15)), some (rf 13 (16)), some (rf 13 (17)), some (rf 14 (6)), some (.inl (Int32.ofInt 1)), some (.inl (u8)), y9, y10, some (.inl (u11)), y12, y13, y14, y15, y16, y17] [] σ2 (w, σ') := h
      exact H925 f hf (Int32.ofInt 1) (u8) (u11) y9 y10 y12 y13 y14 y15 y16 y17 σ2 hsσ2 h
  · skip
    have p4 := x181 hsτ r3
    cases e
    exact Or.inr ⟨b, p4, rfl⟩
