/-! the law's own method, ahead of its loop -/
def T35 (K162 : Int32 → Int32 → mS → Prop) (τ : mS) (w : mX) (σ' : mS) : Prop := ∃ v1, P141 τ v1 τ ∧ (((v1).toInt ≠ (0 : Int) ∧ K162 (Int32.ofInt 0) (Int32.ofInt 0) τ) ∨ (¬ ((v1).toInt ≠ (0 : Int)) ∧ ∃ v6 σ7, ev_run sm_all 157 [rf 11 (0)] τ (.inl (some (.inl v6))) σ7 ∧ (HL σ7 → (((v6).toInt = (0 : Int) ∧ K162 (Int32.ofInt 0) (Int32.ofInt 0) σ7) ∨ (¬ ((v6).toInt = (0 : Int)) ∧ ∃ v11 σ12, gF σ7 σ12 ∧ HL σ12 ∧ ev_run sm_all 172 [rf 11 (0), .inl (Int32.ofInt 21), .inl (Int32.ofInt 5), .inl (Int32.ofInt 0), .inl (Int32.ofInt 0), .inl (Int32.ofInt 0), .inl (Int32.ofInt 0), .inl (Int32.ofInt 0), .inl (Int32.ofInt 0)] σ7 (.inl (some (.inr (.inl v11)))) σ12 ∧ P172 σ7 (Int32.ofInt 21) (Int32.ofInt 5) (Int32.ofInt 0) (Int32.ofInt 0) (Int32.ofInt 0) (Int32.ofInt 0) (Int32.ofInt 0) (Int32.ofInt 0) (.inl (some (.inr (.inl v11)))) σ12 ∧ (((v11).toInt ≠ (Int64.ofInt (-3000000000)).toInt ∧ K162 (Int32.ofInt 0) (Int32.ofInt 0) σ12) ∨ (¬ ((v11).toInt ≠ (Int64.ofInt (-3000000000)).toInt) ∧ ∃ v16 σ17, gF σ12 σ17 ∧ HL σ17 ∧ ev_run sm_all 172 [rf 11 (0), .inl (Int32.ofInt 19), .inl (Int32.ofInt (-2)), .inl (Int32.ofInt 0), .inl (Int32.ofInt 0), .inl (Int32.ofInt 0), .inl (Int32.ofInt 0), .inl (Int32.ofInt 0), .inl (Int32.ofInt 0)] σ12 (.inl (some (.inr (.inl v16)))) σ17 ∧ P172 σ12 (Int32.ofInt 19) (Int32.ofInt (-2)) (Int32.ofInt 0) (Int32.ofInt 0) (Int32.ofInt 0) (Int32.ofInt 0) (Int32.ofInt 0) (Int32.ofInt 0) (.inl (some (.inr (.inl v16)))) σ17 ∧ (((v16).toInt ≠ (Int64.ofInt (-3000000000)).toInt ∧ K162 (Int32.ofInt 0) (Int32.ofInt 0) σ17) ∨ (¬ ((v16).toInt ≠ (Int64.ofInt (-3000000000)).toInt) ∧ ∃ v21 σ22, gF σ17 σ22 ∧ HL σ22 ∧ ev_run sm_all 172 [rf 11 (0), .inl (Int32.ofInt 20), .inl (Int32.ofInt 0), .inl (Int32.ofInt 3), .inl (Int32.ofInt 0), .inl (Int32.ofInt 0), .inl (Int32.ofInt 0), .inl (Int32.ofInt 0), .inl (Int32.ofInt 0)] σ17 (.inl (some (.inr (.inl v21)))) σ22 ∧ P172 σ17 (Int32.ofInt 20) (Int32.ofInt 0) (Int32.ofInt 3) (Int32.ofInt 0) (Int32.ofInt 0) (Int32.ofInt 0) (Int32.ofInt 0) (Int32.ofInt 0) (.inl (some (.inr (.inl v21)))) σ22 ∧ (((v21).toInt ≠ (Int64.ofInt (-2000000000)).toInt ∧ K162 (Int32.ofInt 0) (Int32.ofInt 0) σ22) ∨ (¬ ((v21).toInt ≠ (Int64.ofInt (-2000000000)).toInt) ∧ ∃ v26 σ27, gF σ22 σ27 ∧ HL σ27 ∧ ev_run sm_all 172 [rf 11 (0), .inl (Int32.ofInt 22), .inl (Int32.ofInt 0), .inl (Int32.ofInt 0), .inl (Int32.ofInt 10000), .inl (Int32.ofInt 0), .inl (Int32.ofInt 0), .inl (Int32.ofInt 0), .inl (Int32.ofInt 0)] σ22 (.inl (some (.inr (.inl v26)))) σ27 ∧ P172 σ22 (Int32.ofInt 22) (Int32.ofInt 0) (Int32.ofInt 0) (Int32.ofInt 10000) (Int32.ofInt 0) (Int32.ofInt 0) (Int32.ofInt 0) (Int32.ofInt 0) (.inl (some (.inr (.inl v26)))) σ27 ∧ (((v26).toInt ≠ (Int64.ofInt (-2000000000)).toInt ∧ K162 (Int32.ofInt 0) (Int32.ofInt 0) σ27) ∨ (¬ ((v26).toInt ≠ (Int64.ofInt (-2000000000)).toInt) ∧ ∃ v31 σ32, gF σ27 σ32 ∧ HL σ32 ∧ ev_run sm_all 172 [rf 11 (0), .inl (Int32.ofInt 23), .inl (Int32.ofInt 3), .inl (Int32.ofInt 0), .inl (Int32.ofInt 0), .inl (Int32.ofInt 0), .inl (Int32.ofInt 0), .inl (Int32.ofInt 0), .inl (Int32.ofInt 0)] σ27 (.inl (some (.inr (.inl v31)))) σ32 ∧ P172 σ27 (Int32.ofInt 23) (Int32.ofInt 3) (Int32.ofInt 0) (Int32.ofInt 0) (Int32.ofInt 0) (Int32.ofInt 0) (Int32.ofInt 0) (Int32.ofInt 0) (.inl (some (.inr (.inl v31)))) σ32 ∧ (((v31).toInt ≠ (Int64.ofInt (-3000000000)).toInt ∧ K162 (Int32.ofInt 0) (Int32.ofInt 0) σ32) ∨ (¬ ((v31).toInt ≠ (Int64.ofInt (-3000000000)).toInt) ∧ K162 (Int32.ofInt 1) (Int32.ofInt 0) σ32)))))))))))))))
set_option maxRecDepth 100000 in
theorem t35 {C : ec_C} (hC : CK C) {N : Nat} {w : mX} {σ' : mS} {K162 : Int32 → Int32 → mS → Prop} (H162 : ∀ f, f < N → ∀ (u7 : Int32) (u8 : Int32) (y9 : Option mV) (y10 : Option mV) (y11 : Option mV) (y12 : Option mV) (y13 : Option mV) (y14 : Option mV) (y15 : Option mV) (y16 : Option mV) (y17 : Option mV) (τ : mS), HL τ → EC C f 18 ab_main 162 [some (rf 98 (0)), some (rf 11 (0)), some (rf 13 (14)), some (rf 13 (15)), some (rf 13 (16)), some (rf 13 (17)), some (rf 14 (6)), some (.inl (u7)), some (.inl (u8)), y9, y10, y11, y12, y13, y14, y15, y16, y17] [] τ (w, σ') → K162 u7 u8 τ) : ∀ f, f < N + 1 → ∀ (y7 : Option mV) (y8 : Option mV) (y9 : Option mV) (y10 : Option mV) (y11 : Option mV) (y12 : Option mV) (y13 : Option mV) (y14 : Option mV) (y15 : Option mV) (y16 : Option mV) (y17 : Option mV) (τ : mS), HL τ → EC C f 18 ab_main 35 [some (rf 98 (0)), some (rf 11 (0)), some (rf 13 (14)), some (rf 13 (15)), some (rf 13 (16)), some (rf 13 (17)), some (rf 14 (6)), y7, y8, y9, y10, y11, y12, y13, y14, y15, y16, y17] [] τ (w, σ') → T35 K162  τ w σ' := by
  intro f hf0 y7 y8 y9 y10 y11 y12 y13 y14 y15 y16 y17 τ hsτ h
  have hf : f < N + 1 := hf0
  clear hf0
  unfold T35
  replace h : EC C f 18 ab_main 35 [some (rf 98 (0)), some (rf 11 (0)), some (rf 13 (14)), some (rf 13 (15)), some (rf 13 (16)), some (rf 13 (17)), some (rf 14 (6)), y7, y8, y9, y10, y11, y12, y13, y14, y15, y16, y17] [] τ (w, σ') := h
  replace h := ec_p h rfl rfl rfl rfl
  obtain ⟨f, g, h⟩ := h
  replace hf := Nat.lt_of_lt_of_le g (Nat.le_of_lt_succ hf)
  clear g
  replace h : EC C f 18 ab_main 36 [some (rf 98 (0)), some (rf 11 (0)), some (rf 13 (14)), some (rf 13 (15)), some (rf 13 (16)), some (rf 13 (17)), some (rf 14 (6)), y7, y8, y9, y10, y11, y12, y13, y14, y15, y16, y17] [rf 11 (0)] τ (w, σ') := h
  replace h := cx_I hC (ec_v (as := []) h rfl rfl rfl) rfl z141_at (Or.inl rfl)
  rcases h with ⟨v1, σ2, r3, f, g, h⟩ | ⟨b, σ2, r3, e⟩
  rotate_left
  · obtain ⟨_, z⟩ := nt_run rfl r3
    cases z
  replace hf := Nat.lt_trans g hf
  clear g
  have er3 := ro2_run rfl r3
  rw [er3] at h r3
  have p4 := x141 hsτ.1 r3
  refine ⟨v1, p4, ?_⟩
  replace h : EC C f 18 ab_main 39 [some (rf 98 (0)), some (rf 11 (0)), some (rf 13 (14)), some (rf 13 (15)), some (rf 13 (16)), some (rf 13 (17)), some (rf 14 (6)), y7, y8, y9, y10, y11, y12, y13, y14, y15, y16, y17] [.inl (v1)] τ (w, σ') := h
  replace h := ec_c h rfl rfl rfl
  rcases h with ⟨hp5, f, g, h⟩ | ⟨hp5, f, g, h⟩
  · skip
    replace hp5 : (v1).toInt ≠ (0 : Int) := ic_ne.mp hp5
    refine Or.inl ⟨hp5, ?_⟩
    replace hf := Nat.lt_trans g hf
    clear g
    replace h : EC C f 18 ab_main 156 [some (rf 98 (0)), some (rf 11 (0)), some (rf 13 (14)), some (rf 13 (15)), some (rf 13 (16)), some (rf 13 (17)), some (rf 14 (6)), y7, y8, y9, y10, y11, y12, y13, y14, y15, y16, y17] [] τ (w, σ') := h
    replace h := ec_p h rfl rfl rfl rfl
    obtain ⟨f, g, h⟩ := h
    replace hf := Nat.lt_trans g hf
    clear g
    replace h : EC C f 18 ab_main 157 [some (rf 98 (0)), some (rf 11 (0)), some (rf 13 (14)), some (rf 13 (15)), some (rf 13 (16)), some (rf 13 (17)), some (rf 14 (6)), y7, y8, y9, y10, y11, y12, y13, y14, y15, y16, y17] [.inl (Int32.ofInt 0)] τ (w, σ') := h
    replace h := ec_p h rfl rfl rfl rfl
    obtain ⟨f, g, h⟩ := h
    replace hf := Nat.lt_trans g hf
    clear g
    replace h : EC C f 18 ab_main 159 [some (rf 98 (0)), some (rf 11 (0)), some (rf 13 (14)), some (rf 13 (15)), some (rf 13 (16)), some (rf 13 (17)), some (rf 14 (6)), some (.inl (Int32.ofInt 0)), y8, y9, y10, y11, y12, y13, y14, y15, y16, y17] [] τ (w, σ') := h
    replace h := ec_p h rfl rfl rfl rfl
    obtain ⟨f, g, h⟩ := h
    replace hf := Nat.lt_trans g hf
    clear g
    replace h : EC C f 18 ab_main 160 [some (rf 98 (0)), some (rf 11 (0)), some (rf 13 (14)), some (rf 13 (15)), some (rf 13 (16)), some (rf 13 (17)), some (rf 14 (6)), some (.inl (Int32.ofInt 0)), y8, y9, y10, y11, y12, y13, y14, y15, y16, y17] [.inl (Int32.ofInt 0)] τ (w, σ') := h
    replace h := ec_p h rfl rfl rfl rfl
    obtain ⟨f, g, h⟩ := h
    replace hf := Nat.lt_trans g hf
    clear g
    replace h : EC C f 18 ab_main 162 [some (rf 98 (0)), some (rf 11 (0)), some (rf 13 (14)), some (rf 13 (15)), some (rf 13 (16)), some (rf 13 (17)), some (rf 14 (6)), some (.inl (Int32.ofInt 0)), some (.inl (Int32.ofInt 0)), y9, y10, y11, y12, y13, y14, y15, y16, y17] [] τ (w, σ') := h
    exact H162 f hf (Int32.ofInt 0) (Int32.ofInt 0) y9 y10 y11 y12 y13 y14 y15 y16 y17 τ hsτ h
  · skip
    replace hp5 : ¬ ((v1).toInt ≠ (0 : Int)) := (not_congr ic_ne).mp hp5
    refine Or.inr ⟨hp5, ?_⟩
    replace hf := Nat.lt_trans g hf
    clear g
    replace h : EC C f 18 ab_main 42 [some (rf 98 (0)), some (rf 11 (0)), some (rf 13 (14)), some (rf 13 (15)), some (rf 13 (16)), some (rf 13 (17)), some (rf 14 (6)), y7, y8, y9, y10, y11, y12, y13, y14, y15, y16, y17] [] τ (w, σ') := h
    replace h := ec_p h rfl rfl rfl rfl
    obtain ⟨f, g, h⟩ := h
    replace hf := Nat.lt_trans g hf
    clear g
    replace h : EC C f 18 ab_main 43 [some (rf 98 (0)), some (rf 11 (0)), some (rf 13 (14)), some (rf 13 (15)), some (rf 13 (16)), some (rf 13 (17)), some (rf 14 (6)), y7, y8, y9, y10, y11, y12, y13, y14, y15, y16, y17] [rf 11 (0)] τ (w, σ') := h
    replace h := cx_I hC (ec_v (as := []) h rfl rfl rfl) rfl z157_at (Or.inr rfl)
    rcases h with ⟨v6, σ7, r8, f, g, h⟩ | ⟨b, σ7, r8, e⟩
    rotate_left
    · obtain ⟨_, z⟩ := nt_run rfl r8
      cases z
    replace hf := Nat.lt_trans g hf
    clear g
    refine ⟨v6, σ7, r8, ?_⟩
    refine fun hsσ7 => ?_
    replace h : EC C f 18 ab_main 46 [some (rf 98 (0)), some (rf 11 (0)), some (rf 13 (14)), some (rf 13 (15)), some (rf 13 (16)), some (rf 13 (17)), some (rf 14 (6)), y7, y8, y9, y10, y11, y12, y13, y14, y15, y16, y17] [.inl (v6)] σ7 (w, σ') := h
    replace h := ec_c h rfl rfl rfl
    rcases h with ⟨hp10, f, g, h⟩ | ⟨hp10, f, g, h⟩
    · skip
      replace hp10 : (v6).toInt = (0 : Int) := ic_eq.mp hp10
      refine Or.inl ⟨hp10, ?_⟩
      replace hf := Nat.lt_trans g hf
      clear g
      replace h : EC C f 18 ab_main 156 [some (rf 98 (0)), some (rf 11 (0)), some (rf 13 (14)), some (rf 13 (15)), some (rf 13 (16)), some (rf 13 (17)), some (rf 14 (6)), y7, y8, y9, y10, y11, y12, y13, y14, y15, y16, y17] [] σ7 (w, σ') := h
      replace h := ec_p h rfl rfl rfl rfl
      obtain ⟨f, g, h⟩ := h
      replace hf := Nat.lt_trans g hf
      clear g
      replace h : EC C f 18 ab_main 157 [some (rf 98 (0)), some (rf 11 (0)), some (rf 13 (14)), some (rf 13 (15)), some (rf 13 (16)), some (rf 13 (17)), some (rf 14 (6)), y7, y8, y9, y10, y11, y12, y13, y14, y15, y16, y17] [.inl (Int32.ofInt 0)] σ7 (w, σ') := h
      replace h := ec_p h rfl rfl rfl rfl
      obtain ⟨f, g, h⟩ := h
      replace hf := Nat.lt_trans g hf
      clear g
      replace h : EC C f 18 ab_main 159 [some (rf 98 (0)), some (rf 11 (0)), some (rf 13 (14)), some (rf 13 (15)), some (rf 13 (16)), some (rf 13 (17)), some (rf 14 (6)), some (.inl (Int32.ofInt 0)), y8, y9, y10, y11, y12, y13, y14, y15, y16, y17] [] σ7 (w, σ') := h
      replace h := ec_p h rfl rfl rfl rfl
      obtain ⟨f, g, h⟩ := h
      replace hf := Nat.lt_trans g hf
      clear g
      replace h : EC C f 18 ab_main 160 [some (rf 98 (0)), some (rf 11 (0)), some (rf 13 (14)), some (rf 13 (15)), some (rf 13 (16)), some (rf 13 (17)), some (rf 14 (6)), some (.inl (Int32.ofInt 0)), y8, y9, y10, y11, y12, y13, y14, y15, y16, y17] [.inl (Int32.ofInt 0)] σ7 (w, σ') := h
      replace h := ec_p h rfl rfl rfl rfl
      obtain ⟨f, g, h⟩ := h
      replace hf := Nat.lt_trans g hf
      clear g
      replace h : EC C f 18 ab_main 162 [some (rf 98 (0)), some (rf 11 (0)), some (rf 13 (14)), some (rf 13 (15)), some (rf 13 (16)), some (rf 13 (17)), some (rf 14 (6)), some (.inl (Int32.ofInt 0)), some (.inl (Int32.ofInt 0)), y9, y10, y11, y12, y13, y14, y15, y16, y17] [] σ7 (w, σ') := h
      exact H162 f hf (Int32.ofInt 0) (Int32.ofInt 0) y9 y10 y11 y12 y13 y14 y15 y16 y17 σ7 hsσ7 h
    · skip
      replace hp10 : ¬ ((v6).toInt = (0 : Int)) := (not_congr ic_eq).mp hp10
      refine Or.inr ⟨hp10, ?_⟩
      replace hf := Nat.lt_trans g hf
      clear g
      replace h : EC C f 18 ab_main 49 [some (rf 98 (0)), some (rf 11 (0)), some (rf 13 (14)), some (rf 13 (15)), some (rf 13 (16)), some (rf 13 (17)), some (rf 14 (6)), y7, y8, y9, y10, y11, y12, y13, y14, y15, y16, y17] [] σ7 (w, σ') := h
      replace h := ec_p h rfl rfl rfl rfl
      obtain ⟨f, g, h⟩ := h
      replace hf := Nat.lt_trans g hf
      clear g
      replace h : EC C f 18 ab_main 50 [some (rf 98 (0)), some (rf 11 (0)), some (rf 13 (14)), some (rf 13 (15)), some (rf 13 (16)), some (rf 13 (17)), some (rf 14 (6)), y7, y8, y9, y10, y11, y12, y13, y14, y15, y16, y17] [rf 11 (0)] σ7 (w, σ') := h
      replace h := ec_p h rfl rfl rfl rfl
      obtain ⟨f, g, h⟩ := h
      replace hf := Nat.lt_trans g hf
      clear g
      replace h : EC C f 18 ab_main 52 [some (rf 98 (0)), some (rf 11 (0)), some (rf 13 (14)), some (rf 13 (15)), some (rf 13 (16)), some (rf 13 (17)), some (rf 14 (6)), y7, y8, y9, y10, y11, y12, y13, y14, y15, y16, y17] [.inl (Int32.ofInt 21), rf 11 (0)] σ7 (w, σ') := h
      replace h := ec_p h rfl rfl rfl rfl
      obtain ⟨f, g, h⟩ := h
      replace hf := Nat.lt_trans g hf
      clear g
      replace h : EC C f 18 ab_main 53 [some (rf 98 (0)), some (rf 11 (0)), some (rf 13 (14)), some (rf 13 (15)), some (rf 13 (16)), some (rf 13 (17)), some (rf 14 (6)), y7, y8, y9, y10, y11, y12, y13, y14, y15, y16, y17] [.inl (Int32.ofInt 5), .inl (Int32.ofInt 21), rf 11 (0)] σ7 (w, σ') := h
      replace h := ec_p h rfl rfl rfl rfl
      obtain ⟨f, g, h⟩ := h
      replace hf := Nat.lt_trans g hf
      clear g
      replace h : EC C f 18 ab_main 54 [some (rf 98 (0)), some (rf 11 (0)), some (rf 13 (14)), some (rf 13 (15)), some (rf 13 (16)), some (rf 13 (17)), some (rf 14 (6)), y7, y8, y9, y10, y11, y12, y13, y14, y15, y16, y17] [.inl (Int32.ofInt 0), .inl (Int32.ofInt 5), .inl (Int32.ofInt 21), rf 11 (0)] σ7 (w, σ') := h
      replace h := ec_p h rfl rfl rfl rfl
      obtain ⟨f, g, h⟩ := h
      replace hf := Nat.lt_trans g hf
      clear g
      replace h : EC C f 18 ab_main 55 [some (rf 98 (0)), some (rf 11 (0)), some (rf 13 (14)), some (rf 13 (15)), some (rf 13 (16)), some (rf 13 (17)), some (rf 14 (6)), y7, y8, y9, y10, y11, y12, y13, y14, y15, y16, y17] [.inl (Int32.ofInt 0), .inl (Int32.ofInt 0), .inl (Int32.ofInt 5), .inl (Int32.ofInt 21), rf 11 (0)] σ7 (w, σ') := h
      replace h := ec_p h rfl rfl rfl rfl
      obtain ⟨f, g, h⟩ := h
      replace hf := Nat.lt_trans g hf
      clear g
      replace h : EC C f 18 ab_main 56 [some (rf 98 (0)), some (rf 11 (0)), some (rf 13 (14)), some (rf 13 (15)), some (rf 13 (16)), some (rf 13 (17)), some (rf 14 (6)), y7, y8, y9, y10, y11, y12, y13, y14, y15, y16, y17] [.inl (Int32.ofInt 0), .inl (Int32.ofInt 0), .inl (Int32.ofInt 0), .inl (Int32.ofInt 5), .inl (Int32.ofInt 21), rf 11 (0)] σ7 (w, σ') := h
      replace h := ec_p h rfl rfl rfl rfl
      obtain ⟨f, g, h⟩ := h
      replace hf := Nat.lt_trans g hf
      clear g
      replace h : EC C f 18 ab_main 57 [some (rf 98 (0)), some (rf 11 (0)), some (rf 13 (14)), some (rf 13 (15)), some (rf 13 (16)), some (rf 13 (17)), some (rf 14 (6)), y7, y8, y9, y10, y11, y12, y13, y14, y15, y16, y17] [.inl (Int32.ofInt 0), .inl (Int32.ofInt 0), .inl (Int32.ofInt 0), .inl (Int32.ofInt 0), .inl (Int32.ofInt 5), .inl (Int32.ofInt 21), rf 11 (0)] σ7 (w, σ') := h
      replace h := ec_p h rfl rfl rfl rfl
      obtain ⟨f, g, h⟩ := h
      replace hf := Nat.lt_trans g hf
      clear g
      replace h : EC C f 18 ab_main 58 [some (rf 98 (0)), some (rf 11 (0)), some (rf 13 (14)), some (rf 13 (15)), some (rf 13 (16)), some (rf 13 (17)), some (rf 14 (6)), y7, y8, y9, y10, y11, y12, y13, y14, y15, y16, y17] [.inl (Int32.ofInt 0), .inl (Int32.ofInt 0), .inl (Int32.ofInt 0), .inl (Int32.ofInt 0), .inl (Int32.ofInt 0), .inl (Int32.ofInt 5), .inl (Int32.ofInt 21), rf 11 (0)] σ7 (w, σ') := h
      replace h := ec_p h rfl rfl rfl rfl
      obtain ⟨f, g, h⟩ := h
      replace hf := Nat.lt_trans g hf
      clear g
      replace h : EC C f 18 ab_main 59 [some (rf 98 (0)), some (rf 11 (0)), some (rf 13 (14)), some (rf 13 (15)), some (rf 13 (16)), some (rf 13 (17)), some (rf 14 (6)), y7, y8, y9, y10, y11, y12, y13, y14, y15, y16, y17] [.inl (Int32.ofInt 0), .inl (Int32.ofInt 0), .inl (Int32.ofInt 0), .inl (Int32.ofInt 0), .inl (Int32.ofInt 0), .inl (Int32.ofInt 0), .inl (Int32.ofInt 5), .inl (Int32.ofInt 21), rf 11 (0)] σ7 (w, σ') := h
      replace h := cx_L hC (ec_s (as := [.inl (Int32.ofInt 0), .inl (Int32.ofInt 0), .inl (Int32.ofInt 0), .inl (Int32.ofInt 0), .inl (Int32.ofInt 0), .inl (Int32.ofInt 0), .inl (Int32.ofInt 5), .inl (Int32.ofInt 21), rf 11 (0)]) h rfl (Nat.le_of_ble_eq_true rfl) rfl rfl) rfl z172_at rfl
      rcases h with ⟨v11, σ12, r13, f, g, h⟩ | ⟨b, σ12, r13, e⟩
      rotate_left
      · exact (nt172 (x172 hsσ7 r13)).elim
      replace hf := Nat.lt_trans g hf
      clear g
      have p14 := x172 hsσ7 r13
      have hsσ12 : HL σ12 := hl172 p14
      refine ⟨v11, σ12, gF_r r13 rfl hsσ7, hsσ12, r13, p14, ?_⟩
      replace h : EC C f 18 ab_main 62 [some (rf 98 (0)), some (rf 11 (0)), some (rf 13 (14)), some (rf 13 (15)), some (rf 13 (16)), some (rf 13 (17)), some (rf 14 (6)), y7, y8, y9, y10, y11, y12, y13, y14, y15, y16, y17] [.inr (.inl (v11))] σ12 (w, σ') := h
      replace h := ec_p h rfl rfl rfl rfl
      obtain ⟨f, g, h⟩ := h
      replace hf := Nat.lt_trans g hf
      clear g
      replace h : EC C f 18 ab_main 65 [some (rf 98 (0)), some (rf 11 (0)), some (rf 13 (14)), some (rf 13 (15)), some (rf 13 (16)), some (rf 13 (17)), some (rf 14 (6)), y7, y8, y9, y10, y11, y12, y13, y14, y15, y16, y17] [.inr (.inl (Int64.ofInt (-3000000000))), .inr (.inl (v11))] σ12 (w, σ') := h
      replace h := ec_p h rfl rfl rfl rfl
      obtain ⟨f, g, h⟩ := h
      replace hf := Nat.lt_trans g hf
      clear g
      replace h : EC C f 18 ab_main 66 [some (rf 98 (0)), some (rf 11 (0)), some (rf 13 (14)), some (rf 13 (15)), some (rf 13 (16)), some (rf 13 (17)), some (rf 14 (6)), y7, y8, y9, y10, y11, y12, y13, y14, y15, y16, y17] [.inl (lg_cmp (v11) (Int64.ofInt (-3000000000)))] σ12 (w, σ') := h
      replace h := ec_c h rfl rfl rfl
      rcases h with ⟨hp15, f, g, h⟩ | ⟨hp15, f, g, h⟩
      · skip
        replace hp15 : (v11).toInt ≠ (Int64.ofInt (-3000000000)).toInt := (ab_lc .ne _ _).mp hp15
        refine Or.inl ⟨hp15, ?_⟩
        replace hf := Nat.lt_trans g hf
        clear g
        replace h : EC C f 18 ab_main 156 [some (rf 98 (0)), some (rf 11 (0)), some (rf 13 (14)), some (rf 13 (15)), some (rf 13 (16)), some (rf 13 (17)), some (rf 14 (6)), y7, y8, y9, y10, y11, y12, y13, y14, y15, y16, y17] [] σ12 (w, σ') := h
        replace h := ec_p h rfl rfl rfl rfl
        obtain ⟨f, g, h⟩ := h
        replace hf := Nat.lt_trans g hf
        clear g
        replace h : EC C f 18 ab_main 157 [some (rf 98 (0)), some (rf 11 (0)), some (rf 13 (14)), some (rf 13 (15)), some (rf 13 (16)), some (rf 13 (17)), some (rf 14 (6)), y7, y8, y9, y10, y11, y12, y13, y14, y15, y16, y17] [.inl (Int32.ofInt 0)] σ12 (w, σ') := h
        replace h := ec_p h rfl rfl rfl rfl
        obtain ⟨f, g, h⟩ := h
        replace hf := Nat.lt_trans g hf
        clear g
        replace h : EC C f 18 ab_main 159 [some (rf 98 (0)), some (rf 11 (0)), some (rf 13 (14)), some (rf 13 (15)), some (rf 13 (16)), some (rf 13 (17)), some (rf 14 (6)), some (.inl (Int32.ofInt 0)), y8, y9, y10, y11, y12, y13, y14, y15, y16, y17] [] σ12 (w, σ') := h
        replace h := ec_p h rfl rfl rfl rfl
        obtain ⟨f, g, h⟩ := h
        replace hf := Nat.lt_trans g hf
        clear g
        replace h : EC C f 18 ab_main 160 [some (rf 98 (0)), some (rf 11 (0)), some (rf 13 (14)), some (rf 13 (15)), some (rf 13 (16)), some (rf 13 (17)), some (rf 14 (6)), some (.inl (Int32.ofInt 0)), y8, y9, y10, y11, y12, y13, y14, y15, y16, y17] [.inl (Int32.ofInt 0)] σ12 (w, σ') := h
        replace h := ec_p h rfl rfl rfl rfl
        obtain ⟨f, g, h⟩ := h
        replace hf := Nat.lt_trans g hf
        clear g
        replace h : EC C f 18 ab_main 162 [some (rf 98 (0)), some (rf 11 (0)), some (rf 13 (14)), some (rf 13 (15)), some (rf 13 (16)), some (rf 13 (17)), some (rf 14 (6)), some (.inl (Int32.ofInt 0)), some (.inl (Int32.ofInt 0)), y9, y10, y11, y12, y13, y14, y15, y16, y17] [] σ12 (w, σ') := h
        exact H162 f hf (Int32.ofInt 0) (Int32.ofInt 0) y9 y10 y11 y12 y13 y14 y15 y16 y17 σ12 hsσ12 h
      · skip
        replace hp15 : ¬ ((v11).toInt ≠ (Int64.ofInt (-3000000000)).toInt) := (not_congr (ab_lc .ne _ _)).mp hp15
        refine Or.inr ⟨hp15, ?_⟩
        replace hf := Nat.lt_trans g hf
        clear g
        replace h : EC C f 18 ab_main 69 [some (rf 98 (0)), some (rf 11 (0)), some (rf 13 (14)), some (rf 13 (15)), some (rf 13 (16)), some (rf 13 (17)), some (rf 14 (6)), y7, y8, y9, y10, y11, y12, y13, y14, y15, y16, y17] [] σ12 (w, σ') := h
        replace h := ec_p h rfl rfl rfl rfl
        obtain ⟨f, g, h⟩ := h
        replace hf := Nat.lt_trans g hf
        clear g
        replace h : EC C f 18 ab_main 70 [some (rf 98 (0)), some (rf 11 (0)), some (rf 13 (14)), some (rf 13 (15)), some (rf 13 (16)), some (rf 13 (17)), some (rf 14 (6)), y7, y8, y9, y10, y11, y12, y13, y14, y15, y16, y17] [rf 11 (0)] σ12 (w, σ') := h
        replace h := ec_p h rfl rfl rfl rfl
        obtain ⟨f, g, h⟩ := h
        replace hf := Nat.lt_trans g hf
        clear g
        replace h : EC C f 18 ab_main 72 [some (rf 98 (0)), some (rf 11 (0)), some (rf 13 (14)), some (rf 13 (15)), some (rf 13 (16)), some (rf 13 (17)), some (rf 14 (6)), y7, y8, y9, y10, y11, y12, y13, y14, y15, y16, y17] [.inl (Int32.ofInt 19), rf 11 (0)] σ12 (w, σ') := h
        replace h := ec_p h rfl rfl rfl rfl
        obtain ⟨f, g, h⟩ := h
        replace hf := Nat.lt_trans g hf
        clear g
        replace h : EC C f 18 ab_main 74 [some (rf 98 (0)), some (rf 11 (0)), some (rf 13 (14)), some (rf 13 (15)), some (rf 13 (16)), some (rf 13 (17)), some (rf 14 (6)), y7, y8, y9, y10, y11, y12, y13, y14, y15, y16, y17] [.inl (Int32.ofInt (-2)), .inl (Int32.ofInt 19), rf 11 (0)] σ12 (w, σ') := h
        replace h := ec_p h rfl rfl rfl rfl
        obtain ⟨f, g, h⟩ := h
        replace hf := Nat.lt_trans g hf
        clear g
        replace h : EC C f 18 ab_main 75 [some (rf 98 (0)), some (rf 11 (0)), some (rf 13 (14)), some (rf 13 (15)), some (rf 13 (16)), some (rf 13 (17)), some (rf 14 (6)), y7, y8, y9, y10, y11, y12, y13, y14, y15, y16, y17] [.inl (Int32.ofInt 0), .inl (Int32.ofInt (-2)), .inl (Int32.ofInt 19), rf 11 (0)] σ12 (w, σ') := h
        replace h := ec_p h rfl rfl rfl rfl
        obtain ⟨f, g, h⟩ := h
        replace hf := Nat.lt_trans g hf
        clear g
        replace h : EC C f 18 ab_main 76 [some (rf 98 (0)), some (rf 11 (0)), some (rf 13 (14)), some (rf 13 (15)), some (rf 13 (16)), some (rf 13 (17)), some (rf 14 (6)), y7, y8, y9, y10, y11, y12, y13, y14, y15, y16, y17] [.inl (Int32.ofInt 0), .inl (Int32.ofInt 0), .inl (Int32.ofInt (-2)), .inl (Int32.ofInt 19), rf 11 (0)] σ12 (w, σ') := h
        replace h := ec_p h rfl rfl rfl rfl
        obtain ⟨f, g, h⟩ := h
        replace hf := Nat.lt_trans g hf
        clear g
        replace h : EC C f 18 ab_main 77 [some (rf 98 (0)), some (rf 11 (0)), some (rf 13 (14)), some (rf 13 (15)), some (rf 13 (16)), some (rf 13 (17)), some (rf 14 (6)), y7, y8, y9, y10, y11, y12, y13, y14, y15, y16, y17] [.inl (Int32.ofInt 0), .inl (Int32.ofInt 0), .inl (Int32.ofInt 0), .inl (Int32.ofInt (-2)), .inl (Int32.ofInt 19), rf 11 (0)] σ12 (w, σ') := h
        replace h := ec_p h rfl rfl rfl rfl
        obtain ⟨f, g, h⟩ := h
        replace hf := Nat.lt_trans g hf
        clear g
        replace h : EC C f 18 ab_main 78 [some (rf 98 (0)), some (rf 11 (0)), some (rf 13 (14)), some (rf 13 (15)), some (rf 13 (16)), some (rf 13 (17)), some (rf 14 (6)), y7, y8, y9, y10, y11, y12, y13, y14, y15, y16, y17] [.inl (Int32.ofInt 0), .inl (Int32.ofInt 0), .inl (Int32.ofInt 0), .inl (Int32.ofInt 0), .inl (Int32.ofInt (-2)), .inl (Int32.ofInt 19), rf 11 (0)] σ12 (w, σ') := h
        replace h := ec_p h rfl rfl rfl rfl
        obtain ⟨f, g, h⟩ := h
        replace hf := Nat.lt_trans g hf
        clear g
        replace h : EC C f 18 ab_main 79 [some (rf 98 (0)), some (rf 11 (0)), some (rf 13 (14)), some (rf 13 (15)), some (rf 13 (16)), some (rf 13 (17)), some (rf 14 (6)), y7, y8, y9, y10, y11, y12, y13, y14, y15, y16, y17] [.inl (Int32.ofInt 0), .inl (Int32.ofInt 0), .inl (Int32.ofInt 0), .inl (Int32.ofInt 0), .inl (Int32.ofInt 0), .inl (Int32.ofInt (-2)), .inl (Int32.ofInt 19), rf 11 (0)] σ12 (w, σ') := h
        replace h := ec_p h rfl rfl rfl rfl
        obtain ⟨f, g, h⟩ := h
        replace hf := Nat.lt_trans g hf
        clear g
        replace h : EC C f 18 ab_main 80 [some (rf 98 (0)), some (rf 11 (0)), some (rf 13 (14)), some (rf 13 (15)), some (rf 13 (16)), some (rf 13 (17)), some (rf 14 (6)), y7, y8, y9, y10, y11, y12, y13, y14, y15, y16, y17] [.inl (Int32.ofInt 0), .inl (Int32.ofInt 0), .inl (Int32.ofInt 0), .inl (Int32.ofInt 0), .inl (Int32.ofInt 0), .inl (Int32.ofInt 0), .inl (Int32.ofInt (-2)), .inl (Int32.ofInt 19), rf 11 (0)] σ12 (w, σ') := h
        replace h := cx_L hC (ec_s (as := [.inl (Int32.ofInt 0), .inl (Int32.ofInt 0), .inl (Int32.ofInt 0), .inl (Int32.ofInt 0), .inl (Int32.ofInt 0), .inl (Int32.ofInt 0), .inl (Int32.ofInt (-2)), .inl (Int32.ofInt 19), rf 11 (0)]) h rfl (Nat.le_of_ble_eq_true rfl) rfl rfl) rfl z172_at rfl
        rcases h with ⟨v16, σ17, r18, f, g, h⟩ | ⟨b, σ17, r18, e⟩
        rotate_left
        · exact (nt172 (x172 hsσ12 r18)).elim
        replace hf := Nat.lt_trans g hf
        clear g
        have p19 := x172 hsσ12 r18
        have hsσ17 : HL σ17 := hl172 p19
        refine ⟨v16, σ17, gF_r r18 rfl hsσ12, hsσ17, r18, p19, ?_⟩
        replace h : EC C f 18 ab_main 83 [some (rf 98 (0)), some (rf 11 (0)), some (rf 13 (14)), some (rf 13 (15)), some (rf 13 (16)), some (rf 13 (17)), some (rf 14 (6)), y7, y8, y9, y10, y11, y12, y13, y14, y15, y16, y17] [.inr (.inl (v16))] σ17 (w, σ') := h
        replace h := ec_p h rfl rfl rfl rfl
        obtain ⟨f, g, h⟩ := h
        replace hf := Nat.lt_trans g hf
        clear g
        replace h : EC C f 18 ab_main 86 [some (rf 98 (0)), some (rf 11 (0)), some (rf 13 (14)), some (rf 13 (15)), some (rf 13 (16)), some (rf 13 (17)), some (rf 14 (6)), y7, y8, y9, y10, y11, y12, y13, y14, y15, y16, y17] [.inr (.inl (Int64.ofInt (-3000000000))), .inr (.inl (v16))] σ17 (w, σ') := h
        replace h := ec_p h rfl rfl rfl rfl
        obtain ⟨f, g, h⟩ := h
        replace hf := Nat.lt_trans g hf
        clear g
        replace h : EC C f 18 ab_main 87 [some (rf 98 (0)), some (rf 11 (0)), some (rf 13 (14)), some (rf 13 (15)), some (rf 13 (16)), some (rf 13 (17)), some (rf 14 (6)), y7, y8, y9, y10, y11, y12, y13, y14, y15, y16, y17] [.inl (lg_cmp (v16) (Int64.ofInt (-3000000000)))] σ17 (w, σ') := h
        replace h := ec_c h rfl rfl rfl
        rcases h with ⟨hp20, f, g, h⟩ | ⟨hp20, f, g, h⟩
        · skip
          replace hp20 : (v16).toInt ≠ (Int64.ofInt (-3000000000)).toInt := (ab_lc .ne _ _).mp hp20
          refine Or.inl ⟨hp20, ?_⟩
          replace hf := Nat.lt_trans g hf
          clear g
          replace h : EC C f 18 ab_main 156 [some (rf 98 (0)), some (rf 11 (0)), some (rf 13 (14)), some (rf 13 (15)), some (rf 13 (16)), some (rf 13 (17)), some (rf 14 (6)), y7, y8, y9, y10, y11, y12, y13, y14, y15, y16, y17] [] σ17 (w, σ') := h
          replace h := ec_p h rfl rfl rfl rfl
          obtain ⟨f, g, h⟩ := h
          replace hf := Nat.lt_trans g hf
          clear g
          replace h : EC C f 18 ab_main 157 [some (rf 98 (0)), some (rf 11 (0)), some (rf 13 (14)), some (rf 13 (15)), some (rf 13 (16)), some (rf 13 (17)), some (rf 14 (6)), y7, y8, y9, y10, y11, y12, y13, y14, y15, y16, y17] [.inl (Int32.ofInt 0)] σ17 (w, σ') := h
          replace h := ec_p h rfl rfl rfl rfl
          obtain ⟨f, g, h⟩ := h
          replace hf := Nat.lt_trans g hf
          clear g
          replace h : EC C f 18 ab_main 159 [some (rf 98 (0)), some (rf 11 (0)), some (rf 13 (14)), some (rf 13 (15)), some (rf 13 (16)), some (rf 13 (17)), some (rf 14 (6)), some (.inl (Int32.ofInt 0)), y8, y9, y10, y11, y12, y13, y14, y15, y16, y17] [] σ17 (w, σ') := h
          replace h := ec_p h rfl rfl rfl rfl
          obtain ⟨f, g, h⟩ := h
          replace hf := Nat.lt_trans g hf
          clear g
          replace h : EC C f 18 ab_main 160 [some (rf 98 (0)), some (rf 11 (0)), some (rf 13 (14)), some (rf 13 (15)), some (rf 13 (16)), some (rf 13 (17)), some (rf 14 (6)), some (.inl (Int32.ofInt 0)), y8, y9, y10, y11, y12, y13, y14, y15, y16, y17] [.inl (Int32.ofInt 0)] σ17 (w, σ') := h
          replace h := ec_p h rfl rfl rfl rfl
          obtain ⟨f, g, h⟩ := h
          replace hf := Nat.lt_trans g hf
          clear g
          replace h : EC C f 18 ab_main 162 [some (rf 98 (0)), some (rf 11 (0)), some (rf 13 (14)), some (rf 13 (15)), some (rf 13 (16)), some (rf 13 (17)), some (rf 14 (6)), some (.inl (Int32.ofInt 0)), some (.inl (Int32.ofInt 0)), y9, y10, y11, y12, y13, y14, y15, y16, y17] [] σ17 (w, σ') := h
          exact H162 f hf (Int32.ofInt 0) (Int32.ofInt 0) y9 y10 y11 y12 y13 y14 y15 y16 y17 σ17 hsσ17 h
        · skip
          replace hp20 : ¬ ((v16).toInt ≠ (Int64.ofInt (-3000000000)).toInt) := (not_congr (ab_lc .ne _ _)).mp hp20
          refine Or.inr ⟨hp20, ?_⟩
          replace hf := Nat.lt_trans g hf
          clear g
          replace h : EC C f 18 ab_main 90 [some (rf 98 (0)), some (rf 11 (0)), some (rf 13 (14)), some (rf 13 (15)), some (rf 13 (16)), some (rf 13 (17)), some (rf 14 (6)), y7, y8, y9, y10, y11, y12, y13, y14, y15, y16, y17] [] σ17 (w, σ') := h
          replace h := ec_p h rfl rfl rfl rfl
          obtain ⟨f, g, h⟩ := h
          replace hf := Nat.lt_trans g hf
          clear g
          replace h : EC C f 18 ab_main 91 [some (rf 98 (0)), some (rf 11 (0)), some (rf 13 (14)), some (rf 13 (15)), some (rf 13 (16)), some (rf 13 (17)), some (rf 14 (6)), y7, y8, y9, y10, y11, y12, y13, y14, y15, y16, y17] [rf 11 (0)] σ17 (w, σ') := h
          replace h := ec_p h rfl rfl rfl rfl
          obtain ⟨f, g, h⟩ := h
          replace hf := Nat.lt_trans g hf
          clear g
          replace h : EC C f 18 ab_main 93 [some (rf 98 (0)), some (rf 11 (0)), some (rf 13 (14)), some (rf 13 (15)), some (rf 13 (16)), some (rf 13 (17)), some (rf 14 (6)), y7, y8, y9, y10, y11, y12, y13, y14, y15, y16, y17] [.inl (Int32.ofInt 20), rf 11 (0)] σ17 (w, σ') := h
          replace h := ec_p h rfl rfl rfl rfl
          obtain ⟨f, g, h⟩ := h
          replace hf := Nat.lt_trans g hf
          clear g
          replace h : EC C f 18 ab_main 94 [some (rf 98 (0)), some (rf 11 (0)), some (rf 13 (14)), some (rf 13 (15)), some (rf 13 (16)), some (rf 13 (17)), some (rf 14 (6)), y7, y8, y9, y10, y11, y12, y13, y14, y15, y16, y17] [.inl (Int32.ofInt 0), .inl (Int32.ofInt 20), rf 11 (0)] σ17 (w, σ') := h
          replace h := ec_p h rfl rfl rfl rfl
          obtain ⟨f, g, h⟩ := h
          replace hf := Nat.lt_trans g hf
          clear g
          replace h : EC C f 18 ab_main 95 [some (rf 98 (0)), some (rf 11 (0)), some (rf 13 (14)), some (rf 13 (15)), some (rf 13 (16)), some (rf 13 (17)), some (rf 14 (6)), y7, y8, y9, y10, y11, y12, y13, y14, y15, y16, y17] [.inl (Int32.ofInt 3), .inl (Int32.ofInt 0), .inl (Int32.ofInt 20), rf 11 (0)] σ17 (w, σ') := h
          replace h := ec_p h rfl rfl rfl rfl
          obtain ⟨f, g, h⟩ := h
          replace hf := Nat.lt_trans g hf
          clear g
          replace h : EC C f 18 ab_main 96 [some (rf 98 (0)), some (rf 11 (0)), some (rf 13 (14)), some (rf 13 (15)), some (rf 13 (16)), some (rf 13 (17)), some (rf 14 (6)), y7, y8, y9, y10, y11, y12, y13, y14, y15, y16, y17] [.inl (Int32.ofInt 0), .inl (Int32.ofInt 3), .inl (Int32.ofInt 0), .inl (Int32.ofInt 20), rf 11 (0)] σ17 (w, σ') := h
          replace h := ec_p h rfl rfl rfl rfl
          obtain ⟨f, g, h⟩ := h
          replace hf := Nat.lt_trans g hf
          clear g
          replace h : EC C f 18 ab_main 97 [some (rf 98 (0)), some (rf 11 (0)), some (rf 13 (14)), some (rf 13 (15)), some (rf 13 (16)), some (rf 13 (17)), some (rf 14 (6)), y7, y8, y9, y10, y11, y12, y13, y14, y15, y16, y17] [.inl (Int32.ofInt 0), .inl (Int32.ofInt 0), .inl (Int32.ofInt 3), .inl (Int32.ofInt 0), .inl (Int32.ofInt 20), rf 11 (0)] σ17 (w, σ') := h
          replace h := ec_p h rfl rfl rfl rfl
          obtain ⟨f, g, h⟩ := h
          replace hf := Nat.lt_trans g hf
          clear g
          replace h : EC C f 18 ab_main 98 [some (rf 98 (0)), some (rf 11 (0)), some (rf 13 (14)), some (rf 13 (15)), some (rf 13 (16)), some (rf 13 (17)), some (rf 14 (6)), y7, y8, y9, y10, y11, y12, y13, y14, y15, y16, y17] [.inl (Int32.ofInt 0), .inl (Int32.ofInt 0), .inl (Int32.ofInt 0), .inl (Int32.ofInt 3), .inl (Int32.ofInt 0), .inl (Int32.ofInt 20), rf 11 (0)] σ17 (w, σ') := h
          replace h := ec_p h rfl rfl rfl rfl
          obtain ⟨f, g, h⟩ := h
          replace hf := Nat.lt_trans g hf
          clear g
          replace h : EC C f 18 ab_main 99 [some (rf 98 (0)), some (rf 11 (0)), some (rf 13 (14)), some (rf 13 (15)), some (rf 13 (16)), some (rf 13 (17)), some (rf 14 (6)), y7, y8, y9, y10, y11, y12, y13, y14, y15, y16, y17] [.inl (Int32.ofInt 0), .inl (Int32.ofInt 0), .inl (Int32.ofInt 0), .inl (Int32.ofInt 0), .inl (Int32.ofInt 3), .inl (Int32.ofInt 0), .inl (Int32.ofInt 20), rf 11 (0)] σ17 (w, σ') := h
          replace h := ec_p h rfl rfl rfl rfl
          obtain ⟨f, g, h⟩ := h
          replace hf := Nat.lt_trans g hf
          clear g
          replace h : EC C f 18 ab_main 100 [some (rf 98 (0)), some (rf 11 (0)), some (rf 13 (14)), some (rf 13 (15)), some (rf 13 (16)), some (rf 13 (17)), some (rf 14 (6)), y7, y8, y9, y10, y11, y12, y13, y14, y15, y16, y17] [.inl (Int32.ofInt 0), .inl (Int32.ofInt 0), .inl (Int32.ofInt 0), .inl (Int32.ofInt 0), .inl (Int32.ofInt 0), .inl (Int32.ofInt 3), .inl (Int32.ofInt 0), .inl (Int32.ofInt 20), rf 11 (0)] σ17 (w, σ') := h
          replace h := cx_L hC (ec_s (as := [.inl (Int32.ofInt 0), .inl (Int32.ofInt 0), .inl (Int32.ofInt 0), .inl (Int32.ofInt 0), .inl (Int32.ofInt 0), .inl (Int32.ofInt 3), .inl (Int32.ofInt 0), .inl (Int32.ofInt 20), rf 11 (0)]) h rfl (Nat.le_of_ble_eq_true rfl) rfl rfl) rfl z172_at rfl
          rcases h with ⟨v21, σ22, r23, f, g, h⟩ | ⟨b, σ22, r23, e⟩
          rotate_left
          · exact (nt172 (x172 hsσ17 r23)).elim
          replace hf := Nat.lt_trans g hf
          clear g
          have p24 := x172 hsσ17 r23
          have hsσ22 : HL σ22 := hl172 p24
          refine ⟨v21, σ22, gF_r r23 rfl hsσ17, hsσ22, r23, p24, ?_⟩
          replace h : EC C f 18 ab_main 103 [some (rf 98 (0)), some (rf 11 (0)), some (rf 13 (14)), some (rf 13 (15)), some (rf 13 (16)), some (rf 13 (17)), some (rf 14 (6)), y7, y8, y9, y10, y11, y12, y13, y14, y15, y16, y17] [.inr (.inl (v21))] σ22 (w, σ') := h
          replace h := ec_p h rfl rfl rfl rfl
          obtain ⟨f, g, h⟩ := h
          replace hf := Nat.lt_trans g hf
          clear g
          replace h : EC C f 18 ab_main 106 [some (rf 98 (0)), some (rf 11 (0)), some (rf 13 (14)), some (rf 13 (15)), some (rf 13 (16)), some (rf 13 (17)), some (rf 14 (6)), y7, y8, y9, y10, y11, y12, y13, y14, y15, y16, y17] [.inr (.inl (Int64.ofInt (-2000000000))), .inr (.inl (v21))] σ22 (w, σ') := h
          replace h := ec_p h rfl rfl rfl rfl
          obtain ⟨f, g, h⟩ := h
          replace hf := Nat.lt_trans g hf
          clear g
          replace h : EC C f 18 ab_main 107 [some (rf 98 (0)), some (rf 11 (0)), some (rf 13 (14)), some (rf 13 (15)), some (rf 13 (16)), some (rf 13 (17)), some (rf 14 (6)), y7, y8, y9, y10, y11, y12, y13, y14, y15, y16, y17] [.inl (lg_cmp (v21) (Int64.ofInt (-2000000000)))] σ22 (w, σ') := h
          replace h := ec_c h rfl rfl rfl
          rcases h with ⟨hp25, f, g, h⟩ | ⟨hp25, f, g, h⟩
          · skip
            replace hp25 : (v21).toInt ≠ (Int64.ofInt (-2000000000)).toInt := (ab_lc .ne _ _).mp hp25
            refine Or.inl ⟨hp25, ?_⟩
            replace hf := Nat.lt_trans g hf
            clear g
            replace h : EC C f 18 ab_main 156 [some (rf 98 (0)), some (rf 11 (0)), some (rf 13 (14)), some (rf 13 (15)), some (rf 13 (16)), some (rf 13 (17)), some (rf 14 (6)), y7, y8, y9, y10, y11, y12, y13, y14, y15, y16, y17] [] σ22 (w, σ') := h
            replace h := ec_p h rfl rfl rfl rfl
            obtain ⟨f, g, h⟩ := h
            replace hf := Nat.lt_trans g hf
            clear g
            replace h : EC C f 18 ab_main 157 [some (rf 98 (0)), some (rf 11 (0)), some (rf 13 (14)), some (rf 13 (15)), some (rf 13 (16)), some (rf 13 (17)), some (rf 14 (6)), y7, y8, y9, y10, y11, y12, y13, y14, y15, y16, y17] [.inl (Int32.ofInt 0)] σ22 (w, σ') := h
            replace h := ec_p h rfl rfl rfl rfl
            obtain ⟨f, g, h⟩ := h
            replace hf := Nat.lt_trans g hf
            clear g
            replace h : EC C f 18 ab_main 159 [some (rf 98 (0)), some (rf 11 (0)), some (rf 13 (14)), some (rf 13 (15)), some (rf 13 (16)), some (rf 13 (17)), some (rf 14 (6)), some (.inl (Int32.ofInt 0)), y8, y9, y10, y11, y12, y13, y14, y15, y16, y17] [] σ22 (w, σ') := h
            replace h := ec_p h rfl rfl rfl rfl
            obtain ⟨f, g, h⟩ := h
            replace hf := Nat.lt_trans g hf
            clear g
            replace h : EC C f 18 ab_main 160 [some (rf 98 (0)), some (rf 11 (0)), some (rf 13 (14)), some (rf 13 (15)), some (rf 13 (16)), some (rf 13 (17)), some (rf 14 (6)), some (.inl (Int32.ofInt 0)), y8, y9, y10, y11, y12, y13, y14, y15, y16, y17] [.inl (Int32.ofInt 0)] σ22 (w, σ') := h
            replace h := ec_p h rfl rfl rfl rfl
            obtain ⟨f, g, h⟩ := h
            replace hf := Nat.lt_trans g hf
            clear g
            replace h : EC C f 18 ab_main 162 [some (rf 98 (0)), some (rf 11 (0)), some (rf 13 (14)), some (rf 13 (15)), some (rf 13 (16)), some (rf 13 (17)), some (rf 14 (6)), some (.inl (Int32.ofInt 0)), some (.inl (Int32.ofInt 0)), y9, y10, y11, y12, y13, y14, y15, y16, y17] [] σ22 (w, σ') := h
            exact H162 f hf (Int32.ofInt 0) (Int32.ofInt 0) y9 y10 y11 y12 y13 y14 y15 y16 y17 σ22 hsσ22 h
          · skip
            replace hp25 : ¬ ((v21).toInt ≠ (Int64.ofInt (-2000000000)).toInt) := (not_congr (ab_lc .ne _ _)).mp hp25
            refine Or.inr ⟨hp25, ?_⟩
            replace hf := Nat.lt_trans g hf
            clear g
            replace h : EC C f 18 ab_main 110 [some (rf 98 (0)), some (rf 11 (0)), some (rf 13 (14)), some (rf 13 (15)), some (rf 13 (16)), some (rf 13 (17)), some (rf 14 (6)), y7, y8, y9, y10, y11, y12, y13, y14, y15, y16, y17] [] σ22 (w, σ') := h
            replace h := ec_p h rfl rfl rfl rfl
            obtain ⟨f, g, h⟩ := h
            replace hf := Nat.lt_trans g hf
            clear g
            replace h : EC C f 18 ab_main 111 [some (rf 98 (0)), some (rf 11 (0)), some (rf 13 (14)), some (rf 13 (15)), some (rf 13 (16)), some (rf 13 (17)), some (rf 14 (6)), y7, y8, y9, y10, y11, y12, y13, y14, y15, y16, y17] [rf 11 (0)] σ22 (w, σ') := h
            replace h := ec_p h rfl rfl rfl rfl
            obtain ⟨f, g, h⟩ := h
            replace hf := Nat.lt_trans g hf
            clear g
            replace h : EC C f 18 ab_main 113 [some (rf 98 (0)), some (rf 11 (0)), some (rf 13 (14)), some (rf 13 (15)), some (rf 13 (16)), some (rf 13 (17)), some (rf 14 (6)), y7, y8, y9, y10, y11, y12, y13, y14, y15, y16, y17] [.inl (Int32.ofInt 22), rf 11 (0)] σ22 (w, σ') := h
            replace h := ec_p h rfl rfl rfl rfl
            obtain ⟨f, g, h⟩ := h
            replace hf := Nat.lt_trans g hf
            clear g
            replace h : EC C f 18 ab_main 114 [some (rf 98 (0)), some (rf 11 (0)), some (rf 13 (14)), some (rf 13 (15)), some (rf 13 (16)), some (rf 13 (17)), some (rf 14 (6)), y7, y8, y9, y10, y11, y12, y13, y14, y15, y16, y17] [.inl (Int32.ofInt 0), .inl (Int32.ofInt 22), rf 11 (0)] σ22 (w, σ') := h
            replace h := ec_p h rfl rfl rfl rfl
            obtain ⟨f, g, h⟩ := h
            replace hf := Nat.lt_trans g hf
            clear g
            replace h : EC C f 18 ab_main 115 [some (rf 98 (0)), some (rf 11 (0)), some (rf 13 (14)), some (rf 13 (15)), some (rf 13 (16)), some (rf 13 (17)), some (rf 14 (6)), y7, y8, y9, y10, y11, y12, y13, y14, y15, y16, y17] [.inl (Int32.ofInt 0), .inl (Int32.ofInt 0), .inl (Int32.ofInt 22), rf 11 (0)] σ22 (w, σ') := h
            replace h := ec_p h rfl rfl rfl rfl
            obtain ⟨f, g, h⟩ := h
            replace hf := Nat.lt_trans g hf
            clear g
            replace h : EC C f 18 ab_main 118 [some (rf 98 (0)), some (rf 11 (0)), some (rf 13 (14)), some (rf 13 (15)), some (rf 13 (16)), some (rf 13 (17)), some (rf 14 (6)), y7, y8, y9, y10, y11, y12, y13, y14, y15, y16, y17] [.inl (Int32.ofInt 10000), .inl (Int32.ofInt 0), .inl (Int32.ofInt 0), .inl (Int32.ofInt 22), rf 11 (0)] σ22 (w, σ') := h
            replace h := ec_p h rfl rfl rfl rfl
            obtain ⟨f, g, h⟩ := h
            replace hf := Nat.lt_trans g hf
            clear g
            replace h : EC C f 18 ab_main 119 [some (rf 98 (0)), some (rf 11 (0)), some (rf 13 (14)), some (rf 13 (15)), some (rf 13 (16)), some (rf 13 (17)), some (rf 14 (6)), y7, y8, y9, y10, y11, y12, y13, y14, y15, y16, y17] [.inl (Int32.ofInt 0), .inl (Int32.ofInt 10000), .inl (Int32.ofInt 0), .inl (Int32.ofInt 0), .inl (Int32.ofInt 22), rf 11 (0)] σ22 (w, σ') := h
            replace h := ec_p h rfl rfl rfl rfl
            obtain ⟨f, g, h⟩ := h
            replace hf := Nat.lt_trans g hf
            clear g
            replace h : EC C f 18 ab_main 120 [some (rf 98 (0)), some (rf 11 (0)), some (rf 13 (14)), some (rf 13 (15)), some (rf 13 (16)), some (rf 13 (17)), some (rf 14 (6)), y7, y8, y9, y10, y11, y12, y13, y14, y15, y16, y17] [.inl (Int32.ofInt 0), .inl (Int32.ofInt 0), .inl (Int32.ofInt 10000), .inl (Int32.ofInt 0), .inl (Int32.ofInt 0), .inl (Int32.ofInt 22), rf 11 (0)] σ22 (w, σ') := h
            replace h := ec_p h rfl rfl rfl rfl
            obtain ⟨f, g, h⟩ := h
            replace hf := Nat.lt_trans g hf
            clear g
            replace h : EC C f 18 ab_main 121 [some (rf 98 (0)), some (rf 11 (0)), some (rf 13 (14)), some (rf 13 (15)), some (rf 13 (16)), some (rf 13 (17)), some (rf 14 (6)), y7, y8, y9, y10, y11, y12, y13, y14, y15, y16, y17] [.inl (Int32.ofInt 0), .inl (Int32.ofInt 0), .inl (Int32.ofInt 0), .inl (Int32.ofInt 10000), .inl (Int32.ofInt 0), .inl (Int32.ofInt 0), .inl (Int32.ofInt 22), rf 11 (0)] σ22 (w, σ') := h
            replace h := ec_p h rfl rfl rfl rfl
            obtain ⟨f, g, h⟩ := h
            replace hf := Nat.lt_trans g hf
            clear g
            replace h : EC C f 18 ab_main 122 [some (rf 98 (0)), some (rf 11 (0)), some (rf 13 (14)), some (rf 13 (15)), some (rf 13 (16)), some (rf 13 (17)), some (rf 14 (6)), y7, y8, y9, y10, y11, y12, y13, y14, y15, y16, y17] [.inl (Int32.ofInt 0), .inl (Int32.ofInt 0), .inl (Int32.ofInt 0), .inl (Int32.ofInt 0), .inl (Int32.ofInt 10000), .inl (Int32.ofInt 0), .inl (Int32.ofInt 0), .inl (Int32.ofInt 22), rf 11 (0)] σ22 (w, σ') := h
            replace h := cx_L hC (ec_s (as := [.inl (Int32.ofInt 0), .inl (Int32.ofInt 0), .inl (Int32.ofInt 0), .inl (Int32.ofInt 0), .inl (Int32.ofInt 10000), .inl (Int32.ofInt 0), .inl (Int32.ofInt 0), .inl (Int32.ofInt 22), rf 11 (0)]) h rfl (Nat.le_of_ble_eq_true rfl) rfl rfl) rfl z172_at rfl
            rcases h with ⟨v26, σ27, r28, f, g, h⟩ | ⟨b, σ27, r28, e⟩
            rotate_left
            · exact (nt172 (x172 hsσ22 r28)).elim
            replace hf := Nat.lt_trans g hf
            clear g
            have p29 := x172 hsσ22 r28
            have hsσ27 : HL σ27 := hl172 p29
            refine ⟨v26, σ27, gF_r r28 rfl hsσ22, hsσ27, r28, p29, ?_⟩
            replace h : EC C f 18 ab_main 125 [some (rf 98 (0)), some (rf 11 (0)), some (rf 13 (14)), some (rf 13 (15)), some (rf 13 (16)), some (rf 13 (17)), some (rf 14 (6)), y7, y8, y9, y10, y11, y12, y13, y14, y15, y16, y17] [.inr (.inl (v26))] σ27 (w, σ') := h
            replace h := ec_p h rfl rfl rfl rfl
            obtain ⟨f, g, h⟩ := h
            replace hf := Nat.lt_trans g hf
            clear g
            replace h : EC C f 18 ab_main 128 [some (rf 98 (0)), some (rf 11 (0)), some (rf 13 (14)), some (rf 13 (15)), some (rf 13 (16)), some (rf 13 (17)), some (rf 14 (6)), y7, y8, y9, y10, y11, y12, y13, y14, y15, y16, y17] [.inr (.inl (Int64.ofInt (-2000000000))), .inr (.inl (v26))] σ27 (w, σ') := h
            replace h := ec_p h rfl rfl rfl rfl
            obtain ⟨f, g, h⟩ := h
            replace hf := Nat.lt_trans g hf
            clear g
            replace h : EC C f 18 ab_main 129 [some (rf 98 (0)), some (rf 11 (0)), some (rf 13 (14)), some (rf 13 (15)), some (rf 13 (16)), some (rf 13 (17)), some (rf 14 (6)), y7, y8, y9, y10, y11, y12, y13, y14, y15, y16, y17] [.inl (lg_cmp (v26) (Int64.ofInt (-2000000000)))] σ27 (w, σ') := h
            replace h := ec_c h rfl rfl rfl
            rcases h with ⟨hp30, f, g, h⟩ | ⟨hp30, f, g, h⟩
            · skip
              replace hp30 : (v26).toInt ≠ (Int64.ofInt (-2000000000)).toInt := (ab_lc .ne _ _).mp hp30
              refine Or.inl ⟨hp30, ?_⟩
              replace hf := Nat.lt_trans g hf
              clear g
              replace h : EC C f 18 ab_main 156 [some (rf 98 (0)), some (rf 11 (0)), some (rf 13 (14)), some (rf 13 (15)), some (rf 13 (16)), some (rf 13 (17)), some (rf 14 (6)), y7, y8, y9, y10, y11, y12, y13, y14, y15, y16, y17] [] σ27 (w, σ') := h
              replace h := ec_p h rfl rfl rfl rfl
              obtain ⟨f, g, h⟩ := h
              replace hf := Nat.lt_trans g hf
              clear g
              replace h : EC C f 18 ab_main 157 [some (rf 98 (0)), some (rf 11 (0)), some (rf 13 (14)), some (rf 13 (15)), some (rf 13 (16)), some (rf 13 (17)), some (rf 14 (6)), y7, y8, y9, y10, y11, y12, y13, y14, y15, y16, y17] [.inl (Int32.ofInt 0)] σ27 (w, σ') := h
              replace h := ec_p h rfl rfl rfl rfl
              obtain ⟨f, g, h⟩ := h
              replace hf := Nat.lt_trans g hf
              clear g
              replace h : EC C f 18 ab_main 159 [some (rf 98 (0)), some (rf 11 (0)), some (rf 13 (14)), some (rf 13 (15)), some (rf 13 (16)), some (rf 13 (17)), some (rf 14 (6)), some (.inl (Int32.ofInt 0)), y8, y9, y10, y11, y12, y13, y14, y15, y16, y17] [] σ27 (w, σ') := h
              replace h := ec_p h rfl rfl rfl rfl
              obtain ⟨f, g, h⟩ := h
              replace hf := Nat.lt_trans g hf
              clear g
              replace h : EC C f 18 ab_main 160 [some (rf 98 (0)), some (rf 11 (0)), some (rf 13 (14)), some (rf 13 (15)), some (rf 13 (16)), some (rf 13 (17)), some (rf 14 (6)), some (.inl (Int32.ofInt 0)), y8, y9, y10, y11, y12, y13, y14, y15, y16, y17] [.inl (Int32.ofInt 0)] σ27 (w, σ') := h
              replace h := ec_p h rfl rfl rfl rfl
              obtain ⟨f, g, h⟩ := h
              replace hf := Nat.lt_trans g hf
              clear g
              replace h : EC C f 18 ab_main 162 [some (rf 98 (0)), some (rf 11 (0)), some (rf 13 (14)), some (rf 13 (15)), some (rf 13 (16)), some (rf 13 (17)), some (rf 14 (6)), some (.inl (Int32.ofInt 0)), some (.inl (Int32.ofInt 0)), y9, y10, y11, y12, y13, y14, y15, y16, y17] [] σ27 (w, σ') := h
              exact H162 f hf (Int32.ofInt 0) (Int32.ofInt 0) y9 y10 y11 y12 y13 y14 y15 y16 y17 σ27 hsσ27 h
            · skip
              replace hp30 : ¬ ((v26).toInt ≠ (Int64.ofInt (-2000000000)).toInt) := (not_congr (ab_lc .ne _ _)).mp hp30
              refine Or.inr ⟨hp30, ?_⟩
              replace hf := Nat.lt_trans g hf
              clear g
              replace h : EC C f 18 ab_main 132 [some (rf 98 (0)), some (rf 11 (0)), some (rf 13 (14)), some (rf 13 (15)), some (rf 13 (16)), some (rf 13 (17)), some (rf 14 (6)), y7, y8, y9, y10, y11, y12, y13, y14, y15, y16, y17] [] σ27 (w, σ') := h
              replace h := ec_p h rfl rfl rfl rfl
              obtain ⟨f, g, h⟩ := h
              replace hf := Nat.lt_trans g hf
              clear g
              replace h : EC C f 18 ab_main 133 [some (rf 98 (0)), some (rf 11 (0)), some (rf 13 (14)), some (rf 13 (15)), some (rf 13 (16)), some (rf 13 (17)), some (rf 14 (6)), y7, y8, y9, y10, y11, y12, y13, y14, y15, y16, y17] [rf 11 (0)] σ27 (w, σ') := h
              replace h := ec_p h rfl rfl rfl rfl
              obtain ⟨f, g, h⟩ := h
              replace hf := Nat.lt_trans g hf
              clear g
              replace h : EC C f 18 ab_main 135 [some (rf 98 (0)), some (rf 11 (0)), some (rf 13 (14)), some (rf 13 (15)), some (rf 13 (16)), some (rf 13 (17)), some (rf 14 (6)), y7, y8, y9, y10, y11, y12, y13, y14, y15, y16, y17] [.inl (Int32.ofInt 23), rf 11 (0)] σ27 (w, σ') := h
              replace h := ec_p h rfl rfl rfl rfl
              obtain ⟨f, g, h⟩ := h
              replace hf := Nat.lt_trans g hf
              clear g
              replace h : EC C f 18 ab_main 136 [some (rf 98 (0)), some (rf 11 (0)), some (rf 13 (14)), some (rf 13 (15)), some (rf 13 (16)), some (rf 13 (17)), some (rf 14 (6)), y7, y8, y9, y10, y11, y12, y13, y14, y15, y16, y17] [.inl (Int32.ofInt 3), .inl (Int32.ofInt 23), rf 11 (0)] σ27 (w, σ') := h
              replace h := ec_p h rfl rfl rfl rfl
              obtain ⟨f, g, h⟩ := h
              replace hf := Nat.lt_trans g hf
              clear g
              replace h : EC C f 18 ab_main 137 [some (rf 98 (0)), some (rf 11 (0)), some (rf 13 (14)), some (rf 13 (15)), some (rf 13 (16)), some (rf 13 (17)), some (rf 14 (6)), y7, y8, y9, y10, y11, y12, y13, y14, y15, y16, y17] [.inl (Int32.ofInt 0), .inl (Int32.ofInt 3), .inl (Int32.ofInt 23), rf 11 (0)] σ27 (w, σ') := h
              replace h := ec_p h rfl rfl rfl rfl
              obtain ⟨f, g, h⟩ := h
              replace hf := Nat.lt_trans g hf
              clear g
              replace h : EC C f 18 ab_main 138 [some (rf 98 (0)), some (rf 11 (0)), some (rf 13 (14)), some (rf 13 (15)), some (rf 13 (16)), some (rf 13 (17)), some (rf 14 (6)), y7, y8, y9, y10, y11, y12, y13, y14, y15, y16, y17] [.inl (Int32.ofInt 0), .inl (Int32.ofInt 0), .inl (Int32.ofInt 3), .inl (Int32.ofInt 23), rf 11 (0)] σ27 (w, σ') := h
              replace h := ec_p h rfl rfl rfl rfl
              obtain ⟨f, g, h⟩ := h
              replace hf := Nat.lt_trans g hf
              clear g
              replace h : EC C f 18 ab_main 139 [some (rf 98 (0)), some (rf 11 (0)), some (rf 13 (14)), some (rf 13 (15)), some (rf 13 (16)), some (rf 13 (17)), some (rf 14 (6)), y7, y8, y9, y10, y11, y12, y13, y14, y15, y16, y17] [.inl (Int32.ofInt 0), .inl (Int32.ofInt 0), .inl (Int32.ofInt 0), .inl (Int32.ofInt 3), .inl (Int32.ofInt 23), rf 11 (0)] σ27 (w, σ') := h
              replace h := ec_p h rfl rfl rfl rfl
              obtain ⟨f, g, h⟩ := h
              replace hf := Nat.lt_trans g hf
              clear g
              replace h : EC C f 18 ab_main 140 [some (rf 98 (0)), some (rf 11 (0)), some (rf 13 (14)), some (rf 13 (15)), some (rf 13 (16)), some (rf 13 (17)), some (rf 14 (6)), y7, y8, y9, y10, y11, y12, y13, y14, y15, y16, y17] [.inl (Int32.ofInt 0), .inl (Int32.ofInt 0), .inl (Int32.ofInt 0), .inl (Int32.ofInt 0), .inl (Int32.ofInt 3), .inl (Int32.ofInt 23), rf 11 (0)] σ27 (w, σ') := h
              replace h := ec_p h rfl rfl rfl rfl
              obtain ⟨f, g, h⟩ := h
              replace hf := Nat.lt_trans g hf
              clear g
              replace h : EC C f 18 ab_main 141 [some (rf 98 (0)), some (rf 11 (0)), some (rf 13 (14)), some (rf 13 (15)), some (rf 13 (16)), some (rf 13 (17)), some (rf 14 (6)), y7, y8, y9, y10, y11, y12, y13, y14, y15, y16, y17] [.inl (Int32.ofInt 0), .inl (Int32.ofInt 0), .inl (Int32.ofInt 0), .inl (Int32.ofInt 0), .inl (Int32.ofInt 0), .inl (Int32.ofInt 3), .inl (Int32.ofInt 23), rf 11 (0)] σ27 (w, σ') := h
              replace h := ec_p h rfl rfl rfl rfl
              obtain ⟨f, g, h⟩ := h
              replace hf := Nat.lt_trans g hf
              clear g
              replace h : EC C f 18 ab_main 142 [some (rf 98 (0)), some (rf 11 (0)), some (rf 13 (14)), some (rf 13 (15)), some (rf 13 (16)), some (rf 13 (17)), some (rf 14 (6)), y7, y8, y9, y10, y11, y12, y13, y14, y15, y16, y17] [.inl (Int32.ofInt 0), .inl (Int32.ofInt 0), .inl (Int32.ofInt 0), .inl (Int32.ofInt 0), .inl (Int32.ofInt 0), .inl (Int32.ofInt 0), .inl (Int32.ofInt 3), .inl (Int32.ofInt 23), rf 11 (0)] σ27 (w, σ') := h
              replace h := cx_L hC (ec_s (as := [.inl (Int32.ofInt 0), .inl (Int32.ofInt 0), .inl (Int32.ofInt 0), .inl (Int32.ofInt 0), .inl (Int32.ofInt 0), .inl (Int32.ofInt 0), .inl (Int32.ofInt 3), .inl (Int32.ofInt 23), rf 11 (0)]) h rfl (Nat.le_of_ble_eq_true rfl) rfl rfl) rfl z172_at rfl
              rcases h with ⟨v31, σ32, r33, f, g, h⟩ | ⟨b, σ32, r33, e⟩
              rotate_left
              · exact (nt172 (x172 hsσ27 r33)).elim
              replace hf := Nat.lt_trans g hf
              clear g
              have p34 := x172 hsσ27 r33
              have hsσ32 : HL σ32 := hl172 p34
              refine ⟨v31, σ32, gF_r r33 rfl hsσ27, hsσ32, r33, p34, ?_⟩
              replace h : EC C f 18 ab_main 145 [some (rf 98 (0)), some (rf 11 (0)), some (rf 13 (14)), some (rf 13 (15)), some (rf 13 (16)), some (rf 13 (17)), some (rf 14 (6)), y7, y8, y9, y10, y11, y12, y13, y14, y15, y16, y17] [.inr (.inl (v31))] σ32 (w, σ') := h
              replace h := ec_p h rfl rfl rfl rfl
              obtain ⟨f, g, h⟩ := h
              replace hf := Nat.lt_trans g hf
              clear g
              replace h : EC C f 18 ab_main 148 [some (rf 98 (0)), some (rf 11 (0)), some (rf 13 (14)), some (rf 13 (15)), some (rf 13 (16)), some (rf 13 (17)), some (rf 14 (6)), y7, y8, y9, y10, y11, y12, y13, y14, y15, y16, y17] [.inr (.inl (Int64.ofInt (-3000000000))), .inr (.inl (v31))] σ32 (w, σ') := h
              replace h := ec_p h rfl rfl rfl rfl
              obtain ⟨f, g, h⟩ := h
              replace hf := Nat.lt_trans g hf
              clear g
              replace h : EC C f 18 ab_main 149 [some (rf 98 (0)), some (rf 11 (0)), some (rf 13 (14)), some (rf 13 (15)), some (rf 13 (16)), some (rf 13 (17)), some (rf 14 (6)), y7, y8, y9, y10, y11, y12, y13, y14, y15, y16, y17] [.inl (lg_cmp (v31) (Int64.ofInt (-3000000000)))] σ32 (w, σ') := h
              replace h := ec_c h rfl rfl rfl
              rcases h with ⟨hp35, f, g, h⟩ | ⟨hp35, f, g, h⟩
              · skip
                replace hp35 : (v31).toInt ≠ (Int64.ofInt (-3000000000)).toInt := (ab_lc .ne _ _).mp hp35
                refine Or.inl ⟨hp35, ?_⟩
                replace hf := Nat.lt_trans g hf
                clear g
                replace h : EC C f 18 ab_main 156 [some (rf 98 (0)), some (rf 11 (0)), some (rf 13 (14)), some (rf 13 (15)), some (rf 13 (16)), some (rf 13 (17)), some (rf 14 (6)), y7, y8, y9, y10, y11, y12, y13, y14, y15, y16, y17] [] σ32 (w, σ') := h
                replace h := ec_p h rfl rfl rfl rfl
                obtain ⟨f, g, h⟩ := h
                replace hf := Nat.lt_trans g hf
                clear g
                replace h : EC C f 18 ab_main 157 [some (rf 98 (0)), some (rf 11 (0)), some (rf 13 (14)), some (rf 13 (15)), some (rf 13 (16)), some (rf 13 (17)), some (rf 14 (6)), y7, y8, y9, y10, y11, y12, y13, y14, y15, y16, y17] [.inl (Int32.ofInt 0)] σ32 (w, σ') := h
                replace h := ec_p h rfl rfl rfl rfl
                obtain ⟨f, g, h⟩ := h
                replace hf := Nat.lt_trans g hf
                clear g
                replace h : EC C f 18 ab_main 159 [some (rf 98 (0)), some (rf 11 (0)), some (rf 13 (14)), some (rf 13 (15)), some (rf 13 (16)), some (rf 13 (17)), some (rf 14 (6)), some (.inl (Int32.ofInt 0)), y8, y9, y10, y11, y12, y13, y14, y15, y16, y17] [] σ32 (w, σ') := h
                replace h := ec_p h rfl rfl rfl rfl
                obtain ⟨f, g, h⟩ := h
                replace hf := Nat.lt_trans g hf
                clear g
                replace h : EC C f 18 ab_main 160 [some (rf 98 (0)), some (rf 11 (0)), some (rf 13 (14)), some (rf 13 (15)), some (rf 13 (16)), some (rf 13 (17)), some (rf 14 (6)), some (.inl (Int32.ofInt 0)), y8, y9, y10, y11, y12, y13, y14, y15, y16, y17] [.inl (Int32.ofInt 0)] σ32 (w, σ') := h
                replace h := ec_p h rfl rfl rfl rfl
                obtain ⟨f, g, h⟩ := h
                replace hf := Nat.lt_trans g hf
                clear g
                replace h : EC C f 18 ab_main 162 [some (rf 98 (0)), some (rf 11 (0)), some (rf 13 (14)), some (rf 13 (15)), some (rf 13 (16)), some (rf 13 (17)), some (rf 14 (6)), some (.inl (Int32.ofInt 0)), some (.inl (Int32.ofInt 0)), y9, y10, y11, y12, y13, y14, y15, y16, y17] [] σ32 (w, σ') := h
                exact H162 f hf (Int32.ofInt 0) (Int32.ofInt 0) y9 y10 y11 y12 y13 y14 y15 y16 y17 σ32 hsσ32 h
              · skip
                replace hp35 : ¬ ((v31).toInt ≠ (Int64.ofInt (-3000000000)).toInt) := (not_congr (ab_lc .ne _ _)).mp hp35
                refine Or.inr ⟨hp35, ?_⟩
                replace hf := Nat.lt_trans g hf
                clear g
                replace h : EC C f 18 ab_main 152 [some (rf 98 (0)), some (rf 11 (0)), some (rf 13 (14)), some (rf 13 (15)), some (rf 13 (16)), some (rf 13 (17)), some (rf 14 (6)), y7, y8, y9, y10, y11, y12, y13, y14, y15, y16, y17] [] σ32 (w, σ') := h
                replace h := ec_p h rfl rfl rfl rfl
                obtain ⟨f, g, h⟩ := h
                replace hf := Nat.lt_trans g hf
                clear g
                replace h : EC C f 18 ab_main 153 [some (rf 98 (0)), some (rf 11 (0)), some (rf 13 (14)), some (rf 13 (15)), some (rf 13 (16)), some (rf 13 (17)), some (rf 14 (6)), y7, y8, y9, y10, y11, y12, y13, y14, y15, y16, y17] [.inl (Int32.ofInt 1)] σ32 (w, σ') := h
                replace h := ec_p h rfl rfl rfl rfl
                obtain ⟨f, g, h⟩ := h
                replace hf := Nat.lt_trans g hf
                clear g
                replace h : EC C f 18 ab_main 157 [some (rf 98 (0)), some (rf 11 (0)), some (rf 13 (14)), some (rf 13 (15)), some (rf 13 (16)), some (rf 13 (17)), some (rf 14 (6)), y7, y8, y9, y10, y11, y12, y13, y14, y15, y16, y17] [.inl (Int32.ofInt 1)] σ32 (w, σ') := h
                replace h := ec_p h rfl rfl rfl rfl
                obtain ⟨f, g, h⟩ := h
                replace hf := Nat.lt_trans g hf
                clear g
                replace h : EC C f 18 ab_main 159 [some (rf 98 (0)), some (rf 11 (0)), some (rf 13 (14)), some (rf 13 (15)), some (rf 13 (16)), some (rf 13 (17)), some (rf 14 (6)), some (.inl (Int32.ofInt 1)), y8, y9, y10, y11, y12, y13, y14, y15, y16, y17] [] σ32 (w, σ') := h
                replace h := ec_p h rfl rfl rfl rfl
                obtain ⟨f, g, h⟩ := h
                replace hf := Nat.lt_trans g hf
                clear g
                replace h : EC C f 18 ab_main 160 [some (rf 98 (0)), some (rf 11 (0)), some (rf 13 (14)), some (rf 13 (15)), some (rf 13 (16)), some (rf 13 (17)), some (rf 14 (6)), some (.inl (Int32.ofInt 1)), y8, y9, y10, y11, y12, y13, y14, y15, y16, y17] [.inl (Int32.ofInt 0)] σ32 (w, σ') := h
                replace h := ec_p h rfl rfl rfl rfl
                obtain ⟨f, g, h⟩ := h
                replace hf := Nat.lt_trans g hf
                clear g
                replace h : EC C f 18 ab_main 162 [some (rf 98 (0)), some (rf 11 (0)), some (rf 13 (14)), some (rf 13 (15)), some (rf 13 (16)), some (rf 13 (17)), some (rf 14 (6)), some (.inl (Int32.ofInt 1)), some (.inl (Int32.ofInt 0)), y9, y10, y11, y12, y13, y14, y15, y16, y17] [] σ32 (w, σ') := h
                exact H162 f hf (Int32.ofInt 1) (Int32.ofInt 0) y9 y10 y11 y12 y13 y14 y15 y16 y17 σ32 hsσ32 h
