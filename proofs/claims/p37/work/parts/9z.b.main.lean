/-! the law's own loop: what lies between its cuts -/
def T977 (K162 : Int32 → Int32 → mS → Prop) (u7 : Int32) (u8 : Int32) (u11 : Int32) (u12 : Int32) (τ : mS) (w : mX) (σ' : mS) : Prop := (((u7).toInt = (0 : Int) ∧ K162 (Int32.ofInt 0) ((u8) + Int32.ofInt 1) τ) ∨ (¬ ((u7).toInt = (0 : Int)) ∧ (((u12).toInt ≠ (-2 : Int) ∧ ((∃ v3 σ4, gF τ σ4 ∧ ev_run sm_all 156 [rf 11 (0), .inl (Int32.ofInt 0)] τ (.inl (some (.inl v3))) σ4 ∧ P156 τ (Int32.ofInt 0) (.inl (some (.inl v3))) σ4 ∧ (((v3).toInt ≠ (0 : Int) ∧ K162 (Int32.ofInt 0) ((u8) + Int32.ofInt 1) σ4) ∨ (¬ ((v3).toInt ≠ (0 : Int)) ∧ ((∃ v8 σ9, ev_run sm_all 177 [rf 11 (0), rf 14 (6)] σ4 (.inl (some (.inl v8))) σ9 ∧ P177 σ4 (.inl (some (.inl v8))) σ9 ∧ (HL σ9 → (((v8).toInt = (0 : Int) ∧ K162 (Int32.ofInt 0) ((u8) + Int32.ofInt 1) σ9) ∨ (¬ ((v8).toInt = (0 : Int)) ∧ ((∃ v13 σ14, ev_run sm_all 180 [rf 11 (0), rf 13 (15), rf 13 (17)] σ9 (.inl (some (.inl v13))) σ14 ∧ P180 σ9 (.inl (some (.inl v13))) σ14 ∧ (HL σ14 → (((v13).toInt = (0 : Int) ∧ K162 (Int32.ofInt 0) ((u8) + Int32.ofInt 1) σ14) ∨ (¬ ((v13).toInt = (0 : Int)) ∧ ((∃ v19 σ20, ev_run sm_all 178 [rf 11 (0), rf 13 (16), rf 13 (17), .inl ((u8) - (u8) / (Int32.ofInt 5) * (Int32.ofInt 5))] σ14 (.inl (some (.inl v19))) σ20 ∧ P178 σ14 ((u8) - (u8) / (Int32.ofInt 5) * (Int32.ofInt 5)) (.inl (some (.inl v19))) σ20 ∧ (HL σ20 → (((v19).toInt = (0 : Int) ∧ K162 (Int32.ofInt 0) ((u8) + Int32.ofInt 1) σ20) ∨ (¬ ((v19).toInt = (0 : Int)) ∧ (0 ≤ (0 : Int) ∧ (0 : Int) < (σ20.2.1 13 (17) : Int)) ∧ (((m_i σ20 13 (17) (Int32.ofInt 0).toNatClampNeg).toInt = (0 : Int) ∧ ∃ v26, P141 σ20 v26 σ20 ∧ (0 ≤ (3 : Int) ∧ (3 : Int) < (σ20.2.1 13 (17) : Int)) ∧ (((v26).toInt ≠ (m_i σ20 13 (17) (Int32.ofInt 3).toNatClampNeg).toInt ∧ K162 (Int32.ofInt 0) ((u8) + Int32.ofInt 1) σ20) ∨ (¬ ((v26).toInt ≠ (m_i σ20 13 (17) (Int32.ofInt 3).toNatClampNeg).toInt) ∧ K162 (Int32.ofInt 1) ((u8) + Int32.ofInt 1) σ20))) ∨ (¬ ((m_i σ20 13 (17) (Int32.ofInt 0).toNatClampNeg).toInt = (0 : Int)) ∧ (0 ≤ (0 : Int) ∧ (0 : Int) < (σ20.2.1 13 (17) : Int)) ∧ ((∃ v34 σ35, ev_run sm_all 179 [rf 11 (0), rf 13 (14), rf 13 (15), rf 13 (17), .inl ((u11) - (u11) / (m_i σ20 13 (17) (Int32.ofInt 0).toNatClampNeg) * (m_i σ20 13 (17) (Int32.ofInt 0).toNatClampNeg))] σ20 (.inl (some (.inl v34))) σ35 ∧ P179 σ20 ((u11) - (u11) / (m_i σ20 13 (17) (Int32.ofInt 0).toNatClampNeg) * (m_i σ20 13 (17) (Int32.ofInt 0).toNatClampNeg)) (.inl (some (.inl v34))) σ35 ∧ (HL σ35 → (((v34).toInt = (0 : Int) ∧ K162 (Int32.ofInt 0) ((u8) + Int32.ofInt 1) σ35) ∨ (¬ ((v34).toInt = (0 : Int)) ∧ ∃ v39, P141 σ35 v39 σ35 ∧ (0 ≤ (3 : Int) ∧ (3 : Int) < (σ35.2.1 13 (17) : Int)) ∧ (((v39).toInt ≠ (m_i σ35 13 (17) (Int32.ofInt 3).toNatClampNeg).toInt ∧ K162 (Int32.ofInt 0) ((u8) + Int32.ofInt 1) σ35) ∨ (¬ ((v39).toInt ≠ (m_i σ35 13 (17) (Int32.ofInt 3).toNatClampNeg).toInt) ∧ K162 (Int32.ofInt 1) ((u8) + Int32.ofInt 1) σ35)))))) ∨ (∃ b, P179 σ20 ((u11) - (u11) / (m_i σ20 13 (17) (Int32.ofInt 0).toNatClampNeg) * (m_i σ20 13 (17) (Int32.ofInt 0).toNatClampNeg)) (.inr b) σ' ∧ w = .inr b)))))))) ∨ (∃ b, P178 σ14 ((u8) - (u8) / (Int32.ofInt 5) * (Int32.ofInt 5)) (.inr b) σ' ∧ w = .inr b)))))) ∨ (∃ b, P180 σ9 (.inr b) σ' ∧ w = .inr b)))))) ∨ (∃ b, P177 σ4 (.inr b) σ' ∧ w = .inr b))))) ∨ (∃ b, gF τ σ' ∧ P156 τ (Int32.ofInt 0) (.inr b) σ' ∧ w = .inr b))) ∨ (¬ ((u12).toInt ≠ (-2 : Int)) ∧ ((∃ v45 σ46, gF τ σ46 ∧ ev_run sm_all 155 [rf 11 (0), .inl (Int32.ofInt 0)] τ (.inl (some (.inl v45))) σ46 ∧ P155 τ (Int32.ofInt 0) (.inl (some (.inl v45))) σ46 ∧ (((v45).toInt < (0 : Int) ∧ K162 (Int32.ofInt 0) ((u8) + Int32.ofInt 1) σ46) ∨ (¬ ((v45).toInt < (0 : Int)) ∧ ((∃ v50 σ51, ev_run sm_all 177 [rf 11 (0), rf 14 (6)] σ46 (.inl (some (.inl v50))) σ51 ∧ P177 σ46 (.inl (some (.inl v50))) σ51 ∧ (HL σ51 → (((v50).toInt = (0 : Int) ∧ K162 (Int32.ofInt 0) ((u8) + Int32.ofInt 1) σ51) ∨ (¬ ((v50).toInt = (0 : Int)) ∧ ((∃ v55 σ56, ev_run sm_all 180 [rf 11 (0), rf 13 (15), rf 13 (17)] σ51 (.inl (some (.inl v55))) σ56 ∧ P180 σ51 (.inl (some (.inl v55))) σ56 ∧ (HL σ56 → (((v55).toInt = (0 : Int) ∧ K162 (Int32.ofInt 0) ((u8) + Int32.ofInt 1) σ56) ∨ (¬ ((v55).toInt = (0 : Int)) ∧ ((∃ v61 σ62, ev_run sm_all 178 [rf 11 (0), rf 13 (16), rf 13 (17), .inl ((u8) - (u8) / (Int32.ofInt 5) * (Int32.ofInt 5))] σ56 (.inl (some (.inl v61))) σ62 ∧ P178 σ56 ((u8) - (u8) / (Int32.ofInt 5) * (Int32.ofInt 5)) (.inl (some (.inl v61))) σ62 ∧ (HL σ62 → (((v61).toInt = (0 : Int) ∧ K162 (Int32.ofInt 0) ((u8) + Int32.ofInt 1) σ62) ∨ (¬ ((v61).toInt = (0 : Int)) ∧ (0 ≤ (0 : Int) ∧ (0 : Int) < (σ62.2.1 13 (17) : Int)) ∧ (((m_i σ62 13 (17) (Int32.ofInt 0).toNatClampNeg).toInt = (0 : Int) ∧ ∃ v68, P141 σ62 v68 σ62 ∧ (0 ≤ (3 : Int) ∧ (3 : Int) < (σ62.2.1 13 (17) : Int)) ∧ (((v68).toInt ≠ (m_i σ62 13 (17) (Int32.ofInt 3).toNatClampNeg).toInt ∧ K162 (Int32.ofInt 0) ((u8) + Int32.ofInt 1) σ62) ∨ (¬ ((v68).toInt ≠ (m_i σ62 13 (17) (Int32.ofInt 3).toNatClampNeg).toInt) ∧ K162 (Int32.ofInt 1) ((u8) + Int32.ofInt 1) σ62))) ∨ (¬ ((m_i σ62 13 (17) (Int32.ofInt 0).toNatClampNeg).toInt = (0 : Int)) ∧ (0 ≤ (0 : Int) ∧ (0 : Int) < (σ62.2.1 13 (17) : Int)) ∧ ((∃ v76 σ77, ev_run sm_all 179 [rf 11 (0), rf 13 (14), rf 13 (15), rf 13 (17), .inl ((u11) - (u11) / (m_i σ62 13 (17) (Int32.ofInt 0).toNatClampNeg) * (m_i σ62 13 (17) (Int32.ofInt 0).toNatClampNeg))] σ62 (.inl (some (.inl v76))) σ77 ∧ P179 σ62 ((u11) - (u11) / (m_i σ62 13 (17) (Int32.ofInt 0).toNatClampNeg) * (m_i σ62 13 (17) (Int32.ofInt 0).toNatClampNeg)) (.inl (some (.inl v76))) σ77 ∧ (HL σ77 → (((v76).toInt = (0 : Int) ∧ K162 (Int32.ofInt 0) ((u8) + Int32.ofInt 1) σ77) ∨ (¬ ((v76).toInt = (0 : Int)) ∧ ∃ v81, P141 σ77 v81 σ77 ∧ (0 ≤ (3 : Int) ∧ (3 : Int) < (σ77.2.1 13 (17) : Int)) ∧ (((v81).toInt ≠ (m_i σ77 13 (17) (Int32.ofInt 3).toNatClampNeg).toInt ∧ K162 (Int32.ofInt 0) ((u8) + Int32.ofInt 1) σ77) ∨ (¬ ((v81).toInt ≠ (m_i σ77 13 (17) (Int32.ofInt 3).toNatClampNeg).toInt) ∧ K162 (Int32.ofInt 1) ((u8) + Int32.ofInt 1) σ77)))))) ∨ (∃ b, P179 σ62 ((u11) - (u11) / (m_i σ62 13 (17) (Int32.ofInt 0).toNatClampNeg) * (m_i σ62 13 (17) (Int32.ofInt 0).toNatClampNeg)) (.inr b) σ' ∧ w = .inr b)))))))) ∨ (∃ b, P178 σ56 ((u8) - (u8) / (Int32.ofInt 5) * (Int32.ofInt 5)) (.inr b) σ' ∧ w = .inr b)))))) ∨ (∃ b, P180 σ51 (.inr b) σ' ∧ w = .inr b)))))) ∨ (∃ b, P177 σ46 (.inr b) σ' ∧ w = .inr b))))) ∨ (∃ b, gF τ σ' ∧ P155 τ (Int32.ofInt 0) (.inr b) σ' ∧ w = .inr b))))))
set_option maxRecDepth 100000 in
theorem t977 {C : ec_C} (hC : CK C) {N : Nat} {w : mX} {σ' : mS} {K162 : Int32 → Int32 → mS → Prop} (H162 : ∀ f, f < N → ∀ (u7 : Int32) (u8 : Int32) (y9 : Option mV) (y10 : Option mV) (y11 : Option mV) (y12 : Option mV) (y13 : Option mV) (y14 : Option mV) (y15 : Option mV) (y16 : Option mV) (y17 : Option mV) (τ : mS), HL τ → EC C f 18 ab_main 162 [some (rf 98 (0)), some (rf 11 (0)), some (rf 13 (14)), some (rf 13 (15)), some (rf 13 (16)), some (rf 13 (17)), some (rf 14 (6)), some (.inl (u7)), some (.inl (u8)), y9, y10, y11, y12, y13, y14, y15, y16, y17] [] τ (w, σ') → K162 u7 u8 τ) : ∀ f, f < N + 1 → ∀ (u7 : Int32) (u8 : Int32) (u11 : Int32) (u12 : Int32) (y9 : Option mV) (y10 : Option mV) (y13 : Option mV) (y14 : Option mV) (y15 : Option mV) (y16 : Option mV) (y17 : Option mV) (τ : mS), HL τ → EC C f 18 ab_main 977 [some (rf 98 (0)), some (rf 11 (0)), some (rf 13 (14)), some (rf 13 (15)), some (rf 13 (16)), some (rf 13 (17)), some (rf 14 (6)), some (.inl (u7)), some (.inl (u8)), y9, y10, some (.inl (u11)), some (.inl (u12)), y13, y14, y15, y16, y17] [] τ (w, σ') → T977 K162 u7 u8 u11 u12 τ w σ' := by
  intro f hf0 u7 u8 u11 u12 y9 y10 y13 y14 y15 y16 y17 τ hsτ h
  have hf : f < N + 1 := hf0
  clear hf0
  unfold T977
  replace h : EC C f 18 ab_main 977 [some (rf 98 (0)), some (rf 11 (0)), some (rf 13 (14)), some (rf 13 (15)), some (rf 13 (16)), some (rf 13 (17)), some (rf 14 (6)), some (.inl (u7)), some (.inl (u8)), y9, y10, some (.inl (u11)), some (.inl (u12)), y13, y14, y15, y16, y17] [] τ (w, σ') := h
  replace h := ec_p h rfl rfl rfl rfl
  obtain ⟨f, g, h⟩ := h
  replace hf := Nat.lt_of_lt_of_le g (Nat.le_of_lt_succ hf)
  clear g
  replace h : EC C f 18 ab_main 979 [some (rf 98 (0)), some (rf 11 (0)), some (rf 13 (14)), some (rf 13 (15)), some (rf 13 (16)), some (rf 13 (17)), some (rf 14 (6)), some (.inl (u7)), some (.inl (u8)), y9, y10, some (.inl (u11)), some (.inl (u12)), y13, y14, y15, y16, y17] [.inl (u7)] τ (w, σ') := h
  replace h := ec_c h rfl rfl rfl
  rcases h with ⟨hp1, f, g, h⟩ | ⟨hp1, f, g, h⟩
  · skip
    replace hp1 : (u7).toInt = (0 : Int) := ic_eq.mp hp1
    refine Or.inl ⟨hp1, ?_⟩
    replace hf := Nat.lt_trans g hf
    clear g
    replace h : EC C f 18 ab_main 1082 [some (rf 98 (0)), some (rf 11 (0)), some (rf 13 (14)), some (rf 13 (15)), some (rf 13 (16)), some (rf 13 (17)), some (rf 14 (6)), some (.inl (u7)), some (.inl (u8)), y9, y10, some (.inl (u11)), some (.inl (u12)), y13, y14, y15, y16, y17] [] τ (w, σ') := h
    replace h := ec_p h rfl rfl rfl rfl
    obtain ⟨f, g, h⟩ := h
    replace hf := Nat.lt_trans g hf
    clear g
    replace h : EC C f 18 ab_main 1083 [some (rf 98 (0)), some (rf 11 (0)), some (rf 13 (14)), some (rf 13 (15)), some (rf 13 (16)), some (rf 13 (17)), some (rf 14 (6)), some (.inl (u7)), some (.inl (u8)), y9, y10, some (.inl (u11)), some (.inl (u12)), y13, y14, y15, y16, y17] [.inl (Int32.ofInt 0)] τ (w, σ') := h
    replace h := ec_p h rfl rfl rfl rfl
    obtain ⟨f, g, h⟩ := h
    replace hf := Nat.lt_trans g hf
    clear g
    replace h : EC C f 18 ab_main 1085 [some (rf 98 (0)), some (rf 11 (0)), some (rf 13 (14)), some (rf 13 (15)), some (rf 13 (16)), some (rf 13 (17)), some (rf 14 (6)), some (.inl (Int32.ofInt 0)), some (.inl (u8)), y9, y10, some (.inl (u11)), some (.inl (u12)), y13, y14, y15, y16, y17] [] τ (w, σ') := h
    replace h := ec_p h rfl rfl rfl rfl
    obtain ⟨f, g, h⟩ := h
    replace hf := Nat.lt_trans g hf
    clear g
    replace h : EC C f 18 ab_main 1088 [some (rf 98 (0)), some (rf 11 (0)), some (rf 13 (14)), some (rf 13 (15)), some (rf 13 (16)), some (rf 13 (17)), some (rf 14 (6)), some (.inl (Int32.ofInt 0)), some (.inl ((u8) + Int32.ofInt 1)), y9, y10, some (.inl (u11)), some (.inl (u12)), y13, y14, y15, y16, y17] [] τ (w, σ') := h
    replace h := ec_p h rfl rfl rfl rfl
    obtain ⟨f, g, h⟩ := h
    replace hf := Nat.lt_trans g hf
    clear g
    replace h : EC C f 18 ab_main 162 [some (rf 98 (0)), some (rf 11 (0)), some (rf 13 (14)), some (rf 13 (15)), some (rf 13 (16)), some (rf 13 (17)), some (rf 14 (6)), some (.inl (Int32.ofInt 0)), some (.inl ((u8) + Int32.ofInt 1)), y9, y10, some (.inl (u11)), some (.inl (u12)), y13, y14, y15, y16, y17] [] τ (w, σ') := h
    exact H162 f hf (Int32.ofInt 0) ((u8) + Int32.ofInt 1) y9 y10 (some (.inl (u11))) (some (.inl (u12))) y13 y14 y15 y16 y17 τ hsτ h
  · skip
    replace hp1 : ¬ ((u7).toInt = (0 : Int)) := (not_congr ic_eq).mp hp1
    refine Or.inr ⟨hp1, ?_⟩
    replace hf := Nat.lt_trans g hf
    clear g
    replace h : EC C f 18 ab_main 982 [some (rf 98 (0)), some (rf 11 (0)), some (rf 13 (14)), some (rf 13 (15)), some (rf 13 (16)), some (rf 13 (17)), some (rf 14 (6)), some (.inl (u7)), some (.inl (u8)), y9, y10, some (.inl (u11)), some (.inl (u12)), y13, y14, y15, y16, y17] [] τ (w, σ') := h
    replace h := ec_p h rfl rfl rfl rfl
    obtain ⟨f, g, h⟩ := h
    replace hf := Nat.lt_trans g hf
    clear g
    replace h : EC C f 18 ab_main 984 [some (rf 98 (0)), some (rf 11 (0)), some (rf 13 (14)), some (rf 13 (15)), some (rf 13 (16)), some (rf 13 (17)), some (rf 14 (6)), some (.inl (u7)), some (.inl (u8)), y9, y10, some (.inl (u11)), some (.inl (u12)), y13, y14, y15, y16, y17] [.inl (u12)] τ (w, σ') := h
    replace h := ec_p h rfl rfl rfl rfl
    obtain ⟨f, g, h⟩ := h
    replace hf := Nat.lt_trans g hf
    clear g
    replace h : EC C f 18 ab_main 986 [some (rf 98 (0)), some (rf 11 (0)), some (rf 13 (14)), some (rf 13 (15)), some (rf 13 (16)), some (rf 13 (17)), some (rf 14 (6)), some (.inl (u7)), some (.inl (u8)), y9, y10, some (.inl (u11)), some (.inl (u12)), y13, y14, y15, y16, y17] [.inl (Int32.ofInt (-2)), .inl (u12)] τ (w, σ') := h
    replace h := ec_c h rfl rfl rfl
    rcases h with ⟨hp2, f, g, h⟩ | ⟨hp2, f, g, h⟩
    · skip
      replace hp2 : (u12).toInt ≠ (-2 : Int) := ic_ne.mp hp2
      refine Or.inl ⟨hp2, ?_⟩
      replace hf := Nat.lt_trans g hf
      clear g
      replace h : EC C f 18 ab_main 1000 [some (rf 98 (0)), some (rf 11 (0)), some (rf 13 (14)), some (rf 13 (15)), some (rf 13 (16)), some (rf 13 (17)), some (rf 14 (6)), some (.inl (u7)), some (.inl (u8)), y9, y10, some (.inl (u11)), some (.inl (u12)), y13, y14, y15, y16, y17] [] τ (w, σ') := h
      replace h := ec_p h rfl rfl rfl rfl
      obtain ⟨f, g, h⟩ := h
      replace hf := Nat.lt_trans g hf
      clear g
      replace h : EC C f 18 ab_main 1001 [some (rf 98 (0)), some (rf 11 (0)), some (rf 13 (14)), some (rf 13 (15)), some (rf 13 (16)), some (rf 13 (17)), some (rf 14 (6)), some (.inl (u7)), some (.inl (u8)), y9, y10, some (.inl (u11)), some (.inl (u12)), y13, y14, y15, y16, y17] [rf 11 (0)] τ (w, σ') := h
      replace h := ec_p h rfl rfl rfl rfl
      obtain ⟨f, g, h⟩ := h
      replace hf := Nat.lt_trans g hf
      clear g
      replace h : EC C f 18 ab_main 1002 [some (rf 98 (0)), some (rf 11 (0)), some (rf 13 (14)), some (rf 13 (15)), some (rf 13 (16)), some (rf 13 (17)), some (rf 14 (6)), some (.inl (u7)), some (.inl (u8)), y9, y10, some (.inl (u11)), some (.inl (u12)), y13, y14, y15, y16, y17] [.inl (Int32.ofInt 0), rf 11 (0)] τ (w, σ') := h
      replace h := cx_I hC (ec_v (as := [.inl (Int32.ofInt 0)]) h rfl rfl rfl) rfl z156_at (Or.inl rfl)
      rcases h with ⟨v3, σ4, r5, f, g, h⟩ | ⟨b, σ4, r5, e⟩
      · skip
        replace hf := Nat.lt_trans g hf
        clear g
        have p6 := x156 hsτ.1 r5
        have hsσ4 : HL σ4 := HL_r2 rfl r5 rfl hsτ
        refine Or.inl ⟨v3, σ4, gF_r r5 rfl hsτ, r5, p6, ?_⟩
        replace h : EC C f 18 ab_main 1005 [some (rf 98 (0)), some (rf 11 (0)), some (rf 13 (14)), some (rf 13 (15)), some (rf 13 (16)), some (rf 13 (17)), some (rf 14 (6)), some (.inl (u7)), some (.inl (u8)), y9, y10, some (.inl (u11)), some (.inl (u12)), y13, y14, y15, y16, y17] [.inl (v3)] σ4 (w, σ') := h
        replace h := ec_c h rfl rfl rfl
        rcases h with ⟨hp7, f, g, h⟩ | ⟨hp7, f, g, h⟩
        · skip
          replace hp7 : (v3).toInt ≠ (0 : Int) := ic_ne.mp hp7
          refine Or.inl ⟨hp7, ?_⟩
          replace hf := Nat.lt_trans g hf
          clear g
          replace h : EC C f 18 ab_main 1082 [some (rf 98 (0)), some (rf 11 (0)), some (rf 13 (14)), some (rf 13 (15)), some (rf 13 (16)), some (rf 13 (17)), some (rf 14 (6)), some (.inl (u7)), some (.inl (u8)), y9, y10, some (.inl (u11)), some (.inl (u12)), y13, y14, y15, y16, y17] [] σ4 (w, σ') := h
          replace h := ec_p h rfl rfl rfl rfl
          obtain ⟨f, g, h⟩ := h
          replace hf := Nat.lt_trans g hf
          clear g
          replace h : EC C f 18 ab_main 1083 [some (rf 98 (0)), some (rf 11 (0)), some (rf 13 (14)), some (rf 13 (15)), some (rf 13 (16)), some (rf 13 (17)), some (rf 14 (6)), some (.inl (u7)), some (.inl (u8)), y9, y10, some (.inl (u11)), some (.inl (u12)), y13, y14, y15, y16, y17] [.inl (Int32.ofInt 0)] σ4 (w, σ') := h
          replace h := ec_p h rfl rfl rfl rfl
          obtain ⟨f, g, h⟩ := h
          replace hf := Nat.lt_trans g hf
          clear g
          replace h : EC C f 18 ab_main 1085 [some (rf 98 (0)), some (rf 11 (0)), some (rf 13 (14)), some (rf 13 (15)), some (rf 13 (16)), some (rf 13 (17)), some (rf 14 (6)), some (.inl (Int32.ofInt 0)), some (.inl (u8)), y9, y10, some (.inl (u11)), some (.inl (u12)), y13, y14, y15, y16, y17] [] σ4 (w, σ') := h
          replace h := ec_p h rfl rfl rfl rfl
          obtain ⟨f, g, h⟩ := h
          replace hf := Nat.lt_trans g hf
          clear g
          replace h : EC C f 18 ab_main 1088 [some (rf 98 (0)), some (rf 11 (0)), some (rf 13 (14)), some (rf 13 (15)), some (rf 13 (16)), some (rf 13 (17)), some (rf 14 (6)), some (.inl (Int32.ofInt 0)), some (.inl ((u8) + Int32.ofInt 1)), y9, y10, some (.inl (u11)), some (.inl (u12)), y13, y14, y15, y16, y17] [] σ4 (w, σ') := h
          replace h := ec_p h rfl rfl rfl rfl
          obtain ⟨f, g, h⟩ := h
          replace hf := Nat.lt_trans g hf
          clear g
          replace h : EC C f 18 ab_main 162 [some (rf 98 (0)), some (rf 11 (0)), some (rf 13 (14)), some (rf 13 (15)), some (rf 13 (16)), some (rf 13 (17)), some (rf 14 (6)), some (.inl (Int32.ofInt 0)), some (.inl ((u8) + Int32.ofInt 1)), y9, y10, some (.inl (u11)), some (.inl (u12)), y13, y14, y15, y16, y17] [] σ4 (w, σ') := h
          exact H162 f hf (Int32.ofInt 0) ((u8) + Int32.ofInt 1) y9 y10 (some (.inl (u11))) (some (.inl (u12))) y13 y14 y15 y16 y17 σ4 hsσ4 h
        · skip
          replace hp7 : ¬ ((v3).toInt ≠ (0 : Int)) := (not_congr ic_ne).mp hp7
          refine Or.inr ⟨hp7, ?_⟩
          replace hf := Nat.lt_trans g hf
          clear g
          replace h : EC C f 18 ab_main 1008 [some (rf 98 (0)), some (rf 11 (0)), some (rf 13 (14)), some (rf 13 (15)), some (rf 13 (16)), some (rf 13 (17)), some (rf 14 (6)), some (.inl (u7)), some (.inl (u8)), y9, y10, some (.inl (u11)), some (.inl (u12)), y13, y14, y15, y16, y17] [] σ4 (w, σ') := h
          replace h := ec_p h rfl rfl rfl rfl
          obtain ⟨f, g, h⟩ := h
          replace hf := Nat.lt_trans g hf
          clear g
          replace h : EC C f 18 ab_main 1009 [some (rf 98 (0)), some (rf 11 (0)), some (rf 13 (14)), some (rf 13 (15)), some (rf 13 (16)), some (rf 13 (17)), some (rf 14 (6)), some (.inl (u7)), some (.inl (u8)), y9, y10, some (.inl (u11)), some (.inl (u12)), y13, y14, y15, y16, y17] [rf 11 (0)] σ4 (w, σ') := h
          replace h := ec_p h rfl rfl rfl rfl
          obtain ⟨f, g, h⟩ := h
          replace hf := Nat.lt_trans g hf
          clear g
          replace h : EC C f 18 ab_main 1011 [some (rf 98 (0)), some (rf 11 (0)), some (rf 13 (14)), some (rf 13 (15)), some (rf 13 (16)), some (rf 13 (17)), some (rf 14 (6)), some (.inl (u7)), some (.inl (u8)), y9, y10, some (.inl (u11)), some (.inl (u12)), y13, y14, y15, y16, y17] [rf 14 (6), rf 11 (0)] σ4 (w, σ') := h
          replace h := cx_I hC (ec_s (as := [rf 14 (6), rf 11 (0)]) h rfl (Nat.le_of_ble_eq_true rfl) rfl rfl) rfl z177_at (Or.inr rfl)
          rcases h with ⟨v8, σ9, r10, f, g, h⟩ | ⟨b, σ9, r10, e⟩
          · skip
            replace hf := Nat.lt_trans g hf
            clear g
            have p11 := x177 hsσ4 r10
            refine Or.inl ⟨v8, σ9, r10, p11, fun hsσ9 => ?_⟩
            replace h : EC C f 18 ab_main 1014 [some (rf 98 (0)), some (rf 11 (0)), some (rf 13 (14)), some (rf 13 (15)), some (rf 13 (16)), some (rf 13 (17)), some (rf 14 (6)), some (.inl (u7)), some (.inl (u8)), y9, y10, some (.inl (u11)), some (.inl (u12)), y13, y14, y15, y16, y17] [.inl (v8)] σ9 (w, σ') := h
            replace h := ec_c h rfl rfl rfl
            rcases h with ⟨hp12, f, g, h⟩ | ⟨hp12, f, g, h⟩
            · skip
              replace hp12 : (v8).toInt = (0 : Int) := ic_eq.mp hp12
              refine Or.inl ⟨hp12, ?_⟩
              replace hf := Nat.lt_trans g hf
              clear g
              replace h : EC C f 18 ab_main 1082 [some (rf 98 (0)), some (rf 11 (0)), some (rf 13 (14)), some (rf 13 (15)), some (rf 13 (16)), some (rf 13 (17)), some (rf 14 (6)), some (.inl (u7)), some (.inl (u8)), y9, y10, some (.inl (u11)), some (.inl (u12)), y13, y14, y15, y16, y17] [] σ9 (w, σ') := h
              replace h := ec_p h rfl rfl rfl rfl
              obtain ⟨f, g, h⟩ := h
              replace hf := Nat.lt_trans g hf
              clear g
              replace h : EC C f 18 ab_main 1083 [some (rf 98 (0)), some (rf 11 (0)), some (rf 13 (14)), some (rf 13 (15)), some (rf 13 (16)), some (rf 13 (17)), some (rf 14 (6)), some (.inl (u7)), some (.inl (u8)), y9, y10, some (.inl (u11)), some (.inl (u12)), y13, y14, y15, y16, y17] [.inl (Int32.ofInt 0)] σ9 (w, σ') := h
              replace h := ec_p h rfl rfl rfl rfl
              obtain ⟨f, g, h⟩ := h
              replace hf := Nat.lt_trans g hf
              clear g
              replace h : EC C f 18 ab_main 1085 [some (rf 98 (0)), some (rf 11 (0)), some (rf 13 (14)), some (rf 13 (15)), some (rf 13 (16)), some (rf 13 (17)), some (rf 14 (6)), some (.inl (Int32.ofInt 0)), some (.inl (u8)), y9, y10, some (.inl (u11)), some (.inl (u12)), y13, y14, y15, y16, y17] [] σ9 (w, σ') := h
              replace h := ec_p h rfl rfl rfl rfl
              obtain ⟨f, g, h⟩ := h
              replace hf := Nat.lt_trans g hf
              clear g
              replace h : EC C f 18 ab_main 1088 [some (rf 98 (0)), some (rf 11 (0)), some (rf 13 (14)), some (rf 13 (15)), some (rf 13 (16)), some (rf 13 (17)), some (rf 14 (6)), some (.inl (Int32.ofInt 0)), some (.inl ((u8) + Int32.ofInt 1)), y9, y10, some (.inl (u11)), some (.inl (u12)), y13, y14, y15, y16, y17] [] σ9 (w, σ') := h
              replace h := ec_p h rfl rfl rfl rfl
              obtain ⟨f, g, h⟩ := h
              replace hf := Nat.lt_trans g hf
              clear g
              replace h : EC C f 18 ab_main 162 [some (rf 98 (0)), some (rf 11 (0)), some (rf 13 (14)), some (rf 13 (15)), some (rf 13 (16)), some (rf 13 (17)), some (rf 14 (6)), some (.inl (Int32.ofInt 0)), some (.inl ((u8) + Int32.ofInt 1)), y9, y10, some (.inl (u11)), some (.inl (u12)), y13, y14, y15, y16, y17] [] σ9 (w, σ') := h
              exact H162 f hf (Int32.ofInt 0) ((u8) + Int32.ofInt 1) y9 y10 (some (.inl (u11))) (some (.inl (u12))) y13 y14 y15 y16 y17 σ9 hsσ9 h
            · skip
              replace hp12 : ¬ ((v8).toInt = (0 : Int)) := (not_congr ic_eq).mp hp12
              refine Or.inr ⟨hp12, ?_⟩
              replace hf := Nat.lt_trans g hf
              clear g
              replace h : EC C f 18 ab_main 1017 [some (rf 98 (0)), some (rf 11 (0)), some (rf 13 (14)), some (rf 13 (15)), some (rf 13 (16)), some (rf 13 (17)), some (rf 14 (6)), some (.inl (u7)), some (.inl (u8)), y9, y10, some (.inl (u11)), some (.inl (u12)), y13, y14, y15, y16, y17] [] σ9 (w, σ') := h
              replace h := ec_p h rfl rfl rfl rfl
              obtain ⟨f, g, h⟩ := h
              replace hf := Nat.lt_trans g hf
              clear g
              replace h : EC C f 18 ab_main 1018 [some (rf 98 (0)), some (rf 11 (0)), some (rf 13 (14)), some (rf 13 (15)), some (rf 13 (16)), some (rf 13 (17)), some (rf 14 (6)), some (.inl (u7)), some (.inl (u8)), y9, y10, some (.inl (u11)), some (.inl (u12)), y13, y14, y15, y16, y17] [rf 11 (0)] σ9 (w, σ') := h
              replace h := ec_p h rfl rfl rfl rfl
              obtain ⟨f, g, h⟩ := h
              replace hf := Nat.lt_trans g hf
              clear g
              replace h : EC C f 18 ab_main 1019 [some (rf 98 (0)), some (rf 11 (0)), some (rf 13 (14)), some (rf 13 (15)), some (rf 13 (16)), some (rf 13 (17)), some (rf 14 (6)), some (.inl (u7)), some (.inl (u8)), y9, y10, some (.inl (u11)), some (.inl (u12)), y13, y14, y15, y16, y17] [rf 13 (15), rf 11 (0)] σ9 (w, σ') := h
              replace h := ec_p h rfl rfl rfl rfl
              obtain ⟨f, g, h⟩ := h
              replace hf := Nat.lt_trans g hf
              clear g
              replace h : EC C f 18 ab_main 1021 [some (rf 98 (0)), some (rf 11 (0)), some (rf 13 (14)), some (rf 13 (15)), some (rf 13 (16)), some (rf 13 (17)), some (rf 14 (6)), some (.inl (u7)), some (.inl (u8)), y9, y10, some (.inl (u11)), some (.inl (u12)), y13, y14, y15, y16, y17] [rf 13 (17), rf 13 (15), rf 11 (0)] σ9 (w, σ') := h
              replace h := cx_I hC (ec_s (as := [rf 13 (17), rf 13 (15), rf 11 (0)]) h rfl (Nat.le_of_ble_eq_true rfl) rfl rfl) rfl z180_at (Or.inr rfl)
              rcases h with ⟨v13, σ14, r15, f, g, h⟩ | ⟨b, σ14, r15, e⟩
              · skip
                replace hf := Nat.lt_trans g hf
                clear g
                have p16 := x180 hsσ9 r15
                refine Or.inl ⟨v13, σ14, r15, p16, fun hsσ14 => ?_⟩
                replace h : EC C f 18 ab_main 1024 [some (rf 98 (0)), some (rf 11 (0)), some (rf 13 (14)), some (rf 13 (15)), some (rf 13 (16)), some (rf 13 (17)), some (rf 14 (6)), some (.inl (u7)), some (.inl (u8)), y9, y10, some (.inl (u11)), some (.inl (u12)), y13, y14, y15, y16, y17] [.inl (v13)] σ14 (w, σ') := h
                replace h := ec_c h rfl rfl rfl
                rcases h with ⟨hp17, f, g, h⟩ | ⟨hp17, f, g, h⟩
                · skip
                  replace hp17 : (v13).toInt = (0 : Int) := ic_eq.mp hp17
                  refine Or.inl ⟨hp17, ?_⟩
                  replace hf := Nat.lt_trans g hf
                  clear g
                  replace h : EC C f 18 ab_main 1082 [some (rf 98 (0)), some (rf 11 (0)), some (rf 13 (14)), some (rf 13 (15)), some (rf 13 (16)), some (rf 13 (17)), some (rf 14 (6)), some (.inl (u7)), some (.inl (u8)), y9, y10, some (.inl (u11)), some (.inl (u12)), y13, y14, y15, y16, y17] [] σ14 (w, σ') := h
                  replace h := ec_p h rfl rfl rfl rfl
                  obtain ⟨f, g, h⟩ := h
                  replace hf := Nat.lt_trans g hf
                  clear g
                  replace h : EC C f 18 ab_main 1083 [some (rf 98 (0)), some (rf 11 (0)), some (rf 13 (14)), some (rf 13 (15)), some (rf 13 (16)), some (rf 13 (17)), some (rf 14 (6)), some (.inl (u7)), some (.inl (u8)), y9, y10, some (.inl (u11)), some (.inl (u12)), y13, y14, y15, y16, y17] [.inl (Int32.ofInt 0)] σ14 (w, σ') := h
                  replace h := ec_p h rfl rfl rfl rfl
                  obtain ⟨f, g, h⟩ := h
                  replace hf := Nat.lt_trans g hf
                  clear g
                  replace h : EC C f 18 ab_main 1085 [some (rf 98 (0)), some (rf 11 (0)), some (rf 13 (14)), some (rf 13 (15)), some (rf 13 (16)), some (rf 13 (17)), some (rf 14 (6)), some (.inl (Int32.ofInt 0)), some (.inl (u8)), y9, y10, some (.inl (u11)), some (.inl (u12)), y13, y14, y15, y16, y17] [] σ14 (w, σ') := h
                  replace h := ec_p h rfl rfl rfl rfl
                  obtain ⟨f, g, h⟩ := h
                  replace hf := Nat.lt_trans g hf
                  clear g
                  replace h : EC C f 18 ab_main 1088 [some (rf 98 (0)), some (rf 11 (0)), some (rf 13 (14)), some (rf 13 (15)), some (rf 13 (16)), some (rf 13 (17)), some (rf 14 (6)), some (.inl (Int32.ofInt 0)), some (.inl ((u8) + Int32.ofInt 1)), y9, y10, some (.inl (u11)), some (.inl (u12)), y13, y14, y15, y16, y17] [] σ14 (w, σ') := h
                  replace h := ec_p h rfl rfl rfl rfl
                  obtain ⟨f, g, h⟩ := h
                  replace hf := Nat.lt_trans g hf
                  clear g
                  replace h : EC C f 18 ab_main 162 [some (rf 98 (0)), some (rf 11 (0)), some (rf 13 (14)), some (rf 13 (15)), some (rf 13 (16)), some (rf 13 (17)), some (rf 14 (6)), some (.inl (Int32.ofInt 0)), some (.inl ((u8) + Int32.ofInt 1)), y9, y10, some (.inl (u11)), some (.inl (u12)), y13, y14, y15, y16, y17] [] σ14 (w, σ') := h
                  exact H162 f hf (Int32.ofInt 0) ((u8) + Int32.ofInt 1) y9 y10 (some (.inl (u11))) (some (.inl (u12))) y13 y14 y15 y16 y17 σ14 hsσ14 h
                · skip
                  replace hp17 : ¬ ((v13).toInt = (0 : Int)) := (not_congr ic_eq).mp hp17
                  refine Or.inr ⟨hp17, ?_⟩
                  replace hf := Nat.lt_trans g hf
                  clear g
                  replace h : EC C f 18 ab_main 1027 [some (rf 98 (0)), some (rf 11 (0)), some (rf 13 (14)), some (rf 13 (15)), some (rf 13 (16)), some (rf 13 (17)), some (rf 14 (6)), some (.inl (u7)), some (.inl (u8)), y9, y10, some (.inl (u11)), some (.inl (u12)), y13, y14, y15, y16, y17] [] σ14 (w, σ') := h
                  replace h := ec_p h rfl rfl rfl rfl
                  obtain ⟨f, g, h⟩ := h
                  replace hf := Nat.lt_trans g hf
                  clear g
                  replace h : EC C f 18 ab_main 1028 [some (rf 98 (0)), some (rf 11 (0)), some (rf 13 (14)), some (rf 13 (15)), some (rf 13 (16)), some (rf 13 (17)), some (rf 14 (6)), some (.inl (u7)), some (.inl (u8)), y9, y10, some (.inl (u11)), some (.inl (u12)), y13, y14, y15, y16, y17] [rf 11 (0)] σ14 (w, σ') := h
                  replace h := ec_p h rfl rfl rfl rfl
                  obtain ⟨f, g, h⟩ := h
                  replace hf := Nat.lt_trans g hf
                  clear g
                  replace h : EC C f 18 ab_main 1030 [some (rf 98 (0)), some (rf 11 (0)), some (rf 13 (14)), some (rf 13 (15)), some (rf 13 (16)), some (rf 13 (17)), some (rf 14 (6)), some (.inl (u7)), some (.inl (u8)), y9, y10, some (.inl (u11)), some (.inl (u12)), y13, y14, y15, y16, y17] [rf 13 (16), rf 11 (0)] σ14 (w, σ') := h
                  replace h := ec_p h rfl rfl rfl rfl
                  obtain ⟨f, g, h⟩ := h
                  replace hf := Nat.lt_trans g hf
                  clear g
                  replace h : EC C f 18 ab_main 1032 [some (rf 98 (0)), some (rf 11 (0)), some (rf 13 (14)), some (rf 13 (15)), some (rf 13 (16)), some (rf 13 (17)), some (rf 14 (6)), some (.inl (u7)), some (.inl (u8)), y9, y10, some (.inl (u11)), some (.inl (u12)), y13, y14, y15, y16, y17] [rf 13 (17), rf 13 (16), rf 11 (0)] σ14 (w, σ') := h
                  replace h := ec_p h rfl rfl rfl rfl
                  obtain ⟨f, g, h⟩ := h
                  replace hf := Nat.lt_trans g hf
                  clear g
                  replace h : EC C f 18 ab_main 1034 [some (rf 98 (0)), some (rf 11 (0)), some (rf 13 (14)), some (rf 13 (15)), some (rf 13 (16)), some (rf 13 (17)), some (rf 14 (6)), some (.inl (u7)), some (.inl (u8)), y9, y10, some (.inl (u11)), some (.inl (u12)), y13, y14, y15, y16, y17] [.inl (u8), rf 13 (17), rf 13 (16), rf 11 (0)] σ14 (w, σ') := h
                  replace h := ec_p h rfl rfl rfl rfl
                  obtain ⟨f, g, h⟩ := h
                  replace hf := Nat.lt_trans g hf
                  clear g
                  replace h : EC C f 18 ab_main 1035 [some (rf 98 (0)), some (rf 11 (0)), some (rf 13 (14)), some (rf 13 (15)), some (rf 13 (16)), some (rf 13 (17)), some (rf 14 (6)), some (.inl (u7)), some (.inl (u8)), y9, y10, some (.inl (u11)), some (.inl (u12)), y13, y14, y15, y16, y17] [.inl (Int32.ofInt 5), .inl (u8), rf 13 (17), rf 13 (16), rf 11 (0)] σ14 (w, σ') := h
                  replace h := ec_irem h rfl
                  obtain ⟨hd18, f, g, h⟩ := h
                  replace hf := Nat.lt_trans g hf
                  clear g
                  replace h : EC C f 18 ab_main 1036 [some (rf 98 (0)), some (rf 11 (0)), some (rf 13 (14)), some (rf 13 (15)), some (rf 13 (16)), some (rf 13 (17)), some (rf 14 (6)), some (.inl (u7)), some (.inl (u8)), y9, y10, some (.inl (u11)), some (.inl (u12)), y13, y14, y15, y16, y17] [.inl ((u8) - (u8) / (Int32.ofInt 5) * (Int32.ofInt 5)), rf 13 (17), rf 13 (16), rf 11 (0)] σ14 (w, σ') := h
                  replace h := cx_I hC (ec_s (as := [.inl ((u8) - (u8) / (Int32.ofInt 5) * (Int32.ofInt 5)), rf 13 (17), rf 13 (16), rf 11 (0)]) h rfl (Nat.le_of_ble_eq_true rfl) rfl rfl) rfl z178_at (Or.inr rfl)
                  rcases h with ⟨v19, σ20, r21, f, g, h⟩ | ⟨b, σ20, r21, e⟩
                  · skip
                    replace hf := Nat.lt_trans g hf
                    clear g
                    have p22 := x178 hsσ14 r21
                    refine Or.inl ⟨v19, σ20, r21, p22, fun hsσ20 => ?_⟩
                    replace h : EC C f 18 ab_main 1039 [some (rf 98 (0)), some (rf 11 (0)), some (rf 13 (14)), some (rf 13 (15)), some (rf 13 (16)), some (rf 13 (17)), some (rf 14 (6)), some (.inl (u7)), some (.inl (u8)), y9, y10, some (.inl (u11)), some (.inl (u12)), y13, y14, y15, y16, y17] [.inl (v19)] σ20 (w, σ') := h
                    replace h := ec_c h rfl rfl rfl
                    rcases h with ⟨hp23, f, g, h⟩ | ⟨hp23, f, g, h⟩
                    · skip
                      replace hp23 : (v19).toInt = (0 : Int) := ic_eq.mp hp23
                      refine Or.inl ⟨hp23, ?_⟩
                      replace hf := Nat.lt_trans g hf
                      clear g
                      replace h : EC C f 18 ab_main 1082 [some (rf 98 (0)), some (rf 11 (0)), some (rf 13 (14)), some (rf 13 (15)), some (rf 13 (16)), some (rf 13 (17)), some (rf 14 (6)), some (.inl (u7)), some (.inl (u8)), y9, y10, some (.inl (u11)), some (.inl (u12)), y13, y14, y15, y16, y17] [] σ20 (w, σ') := h
                      replace h := ec_p h rfl rfl rfl rfl
                      obtain ⟨f, g, h⟩ := h
                      replace hf := Nat.lt_trans g hf
                      clear g
                      replace h : EC C f 18 ab_main 1083 [some (rf 98 (0)), some (rf 11 (0)), some (rf 13 (14)), some (rf 13 (15)), some (rf 13 (16)), some (rf 13 (17)), some (rf 14 (6)), some (.inl (u7)), some (.inl (u8)), y9, y10, some (.inl (u11)), some (.inl (u12)), y13, y14, y15, y16, y17] [.inl (Int32.ofInt 0)] σ20 (w, σ') := h
                      replace h := ec_p h rfl rfl rfl rfl
                      obtain ⟨f, g, h⟩ := h
                      replace hf := Nat.lt_trans g hf
                      clear g
                      replace h : EC C f 18 ab_main 1085 [some (rf 98 (0)), some (rf 11 (0)), some (rf 13 (14)), some (rf 13 (15)), some (rf 13 (16)), some (rf 13 (17)), some (rf 14 (6)), some (.inl (Int32.ofInt 0)), some (.inl (u8)), y9, y10, some (.inl (u11)), some (.inl (u12)), y13, y14, y15, y16, y17] [] σ20 (w, σ') := h
                      replace h := ec_p h rfl rfl rfl rfl
                      obtain ⟨f, g, h⟩ := h
                      replace hf := Nat.lt_trans g hf
                      clear g
                      replace h : EC C f 18 ab_main 1088 [some (rf 98 (0)), some (rf 11 (0)), some (rf 13 (14)), some (rf 13 (15)), some (rf 13 (16)), some (rf 13 (17)), some (rf 14 (6)), some (.inl (Int32.ofInt 0)), some (.inl ((u8) + Int32.ofInt 1)), y9, y10, some (.inl (u11)), some (.inl (u12)), y13, y14, y15, y16, y17] [] σ20 (w, σ') := h
                      replace h := ec_p h rfl rfl rfl rfl
                      obtain ⟨f, g, h⟩ := h
                      replace hf := Nat.lt_trans g hf
                      clear g
                      replace h : EC C f 18 ab_main 162 [some (rf 98 (0)), some (rf 11 (0)), some (rf 13 (14)), some (rf 13 (15)), some (rf 13 (16)), some (rf 13 (17)), some (rf 14 (6)), some (.inl (Int32.ofInt 0)), some (.inl ((u8) + Int32.ofInt 1)), y9, y10, some (.inl (u11)), some (.inl (u12)), y13, y14, y15, y16, y17] [] σ20 (w, σ') := h
                      exact H162 f hf (Int32.ofInt 0) ((u8) + Int32.ofInt 1) y9 y10 (some (.inl (u11))) (some (.inl (u12))) y13 y14 y15 y16 y17 σ20 hsσ20 h
                    · skip
                      replace hp23 : ¬ ((v19).toInt = (0 : Int)) := (not_congr ic_eq).mp hp23
                      refine Or.inr ⟨hp23, ?_⟩
                      replace hf := Nat.lt_trans g hf
                      clear g
                      replace h : EC C f 18 ab_main 1042 [some (rf 98 (0)), some (rf 11 (0)), some (rf 13 (14)), some (rf 13 (15)), some (rf 13 (16)), some (rf 13 (17)), some (rf 14 (6)), some (.inl (u7)), some (.inl (u8)), y9, y10, some (.inl (u11)), some (.inl (u12)), y13, y14, y15, y16, y17] [] σ20 (w, σ') := h
                      replace h := ec_p h rfl rfl rfl rfl
                      obtain ⟨f, g, h⟩ := h
                      replace hf := Nat.lt_trans g hf
                      clear g
                      replace h : EC C f 18 ab_main 1044 [some (rf 98 (0)), some (rf 11 (0)), some (rf 13 (14)), some (rf 13 (15)), some (rf 13 (16)), some (rf 13 (17)), some (rf 14 (6)), some (.inl (u7)), some (.inl (u8)), y9, y10, some (.inl (u11)), some (.inl (u12)), y13, y14, y15, y16, y17] [rf 13 (17)] σ20 (w, σ') := h
                      replace h := ec_p h rfl rfl rfl rfl
                      obtain ⟨f, g, h⟩ := h
                      replace hf := Nat.lt_trans g hf
                      clear g
                      replace h : EC C f 18 ab_main 1045 [some (rf 98 (0)), some (rf 11 (0)), some (rf 13 (14)), some (rf 13 (15)), some (rf 13 (16)), some (rf 13 (17)), some (rf 14 (6)), some (.inl (u7)), some (.inl (u8)), y9, y10, some (.inl (u11)), some (.inl (u12)), y13, y14, y15, y16, y17] [.inl (Int32.ofInt 0), rf 13 (17)] σ20 (w, σ') := h
                      replace h := ec_iald h rfl (fun _ => rfl)
                      obtain ⟨vp24, f, g, h⟩ := h
                      replace hf := Nat.lt_trans g hf
                      clear g
                      replace h : EC C f 18 ab_main 1046 [some (rf 98 (0)), some (rf 11 (0)), some (rf 13 (14)), some (rf 13 (15)), some (rf 13 (16)), some (rf 13 (17)), some (rf 14 (6)), some (.inl (u7)), some (.inl (u8)), y9, y10, some (.inl (u11)), some (.inl (u12)), y13, y14, y15, y16, y17] [.inl (m_i σ20 13 (17) (Int32.ofInt 0).toNatClampNeg)] σ20 (w, σ') := h
                      refine ⟨vp_2 vp24, ?_⟩
                      replace h := ec_c h rfl rfl rfl
                      rcases h with ⟨hp25, f, g, h⟩ | ⟨hp25, f, g, h⟩
                      · skip
                        replace hp25 : (m_i σ20 13 (17) (Int32.ofInt 0).toNatClampNeg).toInt = (0 : Int) := ic_eq.mp hp25
                        refine Or.inl ⟨hp25, ?_⟩
                        replace hf := Nat.lt_trans g hf
                        clear g
                        replace h : EC C f 18 ab_main 1067 [some (rf 98 (0)), some (rf 11 (0)), some (rf 13 (14)), some (rf 13 (15)), some (rf 13 (16)), some (rf 13 (17)), some (rf 14 (6)), some (.inl (u7)), some (.inl (u8)), y9, y10, some (.inl (u11)), some (.inl (u12)), y13, y14, y15, y16, y17] [] σ20 (w, σ') := h
                        replace h := ec_p h rfl rfl rfl rfl
                        obtain ⟨f, g, h⟩ := h
                        replace hf := Nat.lt_trans g hf
                        clear g
                        replace h : EC C f 18 ab_main 1068 [some (rf 98 (0)), some (rf 11 (0)), some (rf 13 (14)), some (rf 13 (15)), some (rf 13 (16)), some (rf 13 (17)), some (rf 14 (6)), some (.inl (u7)), some (.inl (u8)), y9, y10, some (.inl (u11)), some (.inl (u12)), y13, y14, y15, y16, y17] [rf 11 (0)] σ20 (w, σ') := h
                        replace h := cx_I hC (ec_v (as := []) h rfl rfl rfl) rfl z141_at (Or.inl rfl)
                        rcases h with ⟨v26, σ27, r28, f, g, h⟩ | ⟨b, σ27, r28, e⟩
                        rotate_left
                        · obtain ⟨_, z⟩ := nt_run rfl r28
                          cases z
                        replace hf := Nat.lt_trans g hf
                        clear g
                        have er28 := ro2_run rfl r28
                        rw [er28] at h r28
                        have p29 := x141 hsσ20.1 r28
                        refine ⟨v26, p29, ?_⟩
                        replace h : EC C f 18 ab_main 1071 [some (rf 98 (0)), some (rf 11 (0)), some (rf 13 (14)), some (rf 13 (15)), some (rf 13 (16)), some (rf 13 (17)), some (rf 14 (6)), some (.inl (u7)), some (.inl (u8)), y9, y10, some (.inl (u11)), some (.inl (u12)), y13, y14, y15, y16, y17] [.inl (v26)] σ20 (w, σ') := h
                        replace h := ec_p h rfl rfl rfl rfl
                        obtain ⟨f, g, h⟩ := h
                        replace hf := Nat.lt_trans g hf
                        clear g
                        replace h : EC C f 18 ab_main 1073 [some (rf 98 (0)), some (rf 11 (0)), some (rf 13 (14)), some (rf 13 (15)), some (rf 13 (16)), some (rf 13 (17)), some (rf 14 (6)), some (.inl (u7)), some (.inl (u8)), y9, y10, some (.inl (u11)), some (.inl (u12)), y13, y14, y15, y16, y17] [rf 13 (17), .inl (v26)] σ20 (w, σ') := h
                        replace h := ec_p h rfl rfl rfl rfl
                        obtain ⟨f, g, h⟩ := h
                        replace hf := Nat.lt_trans g hf
                        clear g
                        replace h : EC C f 18 ab_main 1074 [some (rf 98 (0)), some (rf 11 (0)), some (rf 13 (14)), some (rf 13 (15)), some (rf 13 (16)), some (rf 13 (17)), some (rf 14 (6)), some (.inl (u7)), some (.inl (u8)), y9, y10, some (.inl (u11)), some (.inl (u12)), y13, y14, y15, y16, y17] [.inl (Int32.ofInt 3), rf 13 (17), .inl (v26)] σ20 (w, σ') := h
                        replace h := ec_iald h rfl (fun _ => rfl)
                        obtain ⟨vp30, f, g, h⟩ := h
                        replace hf := Nat.lt_trans g hf
                        clear g
                        replace h : EC C f 18 ab_main 1075 [some (rf 98 (0)), some (rf 11 (0)), some (rf 13 (14)), some (rf 13 (15)), some (rf 13 (16)), some (rf 13 (17)), some (rf 14 (6)), some (.inl (u7)), some (.inl (u8)), y9, y10, some (.inl (u11)), some (.inl (u12)), y13, y14, y15, y16, y17] [.inl (m_i σ20 13 (17) (Int32.ofInt 3).toNatClampNeg), .inl (v26)] σ20 (w, σ') := h
                        refine ⟨vp_2 vp30, ?_⟩
                        replace h := ec_c h rfl rfl rfl
                        rcases h with ⟨hp31, f, g, h⟩ | ⟨hp31, f, g, h⟩
                        · skip
                          replace hp31 : (v26).toInt ≠ (m_i σ20 13 (17) (Int32.ofInt 3).toNatClampNeg).toInt := ic_ne.mp hp31
                          refine Or.inl ⟨hp31, ?_⟩
                          replace hf := Nat.lt_trans g hf
                          clear g
                          replace h : EC C f 18 ab_main 1082 [some (rf 98 (0)), some (rf 11 (0)), some (rf 13 (14)), some (rf 13 (15)), some (rf 13 (16)), some (rf 13 (17)), some (rf 14 (6)), some (.inl (u7)), some (.inl (u8)), y9, y10, some (.inl (u11)), some (.inl (u12)), y13, y14, y15, y16, y17] [] σ20 (w, σ') := h
                          replace h := ec_p h rfl rfl rfl rfl
                          obtain ⟨f, g, h⟩ := h
                          replace hf := Nat.lt_trans g hf
                          clear g
                          replace h : EC C f 18 ab_main 1083 [some (rf 98 (0)), some (rf 11 (0)), some (rf 13 (14)), some (rf 13 (15)), some (rf 13 (16)), some (rf 13 (17)), some (rf 14 (6)), some (.inl (u7)), some (.inl (u8)), y9, y10, some (.inl (u11)), some (.inl (u12)), y13, y14, y15, y16, y17] [.inl (Int32.ofInt 0)] σ20 (w, σ') := h
                          replace h := ec_p h rfl rfl rfl rfl
                          obtain ⟨f, g, h⟩ := h
                          replace hf := Nat.lt_trans g hf
                          clear g
                          replace h : EC C f 18 ab_main 1085 [some (rf 98 (0)), some (rf 11 (0)), some (rf 13 (14)), some (rf 13 (15)), some (rf 13 (16)), some (rf 13 (17)), some (rf 14 (6)), some (.inl (Int32.ofInt 0)), some (.inl (u8)), y9, y10, some (.inl (u11)), some (.inl (u12)), y13, y14, y15, y16, y17] [] σ20 (w, σ') := h
                          replace h := ec_p h rfl rfl rfl rfl
                          obtain ⟨f, g, h⟩ := h
                          replace hf := Nat.lt_trans g hf
                          clear g
                          replace h : EC C f 18 ab_main 1088 [some (rf 98 (0)), some (rf 11 (0)), some (rf 13 (14)), some (rf 13 (15)), some (rf 13 (16)), some (rf 13 (17)), some (rf 14 (6)), some (.inl (Int32.ofInt 0)), some (.inl ((u8) + Int32.ofInt 1)), y9, y10, some (.inl (u11)), some (.inl (u12)), y13, y14, y15, y16, y17] [] σ20 (w, σ') := h
                          replace h := ec_p h rfl rfl rfl rfl
                          obtain ⟨f, g, h⟩ := h
                          replace hf := Nat.lt_trans g hf
                          clear g
                          replace h : EC C f 18 ab_main 162 [some (rf 98 (0)), some (rf 11 (0)), some (rf 13 (14)), some (rf 13 (15)), some (rf 13 (16)), some (rf 13 (17)), some (rf 14 (6)), some (.inl (Int32.ofInt 0)), some (.inl ((u8) + Int32.ofInt 1)), y9, y10, some (.inl (u11)), some (.inl (u12)), y13, y14, y15, y16, y17] [] σ20 (w, σ') := h
                          exact H162 f hf (Int32.ofInt 0) ((u8) + Int32.ofInt 1) y9 y10 (some (.inl (u11))) (some (.inl (u12))) y13 y14 y15 y16 y17 σ20 hsσ20 h
                        · skip
                          replace hp31 : ¬ ((v26).toInt ≠ (m_i σ20 13 (17) (Int32.ofInt 3).toNatClampNeg).toInt) := (not_congr ic_ne).mp hp31
                          refine Or.inr ⟨hp31, ?_⟩
                          replace hf := Nat.lt_trans g hf
                          clear g
                          replace h : EC C f 18 ab_main 1078 [some (rf 98 (0)), some (rf 11 (0)), some (rf 13 (14)), some (rf 13 (15)), some (rf 13 (16)), some (rf 13 (17)), some (rf 14 (6)), some (.inl (u7)), some (.inl (u8)), y9, y10, some (.inl (u11)), some (.inl (u12)), y13, y14, y15, y16, y17] [] σ20 (w, σ') := h
                          replace h := ec_p h rfl rfl rfl rfl
                          obtain ⟨f, g, h⟩ := h
                          replace hf := Nat.lt_trans g hf
                          clear g
                          replace h : EC C f 18 ab_main 1079 [some (rf 98 (0)), some (rf 11 (0)), some (rf 13 (14)), some (rf 13 (15)), some (rf 13 (16)), some (rf 13 (17)), some (rf 14 (6)), some (.inl (u7)), some (.inl (u8)), y9, y10, some (.inl (u11)), some (.inl (u12)), y13, y14, y15, y16, y17] [.inl (Int32.ofInt 1)] σ20 (w, σ') := h
                          replace h := ec_p h rfl rfl rfl rfl
                          obtain ⟨f, g, h⟩ := h
                          replace hf := Nat.lt_trans g hf
                          clear g
                          replace h : EC C f 18 ab_main 1083 [some (rf 98 (0)), some (rf 11 (0)), some (rf 13 (14)), some (rf 13 (15)), some (rf 13 (16)), some (rf 13 (17)), some (rf 14 (6)), some (.inl (u7)), some (.inl (u8)), y9, y10, some (.inl (u11)), some (.inl (u12)), y13, y14, y15, y16, y17] [.inl (Int32.ofInt 1)] σ20 (w, σ') := h
                          replace h := ec_p h rfl rfl rfl rfl
                          obtain ⟨f, g, h⟩ := h
                          replace hf := Nat.lt_trans g hf
                          clear g
                          replace h : EC C f 18 ab_main 1085 [some (rf 98 (0)), some (rf 11 (0)), some (rf 13 (14)), some (rf 13 (15)), some (rf 13 (16)), some (rf 13 (17)), some (rf 14 (6)), some (.inl (Int32.ofInt 1)), some (.inl (u8)), y9, y10, some (.inl (u11)), some (.inl (u12)), y13, y14, y15, y16, y17] [] σ20 (w, σ') := h
                          replace h := ec_p h rfl rfl rfl rfl
                          obtain ⟨f, g, h⟩ := h
                          replace hf := Nat.lt_trans g hf
                          clear g
                          replace h : EC C f 18 ab_main 1088 [some (rf 98 (0)), some (rf 11 (0)), some (rf 13 (14)), some (rf 13 (15)), some (rf 13 (16)), some (rf 13 (17)), some (rf 14 (6)), some (.inl (Int32.ofInt 1)), some (.inl ((u8) + Int32.ofInt 1)), y9, y10, some (.inl (u11)), some (.inl (u12)), y13, y14, y15, y16, y17] [] σ20 (w, σ') := h
                          replace h := ec_p h rfl rfl rfl rfl
                          obtain ⟨f, g, h⟩ := h
                          replace hf := Nat.lt_trans g hf
                          clear g
                          replace h : EC C f 18 ab_main 162 [some (rf 98 (0)), some (rf 11 (0)), some (rf 13 (14)), some (rf 13 (15)), some (rf 13 (16)), some (rf 13 (17)), some (rf 14 (6)), some (.inl (Int32.ofInt 1)), some (.inl ((u8) + Int32.ofInt 1)), y9, y10, some (.inl (u11)), some (.inl (u12)), y13, y14, y15, y16, y17] [] σ20 (w, σ') := h
                          exact H162 f hf (Int32.ofInt 1) ((u8) + Int32.ofInt 1) y9 y10 (some (.inl (u11))) (some (.inl (u12))) y13 y14 y15 y16 y17 σ20 hsσ20 h
                      · skip
                        replace hp25 : ¬ ((m_i σ20 13 (17) (Int32.ofInt 0).toNatClampNeg).toInt = (0 : Int)) := (not_congr ic_eq).mp hp25
                        refine Or.inr ⟨hp25, ?_⟩
                        replace hf := Nat.lt_trans g hf
                        clear g
                        replace h : EC C f 18 ab_main 1049 [some (rf 98 (0)), some (rf 11 (0)), some (rf 13 (14)), some (rf 13 (15)), some (rf 13 (16)), some (rf 13 (17)), some (rf 14 (6)), some (.inl (u7)), some (.inl (u8)), y9, y10, some (.inl (u11)), some (.inl (u12)), y13, y14, y15, y16, y17] [] σ20 (w, σ') := h
                        replace h := ec_p h rfl rfl rfl rfl
                        obtain ⟨f, g, h⟩ := h
                        replace hf := Nat.lt_trans g hf
                        clear g
                        replace h : EC C f 18 ab_main 1050 [some (rf 98 (0)), some (rf 11 (0)), some (rf 13 (14)), some (rf 13 (15)), some (rf 13 (16)), some (rf 13 (17)), some (rf 14 (6)), some (.inl (u7)), some (.inl (u8)), y9, y10, some (.inl (u11)), some (.inl (u12)), y13, y14, y15, y16, y17] [rf 11 (0)] σ20 (w, σ') := h
                        replace h := ec_p h rfl rfl rfl rfl
                        obtain ⟨f, g, h⟩ := h
                        replace hf := Nat.lt_trans g hf
                        clear g
                        replace h : EC C f 18 ab_main 1051 [some (rf 98 (0)), some (rf 11 (0)), some (rf 13 (14)), some (rf 13 (15)), some (rf 13 (16)), some (rf 13 (17)), some (rf 14 (6)), some (.inl (u7)), some (.inl (u8)), y9, y10, some (.inl (u11)), some (.inl (u12)), y13, y14, y15, y16, y17] [rf 13 (14), rf 11 (0)] σ20 (w, σ') := h
                        replace h := ec_p h rfl rfl rfl rfl
                        obtain ⟨f, g, h⟩ := h
                        replace hf := Nat.lt_trans g hf
                        clear g
                        replace h : EC C f 18 ab_main 1052 [some (rf 98 (0)), some (rf 11 (0)), some (rf 13 (14)), some (rf 13 (15)), some (rf 13 (16)), some (rf 13 (17)), some (rf 14 (6)), some (.inl (u7)), some (.inl (u8)), y9, y10, some (.inl (u11)), some (.inl (u12)), y13, y14, y15, y16, y17] [rf 13 (15), rf 13 (14), rf 11 (0)] σ20 (w, σ') := h
                        replace h := ec_p h rfl rfl rfl rfl
                        obtain ⟨f, g, h⟩ := h
                        replace hf := Nat.lt_trans g hf
                        clear g
                        replace h : EC C f 18 ab_main 1054 [some (rf 98 (0)), some (rf 11 (0)), some (rf 13 (14)), some (rf 13 (15)), some (rf 13 (16)), some (rf 13 (17)), some (rf 14 (6)), some (.inl (u7)), some (.inl (u8)), y9, y10, some (.inl (u11)), some (.inl (u12)), y13, y14, y15, y16, y17] [rf 13 (17), rf 13 (15), rf 13 (14), rf 11 (0)] σ20 (w, σ') := h
                        replace h := ec_p h rfl rfl rfl rfl
                        obtain ⟨f, g, h⟩ := h
                        replace hf := Nat.lt_trans g hf
                        clear g
                        replace h : EC C f 18 ab_main 1056 [some (rf 98 (0)), some (rf 11 (0)), some (rf 13 (14)), some (rf 13 (15)), some (rf 13 (16)), some (rf 13 (17)), some (rf 14 (6)), some (.inl (u7)), some (.inl (u8)), y9, y10, some (.inl (u11)), some (.inl (u12)), y13, y14, y15, y16, y17] [.inl (u11), rf 13 (17), rf 13 (15), rf 13 (14), rf 11 (0)] σ20 (w, σ') := h
                        replace h := ec_p h rfl rfl rfl rfl
                        obtain ⟨f, g, h⟩ := h
                        replace hf := Nat.lt_trans g hf
                        clear g
                        replace h : EC C f 18 ab_main 1058 [some (rf 98 (0)), some (rf 11 (0)), some (rf 13 (14)), some (rf 13 (15)), some (rf 13 (16)), some (rf 13 (17)), some (rf 14 (6)), some (.inl (u7)), some (.inl (u8)), y9, y10, some (.inl (u11)), some (.inl (u12)), y13, y14, y15, y16, y17] [rf 13 (17), .inl (u11), rf 13 (17), rf 13 (15), rf 13 (14), rf 11 (0)] σ20 (w, σ') := h
                        replace h := ec_p h rfl rfl rfl rfl
                        obtain ⟨f, g, h⟩ := h
                        replace hf := Nat.lt_trans g hf
                        clear g
                        replace h : EC C f 18 ab_main 1059 [some (rf 98 (0)), some (rf 11 (0)), some (rf 13 (14)), some (rf 13 (15)), some (rf 13 (16)), some (rf 13 (17)), some (rf 14 (6)), some (.inl (u7)), some (.inl (u8)), y9, y10, some (.inl (u11)), some (.inl (u12)), y13, y14, y15, y16, y17] [.inl (Int32.ofInt 0), rf 13 (17), .inl (u11), rf 13 (17), rf 13 (15), rf 13 (14), rf 11 (0)] σ20 (w, σ') := h
                        replace h := ec_iald h rfl (fun _ => rfl)
                        obtain ⟨vp32, f, g, h⟩ := h
                        replace hf := Nat.lt_trans g hf
                        clear g
                        replace h : EC C f 18 ab_main 1060 [some (rf 98 (0)), some (rf 11 (0)), some (rf 13 (14)), some (rf 13 (15)), some (rf 13 (16)), some (rf 13 (17)), some (rf 14 (6)), some (.inl (u7)), some (.inl (u8)), y9, y10, some (.inl (u11)), some (.inl (u12)), y13, y14, y15, y16, y17] [.inl (m_i σ20 13 (17) (Int32.ofInt 0).toNatClampNeg), .inl (u11), rf 13 (17), rf 13 (15), rf 13 (14), rf 11 (0)] σ20 (w, σ') := h
                        refine ⟨vp_2 vp32, ?_⟩
                        replace h := ec_irem h rfl
                        obtain ⟨hd33, f, g, h⟩ := h
                        replace hf := Nat.lt_trans g hf
                        clear g
                        replace h : EC C f 18 ab_main 1061 [some (rf 98 (0)), some (rf 11 (0)), some (rf 13 (14)), some (rf 13 (15)), some (rf 13 (16)), some (rf 13 (17)), some (rf 14 (6)), some (.inl (u7)), some (.inl (u8)), y9, y10, some (.inl (u11)), some (.inl (u12)), y13, y14, y15, y16, y17] [.inl ((u11) - (u11) / (m_i σ20 13 (17) (Int32.ofInt 0).toNatClampNeg) * (m_i σ20 13 (17) (Int32.ofInt 0).toNatClampNeg)), rf 13 (17), rf 13 (15), rf 13 (14), rf 11 (0)] σ20 (w, σ') := h
                        replace h := cx_I hC (ec_s (as := [.inl ((u11) - (u11) / (m_i σ20 13 (17) (Int32.ofInt 0).toNatClampNeg) * (m_i σ20 13 (17) (Int32.ofInt 0).toNatClampNeg)), rf 13 (17), rf 13 (15), rf 13 (14), rf 11 (0)]) h rfl (Nat.le_of_ble_eq_true rfl) rfl rfl) rfl z179_at (Or.inr rfl)
                        rcases h with ⟨v34, σ35, r36, f, g, h⟩ | ⟨b, σ35, r36, e⟩
                        · skip
                          replace hf := Nat.lt_trans g hf
                          clear g
                          have p37 := x179 hsσ20 r36
                          refine Or.inl ⟨v34, σ35, r36, p37, fun hsσ35 => ?_⟩
                          replace h : EC C f 18 ab_main 1064 [some (rf 98 (0)), some (rf 11 (0)), some (rf 13 (14)), some (rf 13 (15)), some (rf 13 (16)), some (rf 13 (17)), some (rf 14 (6)), some (.inl (u7)), some (.inl (u8)), y9, y10, some (.inl (u11)), some (.inl (u12)), y13, y14, y15, y16, y17] [.inl (v34)] σ35 (w, σ') := h
                          replace h := ec_c h rfl rfl rfl
                          rcases h with ⟨hp38, f, g, h⟩ | ⟨hp38, f, g, h⟩
                          · skip
                            replace hp38 : (v34).toInt = (0 : Int) := ic_eq.mp hp38
                            refine Or.inl ⟨hp38, ?_⟩
                            replace hf := Nat.lt_trans g hf
                            clear g
                            replace h : EC C f 18 ab_main 1082 [some (rf 98 (0)), some (rf 11 (0)), some (rf 13 (14)), some (rf 13 (15)), some (rf 13 (16)), some (rf 13 (17)), some (rf 14 (6)), some (.inl (u7)), some (.inl (u8)), y9, y10, some (.inl (u11)), some (.inl (u12)), y13, y14, y15, y16, y17] [] σ35 (w, σ') := h
                            replace h := ec_p h rfl rfl rfl rfl
                            obtain ⟨f, g, h⟩ := h
                            replace hf := Nat.lt_trans g hf
                            clear g
                            replace h : EC C f 18 ab_main 1083 [some (rf 98 (0)), some (rf 11 (0)), some (rf 13 (14)), some (rf 13 (15)), some (rf 13 (16)), some (rf 13 (17)), some (rf 14 (6)), some (.inl (u7)), some (.inl (u8)), y9, y10, some (.inl (u11)), some (.inl (u12)), y13, y14, y15, y16, y17] [.inl (Int32.ofInt 0)] σ35 (w, σ') := h
                            replace h := ec_p h rfl rfl rfl rfl
                            obtain ⟨f, g, h⟩ := h
                            replace hf := Nat.lt_trans g hf
                            clear g
                            replace h : EC C f 18 ab_main 1085 [some (rf 98 (0)), some (rf 11 (0)), some (rf 13 (14)), some (rf 13 (15)), some (rf 13 (16)), some (rf 13 (17)), some (rf 14 (6)), some (.inl (Int32.ofInt 0)), some (.inl (u8)), y9, y10, some (.inl (u11)), some (.inl (u12)), y13, y14, y15, y16, y17] [] σ35 (w, σ') := h
                            replace h := ec_p h rfl rfl rfl rfl
                            obtain ⟨f, g, h⟩ := h
                            replace hf := Nat.lt_trans g hf
                            clear g
                            replace h : EC C f 18 ab_main 1088 [some (rf 98 (0)), some (rf 11 (0)), some (rf 13 (14)), some (rf 13 (15)), some (rf 13 (16)), some (rf 13 (17)), some (rf 14 (6)), some (.inl (Int32.ofInt 0)), some (.inl ((u8) + Int32.ofInt 1)), y9, y10, some (.inl (u11)), some (.inl (u12)), y13, y14, y15, y16, y17] [] σ35 (w, σ') := h
                            replace h := ec_p h rfl rfl rfl rfl
                            obtain ⟨f, g, h⟩ := h
                            replace hf := Nat.lt_trans g hf
                            clear g
                            replace h : EC C f 18 ab_main 162 [some (rf 98 (0)), some (rf 11 (0)), some (rf 13 (14)), some (rf 13 (15)), some (rf 13 (16)), some (rf 13 (17)), some (rf 14 (6)), some (.inl (Int32.ofInt 0)), some (.inl ((u8) + Int32.ofInt 1)), y9, y10, some (.inl (u11)), some (.inl (u12)), y13, y14, y15, y16, y17] [] σ35 (w, σ') := h
                            exact H162 f hf (Int32.ofInt 0) ((u8) + Int32.ofInt 1) y9 y10 (some (.inl (u11))) (some (.inl (u12))) y13 y14 y15 y16 y17 σ35 hsσ35 h
                          · skip
                            replace hp38 : ¬ ((v34).toInt = (0 : Int)) := (not_congr ic_eq).mp hp38
                            refine Or.inr ⟨hp38, ?_⟩
                            replace hf := Nat.lt_trans g hf
                            clear g
                            replace h : EC C f 18 ab_main 1067 [some (rf 98 (0)), some (rf 11 (0)), some (rf 13 (14)), some (rf 13 (15)), some (rf 13 (16)), some (rf 13 (17)), some (rf 14 (6)), some (.inl (u7)), some (.inl (u8)), y9, y10, some (.inl (u11)), some (.inl (u12)), y13, y14, y15, y16, y17] [] σ35 (w, σ') := h
                            replace h := ec_p h rfl rfl rfl rfl
                            obtain ⟨f, g, h⟩ := h
                            replace hf := Nat.lt_trans g hf
                            clear g
                            replace h : EC C f 18 ab_main 1068 [some (rf 98 (0)), some (rf 11 (0)), some (rf 13 (14)), some (rf 13 (15)), some (rf 13 (16)), some (rf 13 (17)), some (rf 14 (6)), some (.inl (u7)), some (.inl (u8)), y9, y10, some (.inl (u11)), some (.inl (u12)), y13, y14, y15, y16, y17] [rf 11 (0)] σ35 (w, σ') := h
                            replace h := cx_I hC (ec_v (as := []) h rfl rfl rfl) rfl z141_at (Or.inl rfl)
                            rcases h with ⟨v39, σ40, r41, f, g, h⟩ | ⟨b, σ40, r41, e⟩
                            rotate_left
                            · obtain ⟨_, z⟩ := nt_run rfl r41
                              cases z
                            replace hf := Nat.lt_trans g hf
                            clear g
                            have er41 := ro2_run rfl r41
                            rw [er41] at h r41
                            have p42 := x141 hsσ35.1 r41
                            refine ⟨v39, p42, ?_⟩
                            replace h : EC C f 18 ab_main 1071 [some (rf 98 (0)), some (rf 11 (0)), some (rf 13 (14)), some (rf 13 (15)), some (rf 13 (16)), some (rf 13 (17)), some (rf 14 (6)), some (.inl (u7)), some (.inl (u8)), y9, y10, some (.inl (u11)), some (.inl (u12)), y13, y14, y15, y16, y17] [.inl (v39)] σ35 (w, σ') := h
                            replace h := ec_p h rfl rfl rfl rfl
                            obtain ⟨f, g, h⟩ := h
                            replace hf := Nat.lt_trans g hf
                            clear g
                            replace h : EC C f 18 ab_main 1073 [some (rf 98 (0)), some (rf 11 (0)), some (rf 13 (14)), some (rf 13 (15)), some (rf 13 (16)), some (rf 13 (17)), some (rf 14 (6)), some (.inl (u7)), some (.inl (u8)), y9, y10, some (.inl (u11)), some (.inl (u12)), y13, y14, y15, y16, y17] [rf 13 (17), .inl (v39)] σ35 (w, σ') := h
                            replace h := ec_p h rfl rfl rfl rfl
                            obtain ⟨f, g, h⟩ := h
                            replace hf := Nat.lt_trans g hf
                            clear g
                            replace h : EC C f 18 ab_main 1074 [some (rf 98 (0)), some (rf 11 (0)), some (rf 13 (14)), some (rf 13 (15)), some (rf 13 (16)), some (rf 13 (17)), some (rf 14 (6)), some (.inl (u7)), some (.inl (u8)), y9, y10, some (.inl (u11)), some (.inl (u12)), y13, y14, y15, y16, y17] [.inl (Int32.ofInt 3), rf 13 (17), .inl (v39)] σ35 (w, σ') := h
                            replace h := ec_iald h rfl (fun _ => rfl)
                            obtain ⟨vp43, f, g, h⟩ := h
                            replace hf := Nat.lt_trans g hf
                            clear g
                            replace h : EC C f 18 ab_main 1075 [some (rf 98 (0)), some (rf 11 (0)), some (rf 13 (14)), some (rf 13 (15)), some (rf 13 (16)), some (rf 13 (17)), some (rf 14 (6)), some (.inl (u7)), some (.inl (u8)), y9, y10, some (.inl (u11)), some (.inl (u12)), y13, y14, y15, y16, y17] [.inl (m_i σ35 13 (17) (Int32.ofInt 3).toNatClampNeg), .inl (v39)] σ35 (w, σ') := h
                            refine ⟨vp_2 vp43, ?_⟩
                            replace h := ec_c h rfl rfl rfl
                            rcases h with ⟨hp44, f, g, h⟩ | ⟨hp44, f, g, h⟩
                            · skip
                              replace hp44 : (v39).toInt ≠ (m_i σ35 13 (17) (Int32.ofInt 3).toNatClampNeg).toInt := ic_ne.mp hp44
                              refine Or.inl ⟨hp44, ?_⟩
                              replace hf := Nat.lt_trans g hf
                              clear g
                              replace h : EC C f 18 ab_main 1082 [some (rf 98 (0)), some (rf 11 (0)), some (rf 13 (14)), some (rf 13 (15)), some (rf 13 (16)), some (rf 13 (17)), some (rf 14 (6)), some (.inl (u7)), some (.inl (u8)), y9, y10, some (.inl (u11)), some (.inl (u12)), y13, y14, y15, y16, y17] [] σ35 (w, σ') := h
                              replace h := ec_p h rfl rfl rfl rfl
                              obtain ⟨f, g, h⟩ := h
                              replace hf := Nat.lt_trans g hf
                              clear g
                              replace h : EC C f 18 ab_main 1083 [some (rf 98 (0)), some (rf 11 (0)), some (rf 13 (14)), some (rf 13 (15)), some (rf 13 (16)), some (rf 13 (17)), some (rf 14 (6)), some (.inl (u7)), some (.inl (u8)), y9, y10, some (.inl (u11)), some (.inl (u12)), y13, y14, y15, y16, y17] [.inl (Int32.ofInt 0)] σ35 (w, σ') := h
                              replace h := ec_p h rfl rfl rfl rfl
                              obtain ⟨f, g, h⟩ := h
                              replace hf := Nat.lt_trans g hf
                              clear g
                              replace h : EC C f 18 ab_main 1085 [some (rf 98 (0)), some (rf 11 (0)), some (rf 13 (14)), some (rf 13 (15)), some (rf 13 (16)), some (rf 13 (17)), some (rf 14 (6)), some (.inl (Int32.ofInt 0)), some (.inl (u8)), y9, y10, some (.inl (u11)), some (.inl (u12)), y13, y14, y15, y16, y17] [] σ35 (w, σ') := h
                              replace h := ec_p h rfl rfl rfl rfl
                              obtain ⟨f, g, h⟩ := h
                              replace hf := Nat.lt_trans g hf
                              clear g
                              replace h : EC C f 18 ab_main 1088 [some (rf 98 (0)), some (rf 11 (0)), some (rf 13 (14)), some (rf 13 (15)), some (rf 13 (16)), some (rf 13 (17)), some (rf 14 (6)), some (.inl (Int32.ofInt 0)), some (.inl ((u8) + Int32.ofInt 1)), y9, y10, some (.inl (u11)), some (.inl (u12)), y13, y14, y15, y16, y17] [] σ35 (w, σ') := h
                              replace h := ec_p h rfl rfl rfl rfl
                              obtain ⟨f, g, h⟩ := h
                              replace hf := Nat.lt_trans g hf
                              clear g
                              replace h : EC C f 18 ab_main 162 [some (rf 98 (0)), some (rf 11 (0)), some (rf 13 (14)), some (rf 13 (15)), some (rf 13 (16)), some (rf 13 (17)), some (rf 14 (6)), some (.inl (Int32.ofInt 0)), some (.inl ((u8) + Int32.ofInt 1)), y9, y10, some (.inl (u11)), some (.inl (u12)), y13, y14, y15, y16, y17] [] σ35 (w, σ') := h
                              exact H162 f hf (Int32.ofInt 0) ((u8) + Int32.ofInt 1) y9 y10 (some (.inl (u11))) (some (.inl (u12))) y13 y14 y15 y16 y17 σ35 hsσ35 h
                            · skip
                              replace hp44 : ¬ ((v39).toInt ≠ (m_i σ35 13 (17) (Int32.ofInt 3).toNatClampNeg).toInt) := (not_congr ic_ne).mp hp44
                              refine Or.inr ⟨hp44, ?_⟩
                              replace hf := Nat.lt_trans g hf
                              clear g
                              replace h : EC C f 18 ab_main 1078 [some (rf 98 (0)), some (rf 11 (0)), some (rf 13 (14)), some (rf 13 (15)), some (rf 13 (16)), some (rf 13 (17)), some (rf 14 (6)), some (.inl (u7)), some (.inl (u8)), y9, y10, some (.inl (u11)), some (.inl (u12)), y13, y14, y15, y16, y17] [] σ35 (w, σ') := h
                              replace h := ec_p h rfl rfl rfl rfl
                              obtain ⟨f, g, h⟩ := h
                              replace hf := Nat.lt_trans g hf
                              clear g
                              replace h : EC C f 18 ab_main 1079 [some (rf 98 (0)), some (rf 11 (0)), some (rf 13 (14)), some (rf 13 (15)), some (rf 13 (16)), some (rf 13 (17)), some (rf 14 (6)), some (.inl (u7)), some (.inl (u8)), y9, y10, some (.inl (u11)), some (.inl (u12)), y13, y14, y15, y16, y17] [.inl (Int32.ofInt 1)] σ35 (w, σ') := h
                              replace h := ec_p h rfl rfl rfl rfl
                              obtain ⟨f, g, h⟩ := h
                              replace hf := Nat.lt_trans g hf
                              clear g
                              replace h : EC C f 18 ab_main 1083 [some (rf 98 (0)), some (rf 11 (0)), some (rf 13 (14)), some (rf 13 (15)), some (rf 13 (16)), some (rf 13 (17)), some (rf 14 (6)), some (.inl (u7)), some (.inl (u8)), y9, y10, some (.inl (u11)), some (.inl (u12)), y13, y14, y15, y16, y17] [.inl (Int32.ofInt 1)] σ35 (w, σ') := h
                              replace h := ec_p h rfl rfl rfl rfl
                              obtain ⟨f, g, h⟩ := h
                              replace hf := Nat.lt_trans g hf
                              clear g
                              replace h : EC C f 18 ab_main 1085 [some (rf 98 (0)), some (rf 11 (0)), some (rf 13 (14)), some (rf 13 (15)), some (rf 13 (16)), some (rf 13 (17)), some (rf 14 (6)), some (.inl (Int32.ofInt 1)), some (.inl (u8)), y9, y10, some (.inl (u11)), some (.inl (u12)), y13, y14, y15, y16, y17] [] σ35 (w, σ') := h
                              replace h := ec_p h rfl rfl rfl rfl
                              obtain ⟨f, g, h⟩ := h
                              replace hf := Nat.lt_trans g hf
                              clear g
                              replace h : EC C f 18 ab_main 1088 [some (rf 98 (0)), some (rf 11 (0)), some (rf 13 (14)), some (rf 13 (15)), some (rf 13 (16)), some (rf 13 (17)), some (rf 14 (6)), some (.inl (Int32.ofInt 1)), some (.inl ((u8) + Int32.ofInt 1)), y9, y10, some (.inl (u11)), some (.inl (u12)), y13, y14, y15, y16, y17] [] σ35 (w, σ') := h
                              replace h := ec_p h rfl rfl rfl rfl
                              obtain ⟨f, g, h⟩ := h
                              replace hf := Nat.lt_trans g hf
                              clear g
                              replace h : EC C f 18 ab_main 162 [some (rf 98 (0)), some (rf 11 (0)), some (rf 13 (14)), some (rf 13 (15)), some (rf 13 (16)), some (rf 13 (17)), some (rf 14 (6)), some (.inl (Int32.ofInt 1)), some (.inl ((u8) + Int32.ofInt 1)), y9, y10, some (.inl (u11)), some (.inl (u12)), y13, y14, y15, y16, y17] [] σ35 (w, σ') := h
                              exact H162 f hf (Int32.ofInt 1) ((u8) + Int32.ofInt 1) y9 y10 (some (.inl (u11))) (some (.inl (u12))) y13 y14 y15 y16 y17 σ35 hsσ35 h
                        · skip
                          have p37 := x179 hsσ20 r36
                          cases e
                          exact Or.inr ⟨b, p37, rfl⟩
                  · skip
                    have p22 := x178 hsσ14 r21
                    cases e
                    exact Or.inr ⟨b, p22, rfl⟩
              · skip
                have p16 := x180 hsσ9 r15
                cases e
                exact Or.inr ⟨b, p16, rfl⟩
          · skip
            have p11 := x177 hsσ4 r10
            cases e
            exact Or.inr ⟨b, p11, rfl⟩
      · skip
        have p6 := x156 hsτ.1 r5
        cases e
        exact Or.inr ⟨b, gF_r r5 rfl hsτ, p6, rfl⟩
    · skip
      replace hp2 : ¬ ((u12).toInt ≠ (-2 : Int)) := (not_congr ic_ne).mp hp2
      refine Or.inr ⟨hp2, ?_⟩
      replace hf := Nat.lt_trans g hf
      clear g
      replace h : EC C f 18 ab_main 989 [some (rf 98 (0)), some (rf 11 (0)), some (rf 13 (14)), some (rf 13 (15)), some (rf 13 (16)), some (rf 13 (17)), some (rf 14 (6)), some (.inl (u7)), some (.inl (u8)), y9, y10, some (.inl (u11)), some (.inl (u12)), y13, y14, y15, y16, y17] [] τ (w, σ') := h
      replace h := ec_p h rfl rfl rfl rfl
      obtain ⟨f, g, h⟩ := h
      replace hf := Nat.lt_trans g hf
      clear g
      replace h : EC C f 18 ab_main 990 [some (rf 98 (0)), some (rf 11 (0)), some (rf 13 (14)), some (rf 13 (15)), some (rf 13 (16)), some (rf 13 (17)), some (rf 14 (6)), some (.inl (u7)), some (.inl (u8)), y9, y10, some (.inl (u11)), some (.inl (u12)), y13, y14, y15, y16, y17] [rf 11 (0)] τ (w, σ') := h
      replace h := ec_p h rfl rfl rfl rfl
      obtain ⟨f, g, h⟩ := h
      replace hf := Nat.lt_trans g hf
      clear g
      replace h : EC C f 18 ab_main 991 [some (rf 98 (0)), some (rf 11 (0)), some (rf 13 (14)), some (rf 13 (15)), some (rf 13 (16)), some (rf 13 (17)), some (rf 14 (6)), some (.inl (u7)), some (.inl (u8)), y9, y10, some (.inl (u11)), some (.inl (u12)), y13, y14, y15, y16, y17] [.inl (Int32.ofInt 0), rf 11 (0)] τ (w, σ') := h
      replace h := cx_I hC (ec_v (as := [.inl (Int32.ofInt 0)]) h rfl rfl rfl) rfl z155_at (Or.inl rfl)
      rcases h with ⟨v45, σ46, r47, f, g, h⟩ | ⟨b, σ46, r47, e⟩
      · skip
        replace hf := Nat.lt_trans g hf
        clear g
        have p48 := x155 hsτ.1 r47
        have hsσ46 : HL σ46 := HL_r2 rfl r47 rfl hsτ
        refine Or.inl ⟨v45, σ46, gF_r r47 rfl hsτ, r47, p48, ?_⟩
        replace h : EC C f 18 ab_main 994 [some (rf 98 (0)), some (rf 11 (0)), some (rf 13 (14)), some (rf 13 (15)), some (rf 13 (16)), some (rf 13 (17)), some (rf 14 (6)), some (.inl (u7)), some (.inl (u8)), y9, y10, some (.inl (u11)), some (.inl (u12)), y13, y14, y15, y16, y17] [.inl (v45)] σ46 (w, σ') := h
        replace h := ec_c h rfl rfl rfl
        rcases h with ⟨hp49, f, g, h⟩ | ⟨hp49, f, g, h⟩
        · skip
          replace hp49 : (v45).toInt < (0 : Int) := ic_lt.mp hp49
          refine Or.inl ⟨hp49, ?_⟩
          replace hf := Nat.lt_trans g hf
          clear g
          replace h : EC C f 18 ab_main 1082 [some (rf 98 (0)), some (rf 11 (0)), some (rf 13 (14)), some (rf 13 (15)), some (rf 13 (16)), some (rf 13 (17)), some (rf 14 (6)), some (.inl (u7)), some (.inl (u8)), y9, y10, some (.inl (u11)), some (.inl (u12)), y13, y14, y15, y16, y17] [] σ46 (w, σ') := h
          replace h := ec_p h rfl rfl rfl rfl
          obtain ⟨f, g, h⟩ := h
          replace hf := Nat.lt_trans g hf
          clear g
          replace h : EC C f 18 ab_main 1083 [some (rf 98 (0)), some (rf 11 (0)), some (rf 13 (14)), some (rf 13 (15)), some (rf 13 (16)), some (rf 13 (17)), some (rf 14 (6)), some (.inl (u7)), some (.inl (u8)), y9, y10, some (.inl (u11)), some (.inl (u12)), y13, y14, y15, y16, y17] [.inl (Int32.ofInt 0)] σ46 (w, σ') := h
          replace h := ec_p h rfl rfl rfl rfl
          obtain ⟨f, g, h⟩ := h
          replace hf := Nat.lt_trans g hf
          clear g
          replace h : EC C f 18 ab_main 1085 [some (rf 98 (0)), some (rf 11 (0)), some (rf 13 (14)), some (rf 13 (15)), some (rf 13 (16)), some (rf 13 (17)), some (rf 14 (6)), some (.inl (Int32.ofInt 0)), some (.inl (u8)), y9, y10, some (.inl (u11)), some (.inl (u12)), y13, y14, y15, y16, y17] [] σ46 (w, σ') := h
          replace h := ec_p h rfl rfl rfl rfl
          obtain ⟨f, g, h⟩ := h
          replace hf := Nat.lt_trans g hf
          clear g
          replace h : EC C f 18 ab_main 1088 [some (rf 98 (0)), some (rf 11 (0)), some (rf 13 (14)), some (rf 13 (15)), some (rf 13 (16)), some (rf 13 (17)), some (rf 14 (6)), some (.inl (Int32.ofInt 0)), some (.inl ((u8) + Int32.ofInt 1)), y9, y10, some (.inl (u11)), some (.inl (u12)), y13, y14, y15, y16, y17] [] σ46 (w, σ') := h
          replace h := ec_p h rfl rfl rfl rfl
          obtain ⟨f, g, h⟩ := h
          replace hf := Nat.lt_trans g hf
          clear g
          replace h : EC C f 18 ab_main 162 [some (rf 98 (0)), some (rf 11 (0)), some (rf 13 (14)), some (rf 13 (15)), some (rf 13 (16)), some (rf 13 (17)), some (rf 14 (6)), some (.inl (Int32.ofInt 0)), some (.inl ((u8) + Int32.ofInt 1)), y9, y10, some (.inl (u11)), some (.inl (u12)), y13, y14, y15, y16, y17] [] σ46 (w, σ') := h
          exact H162 f hf (Int32.ofInt 0) ((u8) + Int32.ofInt 1) y9 y10 (some (.inl (u11))) (some (.inl (u12))) y13 y14 y15 y16 y17 σ46 hsσ46 h
        · skip
          replace hp49 : ¬ ((v45).toInt < (0 : Int)) := (not_congr ic_lt).mp hp49
          refine Or.inr ⟨hp49, ?_⟩
          replace hf := Nat.lt_trans g hf
          clear g
          replace h : EC C f 18 ab_main 997 [some (rf 98 (0)), some (rf 11 (0)), some (rf 13 (14)), some (rf 13 (15)), some (rf 13 (16)), some (rf 13 (17)), some (rf 14 (6)), some (.inl (u7)), some (.inl (u8)), y9, y10, some (.inl (u11)), some (.inl (u12)), y13, y14, y15, y16, y17] [] σ46 (w, σ') := h
          replace h := ec_p h rfl rfl rfl rfl
          obtain ⟨f, g, h⟩ := h
          replace hf := Nat.lt_trans g hf
          clear g
          replace h : EC C f 18 ab_main 1008 [some (rf 98 (0)), some (rf 11 (0)), some (rf 13 (14)), some (rf 13 (15)), some (rf 13 (16)), some (rf 13 (17)), some (rf 14 (6)), some (.inl (u7)), some (.inl (u8)), y9, y10, some (.inl (u11)), some (.inl (u12)), y13, y14, y15, y16, y17] [] σ46 (w, σ') := h
          replace h := ec_p h rfl rfl rfl rfl
          obtain ⟨f, g, h⟩ := h
          replace hf := Nat.lt_trans g hf
          clear g
          replace h : EC C f 18 ab_main 1009 [some (rf 98 (0)), some (rf 11 (0)), some (rf 13 (14)), some (rf 13 (15)), some (rf 13 (16)), some (rf 13 (17)), some (rf 14 (6)), some (.inl (u7)), some (.inl (u8)), y9, y10, some (.inl (u11)), some (.inl (u12)), y13, y14, y15, y16, y17] [rf 11 (0)] σ46 (w, σ') := h
          replace h := ec_p h rfl rfl rfl rfl
          obtain ⟨f, g, h⟩ := h
          replace hf := Nat.lt_trans g hf
          clear g
          replace h : EC C f 18 ab_main 1011 [some (rf 98 (0)), some (rf 11 (0)), some (rf 13 (14)), some (rf 13 (15)), some (rf 13 (16)), some (rf 13 (17)), some (rf 14 (6)), some (.inl (u7)), some (.inl (u8)), y9, y10, some (.inl (u11)), some (.inl (u12)), y13, y14, y15, y16, y17] [rf 14 (6), rf 11 (0)] σ46 (w, σ') := h
          replace h := cx_I hC (ec_s (as := [rf 14 (6), rf 11 (0)]) h rfl (Nat.le_of_ble_eq_true rfl) rfl rfl) rfl z177_at (Or.inr rfl)
          rcases h with ⟨v50, σ51, r52, f, g, h⟩ | ⟨b, σ51, r52, e⟩
          · skip
            replace hf := Nat.lt_trans g hf
            clear g
            have p53 := x177 hsσ46 r52
            refine Or.inl ⟨v50, σ51, r52, p53, fun hsσ51 => ?_⟩
            replace h : EC C f 18 ab_main 1014 [some (rf 98 (0)), some (rf 11 (0)), some (rf 13 (14)), some (rf 13 (15)), some (rf 13 (16)), some (rf 13 (17)), some (rf 14 (6)), some (.inl (u7)), some (.inl (u8)), y9, y10, some (.inl (u11)), some (.inl (u12)), y13, y14, y15, y16, y17] [.inl (v50)] σ51 (w, σ') := h
            replace h := ec_c h rfl rfl rfl
            rcases h with ⟨hp54, f, g, h⟩ | ⟨hp54, f, g, h⟩
            · skip
              replace hp54 : (v50).toInt = (0 : Int) := ic_eq.mp hp54
              refine Or.inl ⟨hp54, ?_⟩
              replace hf := Nat.lt_trans g hf
              clear g
              replace h : EC C f 18 ab_main 1082 [some (rf 98 (0)), some (rf 11 (0)), some (rf 13 (14)), some (rf 13 (15)), some (rf 13 (16)), some (rf 13 (17)), some (rf 14 (6)), some (.inl (u7)), some (.inl (u8)), y9, y10, some (.inl (u11)), some (.inl (u12)), y13, y14, y15, y16, y17] [] σ51 (w, σ') := h
              replace h := ec_p h rfl rfl rfl rfl
              obtain ⟨f, g, h⟩ := h
              replace hf := Nat.lt_trans g hf
              clear g
              replace h : EC C f 18 ab_main 1083 [some (rf 98 (0)), some (rf 11 (0)), some (rf 13 (14)), some (rf 13 (15)), some (rf 13 (16)), some (rf 13 (17)), some (rf 14 (6)), some (.inl (u7)), some (.inl (u8)), y9, y10, some (.inl (u11)), some (.inl (u12)), y13, y14, y15, y16, y17] [.inl (Int32.ofInt 0)] σ51 (w, σ') := h
              replace h := ec_p h rfl rfl rfl rfl
              obtain ⟨f, g, h⟩ := h
              replace hf := Nat.lt_trans g hf
              clear g
              replace h : EC C f 18 ab_main 1085 [some (rf 98 (0)), some (rf 11 (0)), some (rf 13 (14)), some (rf 13 (15)), some (rf 13 (16)), some (rf 13 (17)), some (rf 14 (6)), some (.inl (Int32.ofInt 0)), some (.inl (u8)), y9, y10, some (.inl (u11)), some (.inl (u12)), y13, y14, y15, y16, y17] [] σ51 (w, σ') := h
              replace h := ec_p h rfl rfl rfl rfl
              obtain ⟨f, g, h⟩ := h
              replace hf := Nat.lt_trans g hf
              clear g
              replace h : EC C f 18 ab_main 1088 [some (rf 98 (0)), some (rf 11 (0)), some (rf 13 (14)), some (rf 13 (15)), some (rf 13 (16)), some (rf 13 (17)), some (rf 14 (6)), some (.inl (Int32.ofInt 0)), some (.inl ((u8) + Int32.ofInt 1)), y9, y10, some (.inl (u11)), some (.inl (u12)), y13, y14, y15, y16, y17] [] σ51 (w, σ') := h
              replace h := ec_p h rfl rfl rfl rfl
              obtain ⟨f, g, h⟩ := h
              replace hf := Nat.lt_trans g hf
              clear g
              replace h : EC C f 18 ab_main 162 [some (rf 98 (0)), some (rf 11 (0)), some (rf 13 (14)), some (rf 13 (15)), some (rf 13 (16)), some (rf 13 (17)), some (rf 14 (6)), some (.inl (Int32.ofInt 0)), some (.inl ((u8) + Int32.ofInt 1)), y9, y10, some (.inl (u11)), some (.inl (u12)), y13, y14, y15, y16, y17] [] σ51 (w, σ') := h
              exact H162 f hf (Int32.ofInt 0) ((u8) + Int32.ofInt 1) y9 y10 (some (.inl (u11))) (some (.inl (u12))) y13 y14 y15 y16 y17 σ51 hsσ51 h
            · skip
              replace hp54 : ¬ ((v50).toInt = (0 : Int)) := (not_congr ic_eq).mp hp54
              refine Or.inr ⟨hp54, ?_⟩
              replace hf := Nat.lt_trans g hf
              clear g
              replace h : EC C f 18 ab_main 1017 [some (rf 98 (0)), some (rf 11 (0)), some (rf 13 (14)), some (rf 13 (15)), some (rf 13 (16)), some (rf 13 (17)), some (rf 14 (6)), some (.inl (u7)), some (.inl (u8)), y9, y10, some (.inl (u11)), some (.inl (u12)), y13, y14, y15, y16, y17] [] σ51 (w, σ') := h
              replace h := ec_p h rfl rfl rfl rfl
              obtain ⟨f, g, h⟩ := h
              replace hf := Nat.lt_trans g hf
              clear g
              replace h : EC C f 18 ab_main 1018 [some (rf 98 (0)), some (rf 11 (0)), some (rf 13 (14)), some (rf 13 (15)), some (rf 13 (16)), some (rf 13 (17)), some (rf 14 (6)), some (.inl (u7)), some (.inl (u8)), y9, y10, some (.inl (u11)), some (.inl (u12)), y13, y14, y15, y16, y17] [rf 11 (0)] σ51 (w, σ') := h
              replace h := ec_p h rfl rfl rfl rfl
              obtain ⟨f, g, h⟩ := h
              replace hf := Nat.lt_trans g hf
              clear g
              replace h : EC C f 18 ab_main 1019 [some (rf 98 (0)), some (rf 11 (0)), some (rf 13 (14)), some (rf 13 (15)), some (rf 13 (16)), some (rf 13 (17)), some (rf 14 (6)), some (.inl (u7)), some (.inl (u8)), y9, y10, some (.inl (u11)), some (.inl (u12)), y13, y14, y15, y16, y17] [rf 13 (15), rf 11 (0)] σ51 (w, σ') := h
              replace h := ec_p h rfl rfl rfl rfl
              obtain ⟨f, g, h⟩ := h
              replace hf := Nat.lt_trans g hf
              clear g
              replace h : EC C f 18 ab_main 1021 [some (rf 98 (0)), some (rf 11 (0)), some (rf 13 (14)), some (rf 13 (15)), some (rf 13 (16)), some (rf 13 (17)), some (rf 14 (6)), some (.inl (u7)), some (.inl (u8)), y9, y10, some (.inl (u11)), some (.inl (u12)), y13, y14, y15, y16, y17] [rf 13 (17), rf 13 (15), rf 11 (0)] σ51 (w, σ') := h
              replace h := cx_I hC (ec_s (as := [rf 13 (17), rf 13 (15), rf 11 (0)]) h rfl (Nat.le_of_ble_eq_true rfl) rfl rfl) rfl z180_at (Or.inr rfl)
              rcases h with ⟨v55, σ56, r57, f, g, h⟩ | ⟨b, σ56, r57, e⟩
              · skip
                replace hf := Nat.lt_trans g hf
                clear g
                have p58 := x180 hsσ51 r57
                refine Or.inl ⟨v55, σ56, r57, p58, fun hsσ56 => ?_⟩
                replace h : EC C f 18 ab_main 1024 [some (rf 98 (0)), some (rf 11 (0)), some (rf 13 (14)), some (rf 13 (15)), some (rf 13 (16)), some (rf 13 (17)), some (rf 14 (6)), some (.inl (u7)), some (.inl (u8)), y9, y10, some (.inl (u11)), some (.inl (u12)), y13, y14, y15, y16, y17] [.inl (v55)] σ56 (w, σ') := h
                replace h := ec_c h rfl rfl rfl
                rcases h with ⟨hp59, f, g, h⟩ | ⟨hp59, f, g, h⟩
                · skip
                  replace hp59 : (v55).toInt = (0 : Int) := ic_eq.mp hp59
                  refine Or.inl ⟨hp59, ?_⟩
                  replace hf := Nat.lt_trans g hf
                  clear g
                  replace h : EC C f 18 ab_main 1082 [some (rf 98 (0)), some (rf 11 (0)), some (rf 13 (14)), some (rf 13 (15)), some (rf 13 (16)), some (rf 13 (17)), some (rf 14 (6)), some (.inl (u7)), some (.inl (u8)), y9, y10, some (.inl (u11)), some (.inl (u12)), y13, y14, y15, y16, y17] [] σ56 (w, σ') := h
                  replace h := ec_p h rfl rfl rfl rfl
                  obtain ⟨f, g, h⟩ := h
                  replace hf := Nat.lt_trans g hf
                  clear g
                  replace h : EC C f 18 ab_main 1083 [some (rf 98 (0)), some (rf 11 (0)), some (rf 13 (14)), some (rf 13 (15)), some (rf 13 (16)), some (rf 13 (17)), some (rf 14 (6)), some (.inl (u7)), some (.inl (u8)), y9, y10, some (.inl (u11)), some (.inl (u12)), y13, y14, y15, y16, y17] [.inl (Int32.ofInt 0)] σ56 (w, σ') := h
                  replace h := ec_p h rfl rfl rfl rfl
                  obtain ⟨f, g, h⟩ := h
                  replace hf := Nat.lt_trans g hf
                  clear g
                  replace h : EC C f 18 ab_main 1085 [some (rf 98 (0)), some (rf 11 (0)), some (rf 13 (14)), some (rf 13 (15)), some (rf 13 (16)), some (rf 13 (17)), some (rf 14 (6)), some (.inl (Int32.ofInt 0)), some (.inl (u8)), y9, y10, some (.inl (u11)), some (.inl (u12)), y13, y14, y15, y16, y17] [] σ56 (w, σ') := h
                  replace h := ec_p h rfl rfl rfl rfl
                  obtain ⟨f, g, h⟩ := h
                  replace hf := Nat.lt_trans g hf
                  clear g
                  replace h : EC C f 18 ab_main 1088 [some (rf 98 (0)), some (rf 11 (0)), some (rf 13 (14)), some (rf 13 (15)), some (rf 13 (16)), some (rf 13 (17)), some (rf 14 (6)), some (.inl (Int32.ofInt 0)), some (.inl ((u8) + Int32.ofInt 1)), y9, y10, some (.inl (u11)), some (.inl (u12)), y13, y14, y15, y16, y17] [] σ56 (w, σ') := h
                  replace h := ec_p h rfl rfl rfl rfl
                  obtain ⟨f, g, h⟩ := h
                  replace hf := Nat.lt_trans g hf
                  clear g
                  replace h : EC C f 18 ab_main 162 [some (rf 98 (0)), some (rf 11 (0)), some (rf 13 (14)), some (rf 13 (15)), some (rf 13 (16)), some (rf 13 (17)), some (rf 14 (6)), some (.inl (Int32.ofInt 0)), some (.inl ((u8) + Int32.ofInt 1)), y9, y10, some (.inl (u11)), some (.inl (u12)), y13, y14, y15, y16, y17] [] σ56 (w, σ') := h
                  exact H162 f hf (Int32.ofInt 0) ((u8) + Int32.ofInt 1) y9 y10 (some (.inl (u11))) (some (.inl (u12))) y13 y14 y15 y16 y17 σ56 hsσ56 h
                · skip
                  replace hp59 : ¬ ((v55).toInt = (0 : Int)) := (not_congr ic_eq).mp hp59
                  refine Or.inr ⟨hp59, ?_⟩
                  replace hf := Nat.lt_trans g hf
                  clear g
                  replace h : EC C f 18 ab_main 1027 [some (rf 98 (0)), some (rf 11 (0)), some (rf 13 (14)), some (rf 13 (15)), some (rf 13 (16)), some (rf 13 (17)), some (rf 14 (6)), some (.inl (u7)), some (.inl (u8)), y9, y10, some (.inl (u11)), some (.inl (u12)), y13, y14, y15, y16, y17] [] σ56 (w, σ') := h
                  replace h := ec_p h rfl rfl rfl rfl
                  obtain ⟨f, g, h⟩ := h
                  replace hf := Nat.lt_trans g hf
                  clear g
                  replace h : EC C f 18 ab_main 1028 [some (rf 98 (0)), some (rf 11 (0)), some (rf 13 (14)), some (rf 13 (15)), some (rf 13 (16)), some (rf 13 (17)), some (rf 14 (6)), some (.inl (u7)), some (.inl (u8)), y9, y10, some (.inl (u11)), some (.inl (u12)), y13, y14, y15, y16, y17] [rf 11 (0)] σ56 (w, σ') := h
                  replace h := ec_p h rfl rfl rfl rfl
                  obtain ⟨f, g, h⟩ := h
                  replace hf := Nat.lt_trans g hf
                  clear g
                  replace h : EC C f 18 ab_main 1030 [some (rf 98 (0)), some (rf 11 (0)), some (rf 13 (14)), some (rf 13 (15)), some (rf 13 (16)), some (rf 13 (17)), some (rf 14 (6)), some (.inl (u7)), some (.inl (u8)), y9, y10, some (.inl (u11)), some (.inl (u12)), y13, y14, y15, y16, y17] [rf 13 (16), rf 11 (0)] σ56 (w, σ') := h
                  replace h := ec_p h rfl rfl rfl rfl
                  obtain ⟨f, g, h⟩ := h
                  replace hf := Nat.lt_trans g hf
                  clear g
                  replace h : EC C f 18 ab_main 1032 [some (rf 98 (0)), some (rf 11 (0)), some (rf 13 (14)), some (rf 13 (15)), some (rf 13 (16)), some (rf 13 (17)), some (rf 14 (6)), some (.inl (u7)), some (.inl (u8)), y9, y10, some (.inl (u11)), some (.inl (u12)), y13, y14, y15, y16, y17] [rf 13 (17), rf 13 (16), rf 11 (0)] σ56 (w, σ') := h
                  replace h := ec_p h rfl rfl rfl rfl
                  obtain ⟨f, g, h⟩ := h
                  replace hf := Nat.lt_trans g hf
                  clear g
                  replace h : EC C f 18 ab_main 1034 [some (rf 98 (0)), some (rf 11 (0)), some (rf 13 (14)), some (rf 13 (15)), some (rf 13 (16)), some (rf 13 (17)), some (rf 14 (6)), some (.inl (u7)), some (.inl (u8)), y9, y10, some (.inl (u11)), some (.inl (u12)), y13, y14, y15, y16, y17] [.inl (u8), rf 13 (17), rf 13 (16), rf 11 (0)] σ56 (w, σ') := h
                  replace h := ec_p h rfl rfl rfl rfl
                  obtain ⟨f, g, h⟩ := h
                  replace hf := Nat.lt_trans g hf
                  clear g
                  replace h : EC C f 18 ab_main 1035 [some (rf 98 (0)), some (rf 11 (0)), some (rf 13 (14)), some (rf 13 (15)), some (rf 13 (16)), some (rf 13 (17)), some (rf 14 (6)), some (.inl (u7)), some (.inl (u8)), y9, y10, some (.inl (u11)), some (.inl (u12)), y13, y14, y15, y16, y17] [.inl (Int32.ofInt 5), .inl (u8), rf 13 (17), rf 13 (16), rf 11 (0)] σ56 (w, σ') := h
                  replace h := ec_irem h rfl
                  obtain ⟨hd60, f, g, h⟩ := h
                  replace hf := Nat.lt_trans g hf
                  clear g
                  replace h : EC C f 18 ab_main 1036 [some (rf 98 (0)), some (rf 11 (0)), some (rf 13 (14)), some (rf 13 (15)), some (rf 13 (16)), some (rf 13 (17)), some (rf 14 (6)), some (.inl (u7)), some (.inl (u8)), y9, y10, some (.inl (u11)), some (.inl (u12)), y13, y14, y15, y16, y17] [.inl ((u8) - (u8) / (Int32.ofInt 5) * (Int32.ofInt 5)), rf 13 (17), rf 13 (16), rf 11 (0)] σ56 (w, σ') := h
                  replace h := cx_I hC (ec_s (as := [.inl ((u8) - (u8) / (Int32.ofInt 5) * (Int32.ofInt 5)), rf 13 (17), rf 13 (16), rf 11 (0)]) h rfl (Nat.le_of_ble_eq_true rfl) rfl rfl) rfl z178_at (Or.inr rfl)
                  rcases h with ⟨v61, σ62, r63, f, g, h⟩ | ⟨b, σ62, r63, e⟩
                  · skip
                    replace hf := Nat.lt_trans g hf
                    clear g
                    have p64 := x178 hsσ56 r63
                    refine Or.inl ⟨v61, σ62, r63, p64, fun hsσ62 => ?_⟩
                    replace h : EC C f 18 ab_main 1039 [some (rf 98 (0)), some (rf 11 (0)), some (rf 13 (14)), some (rf 13 (15)), some (rf 13 (16)), some (rf 13 (17)), some (rf 14 (6)), some (.inl (u7)), some (.inl (u8)), y9, y10, some (.inl (u11)), some (.inl (u12)), y13, y14, y15, y16, y17] [.inl (v61)] σ62 (w, σ') := h
                    replace h := ec_c h rfl rfl rfl
                    rcases h with ⟨hp65, f, g, h⟩ | ⟨hp65, f, g, h⟩
                    · skip
                      replace hp65 : (v61).toInt = (0 : Int) := ic_eq.mp hp65
                      refine Or.inl ⟨hp65, ?_⟩
                      replace hf := Nat.lt_trans g hf
                      clear g
                      replace h : EC C f 18 ab_main 1082 [some (rf 98 (0)), some (rf 11 (0)), some (rf 13 (14)), some (rf 13 (15)), some (rf 13 (16)), some (rf 13 (17)), some (rf 14 (6)), some (.inl (u7)), some (.inl (u8)), y9, y10, some (.inl (u11)), some (.inl (u12)), y13, y14, y15, y16, y17] [] σ62 (w, σ') := h
                      replace h := ec_p h rfl rfl rfl rfl
                      obtain ⟨f, g, h⟩ := h
                      replace hf := Nat.lt_trans g hf
                      clear g
                      replace h : EC C f 18 ab_main 1083 [some (rf 98 (0)), some (rf 11 (0)), some (rf 13 (14)), some (rf 13 (15)), some (rf 13 (16)), some (rf 13 (17)), some (rf 14 (6)), some (.inl (u7)), some (.inl (u8)), y9, y10, some (.inl (u11)), some (.inl (u12)), y13, y14, y15, y16, y17] [.inl (Int32.ofInt 0)] σ62 (w, σ') := h
                      replace h := ec_p h rfl rfl rfl rfl
                      obtain ⟨f, g, h⟩ := h
                      replace hf := Nat.lt_trans g hf
                      clear g
                      replace h : EC C f 18 ab_main 1085 [some (rf 98 (0)), some (rf 11 (0)), some (rf 13 (14)), some (rf 13 (15)), some (rf 13 (16)), some (rf 13 (17)), some (rf 14 (6)), some (.inl (Int32.ofInt 0)), some (.inl (u8)), y9, y10, some (.inl (u11)), some (.inl (u12)), y13, y14, y15, y16, y17] [] σ62 (w, σ') := h
                      replace h := ec_p h rfl rfl rfl rfl
                      obtain ⟨f, g, h⟩ := h
                      replace hf := Nat.lt_trans g hf
                      clear g
                      replace h : EC C f 18 ab_main 1088 [some (rf 98 (0)), some (rf 11 (0)), some (rf 13 (14)), some (rf 13 (15)), some (rf 13 (16)), some (rf 13 (17)), some (rf 14 (6)), some (.inl (Int32.ofInt 0)), some (.inl ((u8) + Int32.ofInt 1)), y9, y10, some (.inl (u11)), some (.inl (u12)), y13, y14, y15, y16, y17] [] σ62 (w, σ') := h
                      replace h := ec_p h rfl rfl rfl rfl
                      obtain ⟨f, g, h⟩ := h
                      replace hf := Nat.lt_trans g hf
                      clear g
                      replace h : EC C f 18 ab_main 162 [some (rf 98 (0)), some (rf 11 (0)), some (rf 13 (14)), some (rf 13 (15)), some (rf 13 (16)), some (rf 13 (17)), some (rf 14 (6)), some (.inl (Int32.ofInt 0)), some (.inl ((u8) + Int32.ofInt 1)), y9, y10, some (.inl (u11)), some (.inl (u12)), y13, y14, y15, y16, y17] [] σ62 (w, σ') := h
                      exact H162 f hf (Int32.ofInt 0) ((u8) + Int32.ofInt 1) y9 y10 (some (.inl (u11))) (some (.inl (u12))) y13 y14 y15 y16 y17 σ62 hsσ62 h
                    · skip
                      replace hp65 : ¬ ((v61).toInt = (0 : Int)) := (not_congr ic_eq).mp hp65
                      refine Or.inr ⟨hp65, ?_⟩
                      replace hf := Nat.lt_trans g hf
                      clear g
                      replace h : EC C f 18 ab_main 1042 [some (rf 98 (0)), some (rf 11 (0)), some (rf 13 (14)), some (rf 13 (15)), some (rf 13 (16)), some (rf 13 (17)), some (rf 14 (6)), some (.inl (u7)), some (.inl (u8)), y9, y10, some (.inl (u11)), some (.inl (u12)), y13, y14, y15, y16, y17] [] σ62 (w, σ') := h
                      replace h := ec_p h rfl rfl rfl rfl
                      obtain ⟨f, g, h⟩ := h
                      replace hf := Nat.lt_trans g hf
                      clear g
                      replace h : EC C f 18 ab_main 1044 [some (rf 98 (0)), some (rf 11 (0)), some (rf 13 (14)), some (rf 13 (15)), some (rf 13 (16)), some (rf 13 (17)), some (rf 14 (6)), some (.inl (u7)), some (.inl (u8)), y9, y10, some (.inl (u11)), some (.inl (u12)), y13, y14, y15, y16, y17] [rf 13 (17)] σ62 (w, σ') := h
                      replace h := ec_p h rfl rfl rfl rfl
                      obtain ⟨f, g, h⟩ := h
                      replace hf := Nat.lt_trans g hf
                      clear g
                      replace h : EC C f 18 ab_main 1045 [some (rf 98 (0)), some (rf 11 (0)), some (rf 13 (14)), some (rf 13 (15)), some (rf 13 (16)), some (rf 13 (17)), some (rf 14 (6)), some (.inl (u7)), some (.inl (u8)), y9, y10, some (.inl (u11)), some (.inl (u12)), y13, y14, y15, y16, y17] [.inl (Int32.ofInt 0), rf 13 (17)] σ62 (w, σ') := h
                      replace h := ec_iald h rfl (fun _ => rfl)
                      obtain ⟨vp66, f, g, h⟩ := h
                      replace hf := Nat.lt_trans g hf
                      clear g
                      replace h : EC C f 18 ab_main 1046 [some (rf 98 (0)), some (rf 11 (0)), some (rf 13 (14)), some (rf 13 (15)), some (rf 13 (16)), some (rf 13 (17)), some (rf 14 (6)), some (.inl (u7)), some (.inl (u8)), y9, y10, some (.inl (u11)), some (.inl (u12)), y13, y14, y15, y16, y17] [.inl (m_i σ62 13 (17) (Int32.ofInt 0).toNatClampNeg)] σ62 (w, σ') := h
                      refine ⟨vp_2 vp66, ?_⟩
                      replace h := ec_c h rfl rfl rfl
                      rcases h with ⟨hp67, f, g, h⟩ | ⟨hp67, f, g, h⟩
                      · skip
                        replace hp67 : (m_i σ62 13 (17) (Int32.ofInt 0).toNatClampNeg).toInt = (0 : Int) := ic_eq.mp hp67
                        refine Or.inl ⟨hp67, ?_⟩
                        replace hf := Nat.lt_trans g hf
                        clear g
                        replace h : EC C f 18 ab_main 1067 [some (rf 98 (0)), some (rf 11 (0)), some (rf 13 (14)), some (rf 13 (15)), some (rf 13 (16)), some (rf 13 (17)), some (rf 14 (6)), some (.inl (u7)), some (.inl (u8)), y9, y10, some (.inl (u11)), some (.inl (u12)), y13, y14, y15, y16, y17] [] σ62 (w, σ') := h
                        replace h := ec_p h rfl rfl rfl rfl
                        obtain ⟨f, g, h⟩ := h
                        replace hf := Nat.lt_trans g hf
                        clear g
                        replace h : EC C f 18 ab_main 1068 [some (rf 98 (0)), some (rf 11 (0)), some (rf 13 (14)), some (rf 13 (15)), some (rf 13 (16)), some (rf 13 (17)), some (rf 14 (6)), some (.inl (u7)), some (.inl (u8)), y9, y10, some (.inl (u11)), some (.inl (u12)), y13, y14, y15, y16, y17] [rf 11 (0)] σ62 (w, σ') := h
                        replace h := cx_I hC (ec_v (as := []) h rfl rfl rfl) rfl z141_at (Or.inl rfl)
                        rcases h with ⟨v68, σ69, r70, f, g, h⟩ | ⟨b, σ69, r70, e⟩
                        rotate_left
                        · obtain ⟨_, z⟩ := nt_run rfl r70
                          cases z
                        replace hf := Nat.lt_trans g hf
                        clear g
                        have er70 := ro2_run rfl r70
                        rw [er70] at h r70
                        have p71 := x141 hsσ62.1 r70
                        refine ⟨v68, p71, ?_⟩
                        replace h : EC C f 18 ab_main 1071 [some (rf 98 (0)), some (rf 11 (0)), some (rf 13 (14)), some (rf 13 (15)), some (rf 13 (16)), some (rf 13 (17)), some (rf 14 (6)), some (.inl (u7)), some (.inl (u8)), y9, y10, some (.inl (u11)), some (.inl (u12)), y13, y14, y15, y16, y17] [.inl (v68)] σ62 (w, σ') := h
                        replace h := ec_p h rfl rfl rfl rfl
                        obtain ⟨f, g, h⟩ := h
                        replace hf := Nat.lt_trans g hf
                        clear g
                        replace h : EC C f 18 ab_main 1073 [some (rf 98 (0)), some (rf 11 (0)), some (rf 13 (14)), some (rf 13 (15)), some (rf 13 (16)), some (rf 13 (17)), some (rf 14 (6)), some (.inl (u7)), some (.inl (u8)), y9, y10, some (.inl (u11)), some (.inl (u12)), y13, y14, y15, y16, y17] [rf 13 (17), .inl (v68)] σ62 (w, σ') := h
                        replace h := ec_p h rfl rfl rfl rfl
                        obtain ⟨f, g, h⟩ := h
                        replace hf := Nat.lt_trans g hf
                        clear g
                        replace h : EC C f 18 ab_main 1074 [some (rf 98 (0)), some (rf 11 (0)), some (rf 13 (14)), some (rf 13 (15)), some (rf 13 (16)), some (rf 13 (17)), some (rf 14 (6)), some (.inl (u7)), some (.inl (u8)), y9, y10, some (.inl (u11)), some (.inl (u12)), y13, y14, y15, y16, y17] [.inl (Int32.ofInt 3), rf 13 (17), .inl (v68)] σ62 (w, σ') := h
                        replace h := ec_iald h rfl (fun _ => rfl)
                        obtain ⟨vp72, f, g, h⟩ := h
                        replace hf := Nat.lt_trans g hf
                        clear g
                        replace h : EC C f 18 ab_main 1075 [some (rf 98 (0)), some (rf 11 (0)), some (rf 13 (14)), some (rf 13 (15)), some (rf 13 (16)), some (rf 13 (17)), some (rf 14 (6)), some (.inl (u7)), some (.inl (u8)), y9, y10, some (.inl (u11)), some (.inl (u12)), y13, y14, y15, y16, y17] [.inl (m_i σ62 13 (17) (Int32.ofInt 3).toNatClampNeg), .inl (v68)] σ62 (w, σ') := h
                        refine ⟨vp_2 vp72, ?_⟩
                        replace h := ec_c h rfl rfl rfl
                        rcases h with ⟨hp73, f, g, h⟩ | ⟨hp73, f, g, h⟩
                        · skip
                          replace hp73 : (v68).toInt ≠ (m_i σ62 13 (17) (Int32.ofInt 3).toNatClampNeg).toInt := ic_ne.mp hp73
                          refine Or.inl ⟨hp73, ?_⟩
                          replace hf := Nat.lt_trans g hf
                          clear g
                          replace h : EC C f 18 ab_main 1082 [some (rf 98 (0)), some (rf 11 (0)), some (rf 13 (14)), some (rf 13 (15)), some (rf 13 (16)), some (rf 13 (17)), some (rf 14 (6)), some (.inl (u7)), some (.inl (u8)), y9, y10, some (.inl (u11)), some (.inl (u12)), y13, y14, y15, y16, y17] [] σ62 (w, σ') := h
                          replace h := ec_p h rfl rfl rfl rfl
                          obtain ⟨f, g, h⟩ := h
                          replace hf := Nat.lt_trans g hf
                          clear g
                          replace h : EC C f 18 ab_main 1083 [some (rf 98 (0)), some (rf 11 (0)), some (rf 13 (14)), some (rf 13 (15)), some (rf 13 (16)), some (rf 13 (17)), some (rf 14 (6)), some (.inl (u7)), some (.inl (u8)), y9, y10, some (.inl (u11)), some (.inl (u12)), y13, y14, y15, y16, y17] [.inl (Int32.ofInt 0)] σ62 (w, σ') := h
                          replace h := ec_p h rfl rfl rfl rfl
                          obtain ⟨f, g, h⟩ := h
                          replace hf := Nat.lt_trans g hf
                          clear g
                          replace h : EC C f 18 ab_main 1085 [some (rf 98 (0)), some (rf 11 (0)), some (rf 13 (14)), some (rf 13 (15)), some (rf 13 (16)), some (rf 13 (17)), some (rf 14 (6)), some (.inl (Int32.ofInt 0)), some (.inl (u8)), y9, y10, some (.inl (u11)), some (.inl (u12)), y13, y14, y15, y16, y17] [] σ62 (w, σ') := h
                          replace h := ec_p h rfl rfl rfl rfl
                          obtain ⟨f, g, h⟩ := h
                          replace hf := Nat.lt_trans g hf
                          clear g
                          replace h : EC C f 18 ab_main 1088 [some (rf 98 (0)), some (rf 11 (0)), some (rf 13 (14)), some (rf 13 (15)), some (rf 13 (16)), some (rf 13 (17)), some (rf 14 (6)), some (.inl (Int32.ofInt 0)), some (.inl ((u8) + Int32.ofInt 1)), y9, y10, some (.inl (u11)), some (.inl (u12)), y13, y14, y15, y16, y17] [] σ62 (w, σ') := h
                          replace h := ec_p h rfl rfl rfl rfl
                          obtain ⟨f, g, h⟩ := h
                          replace hf := Nat.lt_trans g hf
                          clear g
                          replace h : EC C f 18 ab_main 162 [some (rf 98 (0)), some (rf 11 (0)), some (rf 13 (14)), some (rf 13 (15)), some (rf 13 (16)), some (rf 13 (17)), some (rf 14 (6)), some (.inl (Int32.ofInt 0)), some (.inl ((u8) + Int32.ofInt 1)), y9, y10, some (.inl (u11)), some (.inl (u12)), y13, y14, y15, y16, y17] [] σ62 (w, σ') := h
                          exact H162 f hf (Int32.ofInt 0) ((u8) + Int32.ofInt 1) y9 y10 (some (.inl (u11))) (some (.inl (u12))) y13 y14 y15 y16 y17 σ62 hsσ62 h
                        · skip
                          replace hp73 : ¬ ((v68).toInt ≠ (m_i σ62 13 (17) (Int32.ofInt 3).toNatClampNeg).toInt) := (not_congr ic_ne).mp hp73
                          refine Or.inr ⟨hp73, ?_⟩
                          replace hf := Nat.lt_trans g hf
                          clear g
                          replace h : EC C f 18 ab_main 1078 [some (rf 98 (0)), some (rf 11 (0)), some (rf 13 (14)), some (rf 13 (15)), some (rf 13 (16)), some (rf 13 (17)), some (rf 14 (6)), some (.inl (u7)), some (.inl (u8)), y9, y10, some (.inl (u11)), some (.inl (u12)), y13, y14, y15, y16, y17] [] σ62 (w, σ') := h
                          replace h := ec_p h rfl rfl rfl rfl
                          obtain ⟨f, g, h⟩ := h
                          replace hf := Nat.lt_trans g hf
                          clear g
                          replace h : EC C f 18 ab_main 1079 [some (rf 98 (0)), some (rf 11 (0)), some (rf 13 (14)), some (rf 13 (15)), some (rf 13 (16)), some (rf 13 (17)), some (rf 14 (6)), some (.inl (u7)), some (.inl (u8)), y9, y10, some (.inl (u11)), some (.inl (u12)), y13, y14, y15, y16, y17] [.inl (Int32.ofInt 1)] σ62 (w, σ') := h
                          replace h := ec_p h rfl rfl rfl rfl
                          obtain ⟨f, g, h⟩ := h
                          replace hf := Nat.lt_trans g hf
                          clear g
                          replace h : EC C f 18 ab_main 1083 [some (rf 98 (0)), some (rf 11 (0)), some (rf 13 (14)), some (rf 13 (15)), some (rf 13 (16)), some (rf 13 (17)), some (rf 14 (6)), some (.inl (u7)), some (.inl (u8)), y9, y10, some (.inl (u11)), some (.inl (u12)), y13, y14, y15, y16, y17] [.inl (Int32.ofInt 1)] σ62 (w, σ') := h
                          replace h := ec_p h rfl rfl rfl rfl
                          obtain ⟨f, g, h⟩ := h
                          replace hf := Nat.lt_trans g hf
                          clear g
                          replace h : EC C f 18 ab_main 1085 [some (rf 98 (0)), some (rf 11 (0)), some (rf 13 (14)), some (rf 13 (15)), some (rf 13 (16)), some (rf 13 (17)), some (rf 14 (6)), some (.inl (Int32.ofInt 1)), some (.inl (u8)), y9, y10, some (.inl (u11)), some (.inl (u12)), y13, y14, y15, y16, y17] [] σ62 (w, σ') := h
                          replace h := ec_p h rfl rfl rfl rfl
                          obtain ⟨f, g, h⟩ := h
                          replace hf := Nat.lt_trans g hf
                          clear g
                          replace h : EC C f 18 ab_main 1088 [some (rf 98 (0)), some (rf 11 (0)), some (rf 13 (14)), some (rf 13 (15)), some (rf 13 (16)), some (rf 13 (17)), some (rf 14 (6)), some (.inl (Int32.ofInt 1)), some (.inl ((u8) + Int32.ofInt 1)), y9, y10, some (.inl (u11)), some (.inl (u12)), y13, y14, y15, y16, y17] [] σ62 (w, σ') := h
                          replace h := ec_p h rfl rfl rfl rfl
                          obtain ⟨f, g, h⟩ := h
                          replace hf := Nat.lt_trans g hf
                          clear g
                          replace h : EC C f 18 ab_main 162 [some (rf 98 (0)), some (rf 11 (0)), some (rf 13 (14)), some (rf 13 (15)), some (rf 13 (16)), some (rf 13 (17)), some (rf 14 (6)), some (.inl (Int32.ofInt 1)), some (.inl ((u8) + Int32.ofInt 1)), y9, y10, some (.inl (u11)), some (.inl (u12)), y13, y14, y15, y16, y17] [] σ62 (w, σ') := h
                          exact H162 f hf (Int32.ofInt 1) ((u8) + Int32.ofInt 1) y9 y10 (some (.inl (u11))) (some (.inl (u12))) y13 y14 y15 y16 y17 σ62 hsσ62 h
                      · skip
                        replace hp67 : ¬ ((m_i σ62 13 (17) (Int32.ofInt 0).toNatClampNeg).toInt = (0 : Int)) := (not_congr ic_eq).mp hp67
                        refine Or.inr ⟨hp67, ?_⟩
                        replace hf := Nat.lt_trans g hf
                        clear g
                        replace h : EC C f 18 ab_main 1049 [some (rf 98 (0)), some (rf 11 (0)), some (rf 13 (14)), some (rf 13 (15)), some (rf 13 (16)), some (rf 13 (17)), some (rf 14 (6)), some (.inl (u7)), some (.inl (u8)), y9, y10, some (.inl (u11)), some (.inl (u12)), y13, y14, y15, y16, y17] [] σ62 (w, σ') := h
                        replace h := ec_p h rfl rfl rfl rfl
                        obtain ⟨f, g, h⟩ := h
                        replace hf := Nat.lt_trans g hf
                        clear g
                        replace h : EC C f 18 ab_main 1050 [some (rf 98 (0)), some (rf 11 (0)), some (rf 13 (14)), some (rf 13 (15)), some (rf 13 (16)), some (rf 13 (17)), some (rf 14 (6)), some (.inl (u7)), some (.inl (u8)), y9, y10, some (.inl (u11)), some (.inl (u12)), y13, y14, y15, y16, y17] [rf 11 (0)] σ62 (w, σ') := h
                        replace h := ec_p h rfl rfl rfl rfl
                        obtain ⟨f, g, h⟩ := h
                        replace hf := Nat.lt_trans g hf
                        clear g
                        replace h : EC C f 18 ab_main 1051 [some (rf 98 (0)), some (rf 11 (0)), some (rf 13 (14)), some (rf 13 (15)), some (rf 13 (16)), some (rf 13 (17)), some (rf 14 (6)), some (.inl (u7)), some (.inl (u8)), y9, y10, some (.inl (u11)), some (.inl (u12)), y13, y14, y15, y16, y17] [rf 13 (14), rf 11 (0)] σ62 (w, σ') := h
                        replace h := ec_p h rfl rfl rfl rfl
                        obtain ⟨f, g, h⟩ := h
                        replace hf := Nat.lt_trans g hf
                        clear g
                        replace h : EC C f 18 ab_main 1052 [some (rf 98 (0)), some (rf 11 (0)), some (rf 13 (14)), some (rf 13 (15)), some (rf 13 (16)), some (rf 13 (17)), some (rf 14 (6)), some (.inl (u7)), some (.inl (u8)), y9, y10, some (.inl (u11)), some (.inl (u12)), y13, y14, y15, y16, y17] [rf 13 (15), rf 13 (14), rf 11 (0)] σ62 (w, σ') := h
                        replace h := ec_p h rfl rfl rfl rfl
                        obtain ⟨f, g, h⟩ := h
                        replace hf := Nat.lt_trans g hf
                        clear g
                        replace h : EC C f 18 ab_main 1054 [some (rf 98 (0)), some (rf 11 (0)), some (rf 13 (14)), some (rf 13 (15)), some (rf 13 (16)), some (rf 13 (17)), some (rf 14 (6)), some (.inl (u7)), some (.inl (u8)), y9, y10, some (.inl (u11)), some (.inl (u12)), y13, y14, y15, y16, y17] [rf 13 (17), rf 13 (15), rf 13 (14), rf 11 (0)] σ62 (w, σ') := h
                        replace h := ec_p h rfl rfl rfl rfl
                        obtain ⟨f, g, h⟩ := h
                        replace hf := Nat.lt_trans g hf
                        clear g
                        replace h : EC C f 18 ab_main 1056 [some (rf 98 (0)), some (rf 11 (0)), some (rf 13 (14)), some (rf 13 (15)), some (rf 13 (16)), some (rf 13 (17)), some (rf 14 (6)), some (.inl (u7)), some (.inl (u8)), y9, y10, some (.inl (u11)), some (.inl (u12)), y13, y14, y15, y16, y17] [.inl (u11), rf 13 (17), rf 13 (15), rf 13 (14), rf 11 (0)] σ62 (w, σ') := h
                        replace h := ec_p h rfl rfl rfl rfl
                        obtain ⟨f, g, h⟩ := h
                        replace hf := Nat.lt_trans g hf
                        clear g
                        replace h : EC C f 18 ab_main 1058 [some (rf 98 (0)), some (rf 11 (0)), some (rf 13 (14)), some (rf 13 (15)), some (rf 13 (16)), some (rf 13 (17)), some (rf 14 (6)), some (.inl (u7)), some (.inl (u8)), y9, y10, some (.inl (u11)), some (.inl (u12)), y13, y14, y15, y16, y17] [rf 13 (17), .inl (u11), rf 13 (17), rf 13 (15), rf 13 (14), rf 11 (0)] σ62 (w, σ') := h
                        replace h := ec_p h rfl rfl rfl rfl
                        obtain ⟨f, g, h⟩ := h
                        replace hf := Nat.lt_trans g hf
                        clear g
                        replace h : EC C f 18 ab_main 1059 [some (rf 98 (0)), some (rf 11 (0)), some (rf 13 (14)), some (rf 13 (15)), some (rf 13 (16)), some (rf 13 (17)), some (rf 14 (6)), some (.inl (u7)), some (.inl (u8)), y9, y10, some (.inl (u11)), some (.inl (u12)), y13, y14, y15, y16, y17] [.inl (Int32.ofInt 0), rf 13 (17), .inl (u11), rf 13 (17), rf 13 (15), rf 13 (14), rf 11 (0)] σ62 (w, σ') := h
                        replace h := ec_iald h rfl (fun _ => rfl)
                        obtain ⟨vp74, f, g, h⟩ := h
                        replace hf := Nat.lt_trans g hf
                        clear g
                        replace h : EC C f 18 ab_main 1060 [some (rf 98 (0)), some (rf 11 (0)), some (rf 13 (14)), some (rf 13 (15)), some (rf 13 (16)), some (rf 13 (17)), some (rf 14 (6)), some (.inl (u7)), some (.inl (u8)), y9, y10, some (.inl (u11)), some (.inl (u12)), y13, y14, y15, y16, y17] [.inl (m_i σ62 13 (17) (Int32.ofInt 0).toNatClampNeg), .inl (u11), rf 13 (17), rf 13 (15), rf 13 (14), rf 11 (0)] σ62 (w, σ') := h
                        refine ⟨vp_2 vp74, ?_⟩
                        replace h := ec_irem h rfl
                        obtain ⟨hd75, f, g, h⟩ := h
                        replace hf := Nat.lt_trans g hf
                        clear g
                        replace h : EC C f 18 ab_main 1061 [some (rf 98 (0)), some (rf 11 (0)), some (rf 13 (14)), some (rf 13 (15)), some (rf 13 (16)), some (rf 13 (17)), some (rf 14 (6)), some (.inl (u7)), some (.inl (u8)), y9, y10, some (.inl (u11)), some (.inl (u12)), y13, y14, y15, y16, y17] [.inl ((u11) - (u11) / (m_i σ62 13 (17) (Int32.ofInt 0).toNatClampNeg) * (m_i σ62 13 (17) (Int32.ofInt 0).toNatClampNeg)), rf 13 (17), rf 13 (15), rf 13 (14), rf 11 (0)] σ62 (w, σ') := h
                        replace h := cx_I hC (ec_s (as := [.inl ((u11) - (u11) / (m_i σ62 13 (17) (Int32.ofInt 0).toNatClampNeg) * (m_i σ62 13 (17) (Int32.ofInt 0).toNatClampNeg)), rf 13 (17), rf 13 (15), rf 13 (14), rf 11 (0)]) h rfl (Nat.le_of_ble_eq_true rfl) rfl rfl) rfl z179_at (Or.inr rfl)
                        rcases h with ⟨v76, σ77, r78, f, g, h⟩ | ⟨b, σ77, r78, e⟩
                        · skip
                          replace hf := Nat.lt_trans g hf
                          clear g
                          have p79 := x179 hsσ62 r78
                          refine Or.inl ⟨v76, σ77, r78, p79, fun hsσ77 => ?_⟩
                          replace h : EC C f 18 ab_main 1064 [some (rf 98 (0)), some (rf 11 (0)), some (rf 13 (14)), some (rf 13 (15)), some (rf 13 (16)), some (rf 13 (17)), some (rf 14 (6)), some (.inl (u7)), some (.inl (u8)), y9, y10, some (.inl (u11)), some (.inl (u12)), y13, y14, y15, y16, y17] [.inl (v76)] σ77 (w, σ') := h
                          replace h := ec_c h rfl rfl rfl
                          rcases h with ⟨hp80, f, g, h⟩ | ⟨hp80, f, g, h⟩
                          · skip
                            replace hp80 : (v76).toInt = (0 : Int) := ic_eq.mp hp80
                            refine Or.inl ⟨hp80, ?_⟩
                            replace hf := Nat.lt_trans g hf
                            clear g
                            replace h : EC C f 18 ab_main 1082 [some (rf 98 (0)), some (rf 11 (0)), some (rf 13 (14)), some (rf 13 (15)), some (rf 13 (16)), some (rf 13 (17)), some (rf 14 (6)), some (.inl (u7)), some (.inl (u8)), y9, y10, some (.inl (u11)), some (.inl (u12)), y13, y14, y15, y16, y17] [] σ77 (w, σ') := h
                            replace h := ec_p h rfl rfl rfl rfl
                            obtain ⟨f, g, h⟩ := h
                            replace hf := Nat.lt_trans g hf
                            clear g
                            replace h : EC C f 18 ab_main 1083 [some (rf 98 (0)), some (rf 11 (0)), some (rf 13 (14)), some (rf 13 (15)), some (rf 13 (16)), some (rf 13 (17)), some (rf 14 (6)), some (.inl (u7)), some (.inl (u8)), y9, y10, some (.inl (u11)), some (.inl (u12)), y13, y14, y15, y16, y17] [.inl (Int32.ofInt 0)] σ77 (w, σ') := h
                            replace h := ec_p h rfl rfl rfl rfl
                            obtain ⟨f, g, h⟩ := h
                            replace hf := Nat.lt_trans g hf
                            clear g
                            replace h : EC C f 18 ab_main 1085 [some (rf 98 (0)), some (rf 11 (0)), some (rf 13 (14)), some (rf 13 (15)), some (rf 13 (16)), some (rf 13 (17)), some (rf 14 (6)), some (.inl (Int32.ofInt 0)), some (.inl (u8)), y9, y10, some (.inl (u11)), some (.inl (u12)), y13, y14, y15, y16, y17] [] σ77 (w, σ') := h
                            replace h := ec_p h rfl rfl rfl rfl
                            obtain ⟨f, g, h⟩ := h
                            replace hf := Nat.lt_trans g hf
                            clear g
                            replace h : EC C f 18 ab_main 1088 [some (rf 98 (0)), some (rf 11 (0)), some (rf 13 (14)), some (rf 13 (15)), some (rf 13 (16)), some (rf 13 (17)), some (rf 14 (6)), some (.inl (Int32.ofInt 0)), some (.inl ((u8) + Int32.ofInt 1)), y9, y10, some (.inl (u11)), some (.inl (u12)), y13, y14, y15, y16, y17] [] σ77 (w, σ') := h
                            replace h := ec_p h rfl rfl rfl rfl
                            obtain ⟨f, g, h⟩ := h
                            replace hf := Nat.lt_trans g hf
                            clear g
                            replace h : EC C f 18 ab_main 162 [some (rf 98 (0)), some (rf 11 (0)), some (rf 13 (14)), some (rf 13 (15)), some (rf 13 (16)), some (rf 13 (17)), some (rf 14 (6)), some (.inl (Int32.ofInt 0)), some (.inl ((u8) + Int32.ofInt 1)), y9, y10, some (.inl (u11)), some (.inl (u12)), y13, y14, y15, y16, y17] [] σ77 (w, σ') := h
                            exact H162 f hf (Int32.ofInt 0) ((u8) + Int32.ofInt 1) y9 y10 (some (.inl (u11))) (some (.inl (u12))) y13 y14 y15 y16 y17 σ77 hsσ77 h
                          · skip
                            replace hp80 : ¬ ((v76).toInt = (0 : Int)) := (not_congr ic_eq).mp hp80
                            refine Or.inr ⟨hp80, ?_⟩
                            replace hf := Nat.lt_trans g hf
                            clear g
                            replace h : EC C f 18 ab_main 1067 [some (rf 98 (0)), some (rf 11 (0)), some (rf 13 (14)), some (rf 13 (15)), some (rf 13 (16)), some (rf 13 (17)), some (rf 14 (6)), some (.inl (u7)), some (.inl (u8)), y9, y10, some (.inl (u11)), some (.inl (u12)), y13, y14, y15, y16, y17] [] σ77 (w, σ') := h
                            replace h := ec_p h rfl rfl rfl rfl
                            obtain ⟨f, g, h⟩ := h
                            replace hf := Nat.lt_trans g hf
                            clear g
                            replace h : EC C f 18 ab_main 1068 [some (rf 98 (0)), some (rf 11 (0)), some (rf 13 (14)), some (rf 13 (15)), some (rf 13 (16)), some (rf 13 (17)), some (rf 14 (6)), some (.inl (u7)), some (.inl (u8)), y9, y10, some (.inl (u11)), some (.inl (u12)), y13, y14, y15, y16, y17] [rf 11 (0)] σ77 (w, σ') := h
                            replace h := cx_I hC (ec_v (as := []) h rfl rfl rfl) rfl z141_at (Or.inl rfl)
                            rcases h with ⟨v81, σ82, r83, f, g, h⟩ | ⟨b, σ82, r83, e⟩
                            rotate_left
                            · obtain ⟨_, z⟩ := nt_run rfl r83
                              cases z
                            replace hf := Nat.lt_trans g hf
                            clear g
                            have er83 := ro2_run rfl r83
                            rw [er83] at h r83
                            have p84 := x141 hsσ77.1 r83
                            refine ⟨v81, p84, ?_⟩
                            replace h : EC C f 18 ab_main 1071 [some (rf 98 (0)), some (rf 11 (0)), some (rf 13 (14)), some (rf 13 (15)), some (rf 13 (16)), some (rf 13 (17)), some (rf 14 (6)), some (.inl (u7)), some (.inl (u8)), y9, y10, some (.inl (u11)), some (.inl (u12)), y13, y14, y15, y16, y17] [.inl (v81)] σ77 (w, σ') := h
                            replace h := ec_p h rfl rfl rfl rfl
                            obtain ⟨f, g, h⟩ := h
                            replace hf := Nat.lt_trans g hf
                            clear g
                            replace h : EC C f 18 ab_main 1073 [some (rf 98 (0)), some (rf 11 (0)), some (rf 13 (14)), some (rf 13 (15)), some (rf 13 (16)), some (rf 13 (17)), some (rf 14 (6)), some (.inl (u7)), some (.inl (u8)), y9, y10, some (.inl (u11)), some (.inl (u12)), y13, y14, y15, y16, y17] [rf 13 (17), .inl (v81)] σ77 (w, σ') := h
                            replace h := ec_p h rfl rfl rfl rfl
                            obtain ⟨f, g, h⟩ := h
                            replace hf := Nat.lt_trans g hf
                            clear g
                            replace h : EC C f 18 ab_main 1074 [some (rf 98 (0)), some (rf 11 (0)), some (rf 13 (14)), some (rf 13 (15)), some (rf 13 (16)), some (rf 13 (17)), some (rf 14 (6)), some (.inl (u7)), some (.inl (u8)), y9, y10, some (.inl (u11)), some (.inl (u12)), y13, y14, y15, y16, y17] [.inl (Int32.ofInt 3), rf 13 (17), .inl (v81)] σ77 (w, σ') := h
                            replace h := ec_iald h rfl (fun _ => rfl)
                            obtain ⟨vp85, f, g, h⟩ := h
                            replace hf := Nat.lt_trans g hf
                            clear g
                            replace h : EC C f 18 ab_main 1075 [some (rf 98 (0)), some (rf 11 (0)), some (rf 13 (14)), some (rf 13 (15)), some (rf 13 (16)), some (rf 13 (17)), some (rf 14 (6)), some (.inl (u7)), some (.inl (u8)), y9, y10, some (.inl (u11)), some (.inl (u12)), y13, y14, y15, y16, y17] [.inl (m_i σ77 13 (17) (Int32.ofInt 3).toNatClampNeg), .inl (v81)] σ77 (w, σ') := h
                            refine ⟨vp_2 vp85, ?_⟩
                            replace h := ec_c h rfl rfl rfl
                            rcases h with ⟨hp86, f, g, h⟩ | ⟨hp86, f, g, h⟩
                            · skip
                              replace hp86 : (v81).toInt ≠ (m_i σ77 13 (17) (Int32.ofInt 3).toNatClampNeg).toInt := ic_ne.mp hp86
                              refine Or.inl ⟨hp86, ?_⟩
                              replace hf := Nat.lt_trans g hf
                              clear g
                              replace h : EC C f 18 ab_main 1082 [some (rf 98 (0)), some (rf 11 (0)), some (rf 13 (14)), some (rf 13 (15)), some (rf 13 (16)), some (rf 13 (17)), some (rf 14 (6)), some (.inl (u7)), some (.inl (u8)), y9, y10, some (.inl (u11)), some (.inl (u12)), y13, y14, y15, y16, y17] [] σ77 (w, σ') := h
                              replace h := ec_p h rfl rfl rfl rfl
                              obtain ⟨f, g, h⟩ := h
                              replace hf := Nat.lt_trans g hf
                              clear g
                              replace h : EC C f 18 ab_main 1083 [some (rf 98 (0)), some (rf 11 (0)), some (rf 13 (14)), some (rf 13 (15)), some (rf 13 (16)), some (rf 13 (17)), some (rf 14 (6)), some (.inl (u7)), some (.inl (u8)), y9, y10, some (.inl (u11)), some (.inl (u12)), y13, y14, y15, y16, y17] [.inl (Int32.ofInt 0)] σ77 (w, σ') := h
                              replace h := ec_p h rfl rfl rfl rfl
                              obtain ⟨f, g, h⟩ := h
                              replace hf := Nat.lt_trans g hf
                              clear g
                              replace h : EC C f 18 ab_main 1085 [some (rf 98 (0)), some (rf 11 (0)), some (rf 13 (14)), some (rf 13 (15)), some (rf 13 (16)), some (rf 13 (17)), some (rf 14 (6)), some (.inl (Int32.ofInt 0)), some (.inl (u8)), y9, y10, some (.inl (u11)), some (.inl (u12)), y13, y14, y15, y16, y17] [] σ77 (w, σ') := h
                              replace h := ec_p h rfl rfl rfl rfl
                              obtain ⟨f, g, h⟩ := h
                              replace hf := Nat.lt_trans g hf
                              clear g
                              replace h : EC C f 18 ab_main 1088 [some (rf 98 (0)), some (rf 11 (0)), some (rf 13 (14)), some (rf 13 (15)), some (rf 13 (16)), some (rf 13 (17)), some (rf 14 (6)), some (.inl (Int32.ofInt 0)), some (.inl ((u8) + Int32.ofInt 1)), y9, y10, some (.inl (u11)), some (.inl (u12)), y13, y14, y15, y16, y17] [] σ77 (w, σ') := h
                              replace h := ec_p h rfl rfl rfl rfl
                              obtain ⟨f, g, h⟩ := h
                              replace hf := Nat.lt_trans g hf
                              clear g
                              replace h : EC C f 18 ab_main 162 [some (rf 98 (0)), some (rf 11 (0)), some (rf 13 (14)), some (rf 13 (15)), some (rf 13 (16)), some (rf 13 (17)), some (rf 14 (6)), some (.inl (Int32.ofInt 0)), some (.inl ((u8) + Int32.ofInt 1)), y9, y10, some (.inl (u11)), some (.inl (u12)), y13, y14, y15, y16, y17] [] σ77 (w, σ') := h
                              exact H162 f hf (Int32.ofInt 0) ((u8) + Int32.ofInt 1) y9 y10 (some (.inl (u11))) (some (.inl (u12))) y13 y14 y15 y16 y17 σ77 hsσ77 h
                            · skip
                              replace hp86 : ¬ ((v81).toInt ≠ (m_i σ77 13 (17) (Int32.ofInt 3).toNatClampNeg).toInt) := (not_congr ic_ne).mp hp86
                              refine Or.inr ⟨hp86, ?_⟩
                              replace hf := Nat.lt_trans g hf
                              clear g
                              replace h : EC C f 18 ab_main 1078 [some (rf 98 (0)), some (rf 11 (0)), some (rf 13 (14)), some (rf 13 (15)), some (rf 13 (16)), some (rf 13 (17)), some (rf 14 (6)), some (.inl (u7)), some (.inl (u8)), y9, y10, some (.inl (u11)), some (.inl (u12)), y13, y14, y15, y16, y17] [] σ77 (w, σ') := h
                              replace h := ec_p h rfl rfl rfl rfl
                              obtain ⟨f, g, h⟩ := h
                              replace hf := Nat.lt_trans g hf
                              clear g
                              replace h : EC C f 18 ab_main 1079 [some (rf 98 (0)), some (rf 11 (0)), some (rf 13 (14)), some (rf 13 (15)), some (rf 13 (16)), some (rf 13 (17)), some (rf 14 (6)), some (.inl (u7)), some (.inl (u8)), y9, y10, some (.inl (u11)), some (.inl (u12)), y13, y14, y15, y16, y17] [.inl (Int32.ofInt 1)] σ77 (w, σ') := h
                              replace h := ec_p h rfl rfl rfl rfl
                              obtain ⟨f, g, h⟩ := h
                              replace hf := Nat.lt_trans g hf
                              clear g
                              replace h : EC C f 18 ab_main 1083 [some (rf 98 (0)), some (rf 11 (0)), some (rf 13 (14)), some (rf 13 (15)), some (rf 13 (16)), some (rf 13 (17)), some (rf 14 (6)), some (.inl (u7)), some (.inl (u8)), y9, y10, some (.inl (u11)), some (.inl (u12)), y13, y14, y15, y16, y17] [.inl (Int32.ofInt 1)] σ77 (w, σ') := h
                              replace h := ec_p h rfl rfl rfl rfl
                              obtain ⟨f, g, h⟩ := h
                              replace hf := Nat.lt_trans g hf
                              clear g
                              replace h : EC C f 18 ab_main 1085 [some (rf 98 (0)), some (rf 11 (0)), some (rf 13 (14)), some (rf 13 (15)), some (rf 13 (16)), some (rf 13 (17)), some (rf 14 (6)), some (.inl (Int32.ofInt 1)), some (.inl (u8)), y9, y10, some (.inl (u11)), some (.inl (u12)), y13, y14, y15, y16, y17] [] σ77 (w, σ') := h
                              replace h := ec_p h rfl rfl rfl rfl
                              obtain ⟨f, g, h⟩ := h
                              replace hf := Nat.lt_trans g hf
                              clear g
                              replace h : EC C f 18 ab_main 1088 [some (rf 98 (0)), some (rf 11 (0)), some (rf 13 (14)), some (rf 13 (15)), some (rf 13 (16)), some (rf 13 (17)), some (rf 14 (6)), some (.inl (Int32.ofInt 1)), some (.inl ((u8) + Int32.ofInt 1)), y9, y10, some (.inl (u11)), some (.inl (u12)), y13, y14, y15, y16, y17] [] σ77 (w, σ') := h
                              replace h := ec_p h rfl rfl rfl rfl
                              obtain ⟨f, g, h⟩ := h
                              replace hf := Nat.lt_trans g hf
                              clear g
                              replace h : EC C f 18 ab_main 162 [some (rf 98 (0)), some (rf 11 (0)), some (rf 13 (14)), some (rf 13 (15)), some (rf 13 (16)), some (rf 13 (17)), some (rf 14 (6)), some (.inl (Int32.ofInt 1)), some (.inl ((u8) + Int32.ofInt 1)), y9, y10, some (.inl (u11)), some (.inl (u12)), y13, y14, y15, y16, y17] [] σ77 (w, σ') := h
                              exact H162 f hf (Int32.ofInt 1) ((u8) + Int32.ofInt 1) y9 y10 (some (.inl (u11))) (some (.inl (u12))) y13 y14 y15 y16 y17 σ77 hsσ77 h
                        · skip
                          have p79 := x179 hsσ62 r78
                          cases e
                          exact Or.inr ⟨b, p79, rfl⟩
                  · skip
                    have p64 := x178 hsσ56 r63
                    cases e
                    exact Or.inr ⟨b, p64, rfl⟩
              · skip
                have p58 := x180 hsσ51 r57
                cases e
                exact Or.inr ⟨b, p58, rfl⟩
          · skip
            have p53 := x177 hsσ46 r52
            cases e
            exact Or.inr ⟨b, p53, rfl⟩
      · skip
        have p48 := x155 hsτ.1 r47
        cases e
        exact Or.inr ⟨b, gF_r r47 rfl hsτ, p48, rfl⟩
