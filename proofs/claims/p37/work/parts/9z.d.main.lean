/-! the law's own loop: what lies between its cuts -/
def T214 (K409 : Int32 → Int32 → Int32 → Int32 → mS → Prop) (K925 : Int32 → Int32 → Int32 → mS → Prop) (u8 : Int32) (u9 : Int32) (u10 : Int32) (u11 : Int32) (τ : mS) (w : mX) (σ' : mS) : Prop := (((16 : Int) ≤ (u9).toInt ∧ (((19 : Int) ≤ (u9).toInt ∧ (((22 : Int) ≤ (u9).toInt ∧ (((28 : Int) ≤ (u9).toInt ∧ (((31 : Int) ≤ (u9).toInt ∧ (((34 : Int) ≤ (u9).toInt ∧ K409 (u8) (u9) (u10) (u11) τ) ∨ (¬ ((34 : Int) ≤ (u9).toInt) ∧ (((32 : Int) ≤ (u9).toInt ∧ ((∃ v8 σ9, ev_run sm_all 183 [rf 11 (0), rf 14 (6), .inl (Int32.ofInt 1), .inl (u10), .inl (u11)] τ (.inl (some (.inl v8))) σ9 ∧ P183 τ (Int32.ofInt 1) (u10) (u11) (.inl (some (.inl v8))) σ9 ∧ (HL σ9 → K925 (v8) (u8) (u11) σ9)) ∨ (∃ b, P183 τ (Int32.ofInt 1) (u10) (u11) (.inr b) σ' ∧ w = .inr b))) ∨ (¬ ((32 : Int) ≤ (u9).toInt) ∧ ((∃ v12 σ13, ev_run sm_all 183 [rf 11 (0), rf 14 (6), .inl (Int32.ofInt 0), .inl (u10), .inl (u11)] τ (.inl (some (.inl v12))) σ13 ∧ P183 τ (Int32.ofInt 0) (u10) (u11) (.inl (some (.inl v12))) σ13 ∧ (HL σ13 → K925 (v12) (u8) (u11) σ13)) ∨ (∃ b, P183 τ (Int32.ofInt 0) (u10) (u11) (.inr b) σ' ∧ w = .inr b))))))) ∨ (¬ ((31 : Int) ≤ (u9).toInt) ∧ ((∃ v16 σ17, ev_run sm_all 188 [rf 11 (0), rf 13 (17), .inl ((u9) - (Int32.ofInt 28)), .inl (u10), .inl (u11)] τ (.inl (some (.inl v16))) σ17 ∧ P188 τ ((u9) - (Int32.ofInt 28)) (u10) (u11) (.inl (some (.inl v16))) σ17 ∧ (HL σ17 → K925 (v16) (u8) (u11) σ17)) ∨ (∃ b, P188 τ ((u9) - (Int32.ofInt 28)) (u10) (u11) (.inr b) σ' ∧ w = .inr b))))) ∨ (¬ ((28 : Int) ≤ (u9).toInt) ∧ (((23 : Int) ≤ (u9).toInt ∧ (((25 : Int) ≤ (u9).toInt ∧ ((∃ v22 σ23, ev_run sm_all 187 [rf 11 (0), rf 13 (14), rf 13 (15), rf 13 (17), .inl ((u9) - (Int32.ofInt 23)), .inl (u10), .inl (u11)] τ (.inl (some (.inl v22))) σ23 ∧ P187 τ ((u9) - (Int32.ofInt 23)) (u10) (u11) (.inl (some (.inl v22))) σ23 ∧ (HL σ23 → K925 (v22) (u8) (u11) σ23)) ∨ (∃ b, P187 τ ((u9) - (Int32.ofInt 23)) (u10) (u11) (.inr b) σ' ∧ w = .inr b))) ∨ (¬ ((25 : Int) ≤ (u9).toInt) ∧ ((∃ v26 σ27, ev_run sm_all 187 [rf 11 (0), rf 13 (14), rf 13 (15), rf 13 (17), .inl (Int32.ofInt 1), .inl (u10), .inl (u11)] τ (.inl (some (.inl v26))) σ27 ∧ P187 τ (Int32.ofInt 1) (u10) (u11) (.inl (some (.inl v26))) σ27 ∧ (HL σ27 → K925 (v26) (u8) (u11) σ27)) ∨ (∃ b, P187 τ (Int32.ofInt 1) (u10) (u11) (.inr b) σ' ∧ w = .inr b))))) ∨ (¬ ((23 : Int) ≤ (u9).toInt) ∧ ((∃ v30 σ31, ev_run sm_all 187 [rf 11 (0), rf 13 (14), rf 13 (15), rf 13 (17), .inl (Int32.ofInt 0), .inl (u10), .inl (u11)] τ (.inl (some (.inl v30))) σ31 ∧ P187 τ (Int32.ofInt 0) (u10) (u11) (.inl (some (.inl v30))) σ31 ∧ (HL σ31 → K925 (v30) (u8) (u11) σ31)) ∨ (∃ b, P187 τ (Int32.ofInt 0) (u10) (u11) (.inr b) σ' ∧ w = .inr b))))))) ∨ (¬ ((22 : Int) ≤ (u9).toInt) ∧ (((21 : Int) ≤ (u9).toInt ∧ ((∃ v35 σ36, ev_run sm_all 186 [rf 11 (0), rf 13 (15), rf 13 (17), .inl (Int32.ofInt 1), .inl (u10), .inl (u11)] τ (.inl (some (.inl v35))) σ36 ∧ P186 τ (Int32.ofInt 1) (u10) (u11) (.inl (some (.inl v35))) σ36 ∧ (HL σ36 → K925 (v35) (u8) (u11) σ36)) ∨ (∃ b, P186 τ (Int32.ofInt 1) (u10) (u11) (.inr b) σ' ∧ w = .inr b))) ∨ (¬ ((21 : Int) ≤ (u9).toInt) ∧ ((∃ v39 σ40, ev_run sm_all 186 [rf 11 (0), rf 13 (15), rf 13 (17), .inl (Int32.ofInt 0), .inl (u10), .inl (u11)] τ (.inl (some (.inl v39))) σ40 ∧ P186 τ (Int32.ofInt 0) (u10) (u11) (.inl (some (.inl v39))) σ40 ∧ (HL σ40 → K925 (v39) (u8) (u11) σ40)) ∨ (∃ b, P186 τ (Int32.ofInt 0) (u10) (u11) (.inr b) σ' ∧ w = .inr b))))))) ∨ (¬ ((19 : Int) ≤ (u9).toInt) ∧ ((∃ v43 σ44, ev_run sm_all 185 [rf 11 (0), rf 13 (14), rf 13 (15), rf 13 (17), .inl (u10), .inl (u11)] τ (.inl (some (.inl v43))) σ44 ∧ P185 τ (u10) (u11) (.inl (some (.inl v43))) σ44 ∧ (HL σ44 → K925 (v43) (u8) (u11) σ44)) ∨ (∃ b, P185 τ (u10) (u11) (.inr b) σ' ∧ w = .inr b))))) ∨ (¬ ((16 : Int) ≤ (u9).toInt) ∧ ((∃ v47 σ48, ev_run sm_all 184 [rf 11 (0), rf 13 (14), rf 13 (15), rf 13 (17), .inl (u10), .inl (u11)] τ (.inl (some (.inl v47))) σ48 ∧ P184 τ (u10) (u11) (.inl (some (.inl v47))) σ48 ∧ (HL σ48 → K925 (v47) (u8) (u11) σ48)) ∨ (∃ b, P184 τ (u10) (u11) (.inr b) σ' ∧ w = .inr b))))
set_option maxRecDepth 100000 in
theorem t214 {C : ec_C} (hC : CK C) {N : Nat} {w : mX} {σ' : mS} {K409 : Int32 → Int32 → Int32 → Int32 → mS → Prop} {K925 : Int32 → Int32 → Int32 → mS → Prop} (H409 : ∀ f, f < N → ∀ (u8 : Int32) (u9 : Int32) (u10 : Int32) (u11 : Int32) (y7 : Option mV) (y12 : Option mV) (y13 : Option mV) (y14 : Option mV) (y15 : Option mV) (y16 : Option mV) (y17 : Option mV) (τ : mS), HL τ → EC C f 18 ab_main 409 [some (rf 98 (0)), some (rf 11 (0)), some (rf 13 (14)), some (rf 13 (15)), some (rf 13 (16)), some (rf 13 (17)), some (rf 14 (6)), y7, some (.inl (u8)), some (.inl (u9)), some (.inl (u10)), some (.inl (u11)), y12, y13, y14, y15, y16, y17] [] τ (w, σ') → K409 u8 u9 u10 u11 τ) (H925 : ∀ f, f < N → ∀ (u7 : Int32) (u8 : Int32) (u11 : Int32) (y9 : Option mV) (y10 : Option mV) (y12 : Option mV) (y13 : Option mV) (y14 : Option mV) (y15 : Option mV) (y16 : Option mV) (y17 : Option mV) (τ : mS), HL τ → EC C f 18 ab_main 925 [some (rf 98 (0)), some (rf 11 (0)), some (rf 13 (14)), some (rf 13 (15)), some (rf 13 (16)), some (rf 13 (17)), some (rf 14 (6)), some (.inl (u7)), some (.inl (u8)), y9, y10, some (.inl (u11)), y12, y13, y14, y15, y16, y17] [] τ (w, σ') → K925 u7 u8 u11 τ) : ∀ f, f < N + 1 → ∀ (u8 : Int32) (u9 : Int32) (u10 : Int32) (u11 : Int32) (y7 : Option mV) (y12 : Option mV) (y13 : Option mV) (y14 : Option mV) (y15 : Option mV) (y16 : Option mV) (y17 : Option mV) (τ : mS), HL τ → EC C f 18 ab_main 214 [some (rf 98 (0)), some (rf 11 (0)), some (rf 13 (14)), some (rf 13 (15)), some (rf 13 (16)), some (rf 13 (17)), some (rf 14 (6)), y7, some (.inl (u8)), some (.inl (u9)), some (.inl (u10)), some (.inl (u11)), y12, y13, y14, y15, y16, y17] [] τ (w, σ') → T214 K409 K925 u8 u9 u10 u11 τ w σ' := by
  intro f hf0 u8 u9 u10 u11 y7 y12 y13 y14 y15 y16 y17 τ hsτ h
  have hf : f < N + 1 := hf0
  clear hf0
  unfold T214
  replace h : EC C f 18 ab_main 214 [some (rf 98 (0)), some (rf 11 (0)), some (rf 13 (14)), some (rf 13 (15)), some (rf 13 (16)), some (rf 13 (17)), some (rf 14 (6)), y7, some (.inl (u8)), some (.inl (u9)), some (.inl (u10)), some (.inl (u11)), y12, y13, y14, y15, y16, y17] [] τ (w, σ') := h
  replace h := ec_p h rfl rfl rfl rfl
  obtain ⟨f, g, h⟩ := h
  replace hf := Nat.lt_of_lt_of_le g (Nat.le_of_lt_succ hf)
  clear g
  replace h : EC C f 18 ab_main 216 [some (rf 98 (0)), some (rf 11 (0)), some (rf 13 (14)), some (rf 13 (15)), some (rf 13 (16)), some (rf 13 (17)), some (rf 14 (6)), y7, some (.inl (u8)), some (.inl (u9)), some (.inl (u10)), some (.inl (u11)), y12, y13, y14, y15, y16, y17] [.inl (u9)] τ (w, σ') := h
  replace h := ec_p h rfl rfl rfl rfl
  obtain ⟨f, g, h⟩ := h
  replace hf := Nat.lt_trans g hf
  clear g
  replace h : EC C f 18 ab_main 218 [some (rf 98 (0)), some (rf 11 (0)), some (rf 13 (14)), some (rf 13 (15)), some (rf 13 (16)), some (rf 13 (17)), some (rf 14 (6)), y7, some (.inl (u8)), some (.inl (u9)), some (.inl (u10)), some (.inl (u11)), y12, y13, y14, y15, y16, y17] [.inl (Int32.ofInt 16), .inl (u9)] τ (w, σ') := h
  replace h := ec_c h rfl rfl rfl
  rcases h with ⟨hp1, f, g, h⟩ | ⟨hp1, f, g, h⟩
  · skip
    replace hp1 : (16 : Int) ≤ (u9).toInt := ic_ge.mp hp1
    refine Or.inl ⟨hp1, ?_⟩
    replace hf := Nat.lt_trans g hf
    clear g
    replace h : EC C f 18 ab_main 238 [some (rf 98 (0)), some (rf 11 (0)), some (rf 13 (14)), some (rf 13 (15)), some (rf 13 (16)), some (rf 13 (17)), some (rf 14 (6)), y7, some (.inl (u8)), some (.inl (u9)), some (.inl (u10)), some (.inl (u11)), y12, y13, y14, y15, y16, y17] [] τ (w, σ') := h
    replace h := ec_p h rfl rfl rfl rfl
    obtain ⟨f, g, h⟩ := h
    replace hf := Nat.lt_trans g hf
    clear g
    replace h : EC C f 18 ab_main 240 [some (rf 98 (0)), some (rf 11 (0)), some (rf 13 (14)), some (rf 13 (15)), some (rf 13 (16)), some (rf 13 (17)), some (rf 14 (6)), y7, some (.inl (u8)), some (.inl (u9)), some (.inl (u10)), some (.inl (u11)), y12, y13, y14, y15, y16, y17] [.inl (u9)] τ (w, σ') := h
    replace h := ec_p h rfl rfl rfl rfl
    obtain ⟨f, g, h⟩ := h
    replace hf := Nat.lt_trans g hf
    clear g
    replace h : EC C f 18 ab_main 242 [some (rf 98 (0)), some (rf 11 (0)), some (rf 13 (14)), some (rf 13 (15)), some (rf 13 (16)), some (rf 13 (17)), some (rf 14 (6)), y7, some (.inl (u8)), some (.inl (u9)), some (.inl (u10)), some (.inl (u11)), y12, y13, y14, y15, y16, y17] [.inl (Int32.ofInt 19), .inl (u9)] τ (w, σ') := h
    replace h := ec_c h rfl rfl rfl
    rcases h with ⟨hp2, f, g, h⟩ | ⟨hp2, f, g, h⟩
    · skip
      replace hp2 : (19 : Int) ≤ (u9).toInt := ic_ge.mp hp2
      refine Or.inl ⟨hp2, ?_⟩
      replace hf := Nat.lt_trans g hf
      clear g
      replace h : EC C f 18 ab_main 262 [some (rf 98 (0)), some (rf 11 (0)), some (rf 13 (14)), some (rf 13 (15)), some (rf 13 (16)), some (rf 13 (17)), some (rf 14 (6)), y7, some (.inl (u8)), some (.inl (u9)), some (.inl (u10)), some (.inl (u11)), y12, y13, y14, y15, y16, y17] [] τ (w, σ') := h
      replace h := ec_p h rfl rfl rfl rfl
      obtain ⟨f, g, h⟩ := h
      replace hf := Nat.lt_trans g hf
      clear g
      replace h : EC C f 18 ab_main 264 [some (rf 98 (0)), some (rf 11 (0)), some (rf 13 (14)), some (rf 13 (15)), some (rf 13 (16)), some (rf 13 (17)), some (rf 14 (6)), y7, some (.inl (u8)), some (.inl (u9)), some (.inl (u10)), some (.inl (u11)), y12, y13, y14, y15, y16, y17] [.inl (u9)] τ (w, σ') := h
      replace h := ec_p h rfl rfl rfl rfl
      obtain ⟨f, g, h⟩ := h
      replace hf := Nat.lt_trans g hf
      clear g
      replace h : EC C f 18 ab_main 266 [some (rf 98 (0)), some (rf 11 (0)), some (rf 13 (14)), some (rf 13 (15)), some (rf 13 (16)), some (rf 13 (17)), some (rf 14 (6)), y7, some (.inl (u8)), some (.inl (u9)), some (.inl (u10)), some (.inl (u11)), y12, y13, y14, y15, y16, y17] [.inl (Int32.ofInt 22), .inl (u9)] τ (w, σ') := h
      replace h := ec_c h rfl rfl rfl
      rcases h with ⟨hp3, f, g, h⟩ | ⟨hp3, f, g, h⟩
      · skip
        replace hp3 : (22 : Int) ≤ (u9).toInt := ic_ge.mp hp3
        refine Or.inl ⟨hp3, ?_⟩
        replace hf := Nat.lt_trans g hf
        clear g
        replace h : EC C f 18 ab_main 297 [some (rf 98 (0)), some (rf 11 (0)), some (rf 13 (14)), some (rf 13 (15)), some (rf 13 (16)), some (rf 13 (17)), some (rf 14 (6)), y7, some (.inl (u8)), some (.inl (u9)), some (.inl (u10)), some (.inl (u11)), y12, y13, y14, y15, y16, y17] [] τ (w, σ') := h
        replace h := ec_p h rfl rfl rfl rfl
        obtain ⟨f, g, h⟩ := h
        replace hf := Nat.lt_trans g hf
        clear g
        replace h : EC C f 18 ab_main 299 [some (rf 98 (0)), some (rf 11 (0)), some (rf 13 (14)), some (rf 13 (15)), some (rf 13 (16)), some (rf 13 (17)), some (rf 14 (6)), y7, some (.inl (u8)), some (.inl (u9)), some (.inl (u10)), some (.inl (u11)), y12, y13, y14, y15, y16, y17] [.inl (u9)] τ (w, σ') := h
        replace h := ec_p h rfl rfl rfl rfl
        obtain ⟨f, g, h⟩ := h
        replace hf := Nat.lt_trans g hf
        clear g
        replace h : EC C f 18 ab_main 301 [some (rf 98 (0)), some (rf 11 (0)), some (rf 13 (14)), some (rf 13 (15)), some (rf 13 (16)), some (rf 13 (17)), some (rf 14 (6)), y7, some (.inl (u8)), some (.inl (u9)), some (.inl (u10)), some (.inl (u11)), y12, y13, y14, y15, y16, y17] [.inl (Int32.ofInt 28), .inl (u9)] τ (w, σ') := h
        replace h := ec_c h rfl rfl rfl
        rcases h with ⟨hp4, f, g, h⟩ | ⟨hp4, f, g, h⟩
        · skip
          replace hp4 : (28 : Int) ≤ (u9).toInt := ic_ge.mp hp4
          refine Or.inl ⟨hp4, ?_⟩
          replace hf := Nat.lt_trans g hf
          clear g
          replace h : EC C f 18 ab_main 348 [some (rf 98 (0)), some (rf 11 (0)), some (rf 13 (14)), some (rf 13 (15)), some (rf 13 (16)), some (rf 13 (17)), some (rf 14 (6)), y7, some (.inl (u8)), some (.inl (u9)), some (.inl (u10)), some (.inl (u11)), y12, y13, y14, y15, y16, y17] [] τ (w, σ') := h
          replace h := ec_p h rfl rfl rfl rfl
          obtain ⟨f, g, h⟩ := h
          replace hf := Nat.lt_trans g hf
          clear g
          replace h : EC C f 18 ab_main 350 [some (rf 98 (0)), some (rf 11 (0)), some (rf 13 (14)), some (rf 13 (15)), some (rf 13 (16)), some (rf 13 (17)), some (rf 14 (6)), y7, some (.inl (u8)), some (.inl (u9)), some (.inl (u10)), some (.inl (u11)), y12, y13, y14, y15, y16, y17] [.inl (u9)] τ (w, σ') := h
          replace h := ec_p h rfl rfl rfl rfl
          obtain ⟨f, g, h⟩ := h
          replace hf := Nat.lt_trans g hf
          clear g
          replace h : EC C f 18 ab_main 352 [some (rf 98 (0)), some (rf 11 (0)), some (rf 13 (14)), some (rf 13 (15)), some (rf 13 (16)), some (rf 13 (17)), some (rf 14 (6)), y7, some (.inl (u8)), some (.inl (u9)), some (.inl (u10)), some (.inl (u11)), y12, y13, y14, y15, y16, y17] [.inl (Int32.ofInt 31), .inl (u9)] τ (w, σ') := h
          replace h := ec_c h rfl rfl rfl
          rcases h with ⟨hp5, f, g, h⟩ | ⟨hp5, f, g, h⟩
          · skip
            replace hp5 : (31 : Int) ≤ (u9).toInt := ic_ge.mp hp5
            refine Or.inl ⟨hp5, ?_⟩
            replace hf := Nat.lt_trans g hf
            clear g
            replace h : EC C f 18 ab_main 375 [some (rf 98 (0)), some (rf 11 (0)), some (rf 13 (14)), some (rf 13 (15)), some (rf 13 (16)), some (rf 13 (17)), some (rf 14 (6)), y7, some (.inl (u8)), some (.inl (u9)), some (.inl (u10)), some (.inl (u11)), y12, y13, y14, y15, y16, y17] [] τ (w, σ') := h
            replace h := ec_p h rfl rfl rfl rfl
            obtain ⟨f, g, h⟩ := h
            replace hf := Nat.lt_trans g hf
            clear g
            replace h : EC C f 18 ab_main 377 [some (rf 98 (0)), some (rf 11 (0)), some (rf 13 (14)), some (rf 13 (15)), some (rf 13 (16)), some (rf 13 (17)), some (rf 14 (6)), y7, some (.inl (u8)), some (.inl (u9)), some (.inl (u10)), some (.inl (u11)), y12, y13, y14, y15, y16, y17] [.inl (u9)] τ (w, σ') := h
            replace h := ec_p h rfl rfl rfl rfl
            obtain ⟨f, g, h⟩ := h
            replace hf := Nat.lt_trans g hf
            clear g
            replace h : EC C f 18 ab_main 379 [some (rf 98 (0)), some (rf 11 (0)), some (rf 13 (14)), some (rf 13 (15)), some (rf 13 (16)), some (rf 13 (17)), some (rf 14 (6)), y7, some (.inl (u8)), some (.inl (u9)), some (.inl (u10)), some (.inl (u11)), y12, y13, y14, y15, y16, y17] [.inl (Int32.ofInt 34), .inl (u9)] τ (w, σ') := h
            replace h := ec_c h rfl rfl rfl
            rcases h with ⟨hp6, f, g, h⟩ | ⟨hp6, f, g, h⟩
            · skip
              replace hp6 : (34 : Int) ≤ (u9).toInt := ic_ge.mp hp6
              refine Or.inl ⟨hp6, ?_⟩
              replace hf := Nat.lt_trans g hf
              clear g
              replace h : EC C f 18 ab_main 409 [some (rf 98 (0)), some (rf 11 (0)), some (rf 13 (14)), some (rf 13 (15)), some (rf 13 (16)), some (rf 13 (17)), some (rf 14 (6)), y7, some (.inl (u8)), some (.inl (u9)), some (.inl (u10)), some (.inl (u11)), y12, y13, y14, y15, y16, y17] [] τ (w, σ') := h
              exact H409 f hf (u8) (u9) (u10) (u11) y7 y12 y13 y14 y15 y16 y17 τ hsτ h
            · skip
              replace hp6 : ¬ ((34 : Int) ≤ (u9).toInt) := (not_congr ic_ge).mp hp6
              refine Or.inr ⟨hp6, ?_⟩
              replace hf := Nat.lt_trans g hf
              clear g
              replace h : EC C f 18 ab_main 382 [some (rf 98 (0)), some (rf 11 (0)), some (rf 13 (14)), some (rf 13 (15)), some (rf 13 (16)), some (rf 13 (17)), some (rf 14 (6)), y7, some (.inl (u8)), some (.inl (u9)), some (.inl (u10)), some (.inl (u11)), y12, y13, y14, y15, y16, y17] [] τ (w, σ') := h
              replace h := ec_p h rfl rfl rfl rfl
              obtain ⟨f, g, h⟩ := h
              replace hf := Nat.lt_trans g hf
              clear g
              replace h : EC C f 18 ab_main 383 [some (rf 98 (0)), some (rf 11 (0)), some (rf 13 (14)), some (rf 13 (15)), some (rf 13 (16)), some (rf 13 (17)), some (rf 14 (6)), y7, some (.inl (u8)), some (.inl (u9)), some (.inl (u10)), some (.inl (u11)), y12, y13, y14, y15, y16, y17] [rf 11 (0)] τ (w, σ') := h
              replace h := ec_p h rfl rfl rfl rfl
              obtain ⟨f, g, h⟩ := h
              replace hf := Nat.lt_trans g hf
              clear g
              replace h : EC C f 18 ab_main 385 [some (rf 98 (0)), some (rf 11 (0)), some (rf 13 (14)), some (rf 13 (15)), some (rf 13 (16)), some (rf 13 (17)), some (rf 14 (6)), y7, some (.inl (u8)), some (.inl (u9)), some (.inl (u10)), some (.inl (u11)), y12, y13, y14, y15, y16, y17] [rf 14 (6), rf 11 (0)] τ (w, σ') := h
              replace h := ec_p h rfl rfl rfl rfl
              obtain ⟨f, g, h⟩ := h
              replace hf := Nat.lt_trans g hf
              clear g
              replace h : EC C f 18 ab_main 387 [some (rf 98 (0)), some (rf 11 (0)), some (rf 13 (14)), some (rf 13 (15)), some (rf 13 (16)), some (rf 13 (17)), some (rf 14 (6)), y7, some (.inl (u8)), some (.inl (u9)), some (.inl (u10)), some (.inl (u11)), y12, y13, y14, y15, y16, y17] [.inl (u9), rf 14 (6), rf 11 (0)] τ (w, σ') := h
              replace h := ec_p h rfl rfl rfl rfl
              obtain ⟨f, g, h⟩ := h
              replace hf := Nat.lt_trans g hf
              clear g
              replace h : EC C f 18 ab_main 389 [some (rf 98 (0)), some (rf 11 (0)), some (rf 13 (14)), some (rf 13 (15)), some (rf 13 (16)), some (rf 13 (17)), some (rf 14 (6)), y7, some (.inl (u8)), some (.inl (u9)), some (.inl (u10)), some (.inl (u11)), y12, y13, y14, y15, y16, y17] [.inl (Int32.ofInt 32), .inl (u9), rf 14 (6), rf 11 (0)] τ (w, σ') := h
              replace h := ec_c h rfl rfl rfl
              rcases h with ⟨hp7, f, g, h⟩ | ⟨hp7, f, g, h⟩
              · skip
                replace hp7 : (32 : Int) ≤ (u9).toInt := ic_ge.mp hp7
                refine Or.inl ⟨hp7, ?_⟩
                replace hf := Nat.lt_trans g hf
                clear g
                replace h : EC C f 18 ab_main 396 [some (rf 98 (0)), some (rf 11 (0)), some (rf 13 (14)), some (rf 13 (15)), some (rf 13 (16)), some (rf 13 (17)), some (rf 14 (6)), y7, some (.inl (u8)), some (.inl (u9)), some (.inl (u10)), some (.inl (u11)), y12, y13, y14, y15, y16, y17] [rf 14 (6), rf 11 (0)] τ (w, σ') := h
                replace h := ec_p h rfl rfl rfl rfl
                obtain ⟨f, g, h⟩ := h
                replace hf := Nat.lt_trans g hf
                clear g
                replace h : EC C f 18 ab_main 397 [some (rf 98 (0)), some (rf 11 (0)), some (rf 13 (14)), some (rf 13 (15)), some (rf 13 (16)), some (rf 13 (17)), some (rf 14 (6)), y7, some (.inl (u8)), some (.inl (u9)), some (.inl (u10)), some (.inl (u11)), y12, y13, y14, y15, y16, y17] [.inl (Int32.ofInt 1), rf 14 (6), rf 11 (0)] τ (w, σ') := h
                replace h := ec_p h rfl rfl rfl rfl
                obtain ⟨f, g, h⟩ := h
                replace hf := Nat.lt_trans g hf
                clear g
                replace h : EC C f 18 ab_main 399 [some (rf 98 (0)), some (rf 11 (0)), some (rf 13 (14)), some (rf 13 (15)), some (rf 13 (16)), some (rf 13 (17)), some (rf 14 (6)), y7, some (.inl (u8)), some (.inl (u9)), some (.inl (u10)), some (.inl (u11)), y12, y13, y14, y15, y16, y17] [.inl (u10), .inl (Int32.ofInt 1), rf 14 (6), rf 11 (0)] τ (w, σ') := h
                replace h := ec_p h rfl rfl rfl rfl
                obtain ⟨f, g, h⟩ := h
                replace hf := Nat.lt_trans g hf
                clear g
                replace h : EC C f 18 ab_main 401 [some (rf 98 (0)), some (rf 11 (0)), some (rf 13 (14)), some (rf 13 (15)), some (rf 13 (16)), some (rf 13 (17)), some (rf 14 (6)), y7, some (.inl (u8)), some (.inl (u9)), some (.inl (u10)), some (.inl (u11)), y12, y13, y14, y15, y16, y17] [.inl (u11), .inl (u10), .inl (Int32.ofInt 1), rf 14 (6), rf 11 (0)] τ (w, σ') := h
                replace h := cx_I hC (ec_s (as := [.inl (u11), .inl (u10), .inl (Int32.ofInt 1), rf 14 (6), rf 11 (0)]) h rfl (Nat.le_of_ble_eq_true rfl) rfl rfl) rfl z183_at (Or.inr rfl)
                rcases h with ⟨v8, σ9, r10, f, g, h⟩ | ⟨b, σ9, r10, e⟩
                · skip
                  replace hf := Nat.lt_trans g hf
                  clear g
                  have p11 := x183 hsτ r10
                  refine Or.inl ⟨v8, σ9, r10, p11, fun hsσ9 => ?_⟩
                  replace h : EC C f 18 ab_main 404 [some (rf 98 (0)), some (rf 11 (0)), some (rf 13 (14)), some (rf 13 (15)), some (rf 13 (16)), some (rf 13 (17)), some (rf 14 (6)), y7, some (.inl (u8)), some (.inl (u9)), some (.inl (u10)), some (.inl (u11)), y12, y13, y14, y15, y16, y17] [.inl (v8)] σ9 (w, σ') := h
                  replace h := ec_p h rfl rfl rfl rfl
                  obtain ⟨f, g, h⟩ := h
                  replace hf := Nat.lt_trans g hf
                  clear g
                  replace h : EC C f 18 ab_main 406 [some (rf 98 (0)), some (rf 11 (0)), some (rf 13 (14)), some (rf 13 (15)), some (rf 13 (16)), some (rf 13 (17)), some (rf 14 (6)), some (.inl (v8)), some (.inl (u8)), some (.inl (u9)), some (.inl (u10)), some (.inl (u11)), y12, y13, y14, y15, y16, y17] [] σ9 (w, σ') := h
                  replace h := ec_p h rfl rfl rfl rfl
                  obtain ⟨f, g, h⟩ := h
                  replace hf := Nat.lt_trans g hf
                  clear g
                  replace h : EC C f 18 ab_main 925 [some (rf 98 (0)), some (rf 11 (0)), some (rf 13 (14)), some (rf 13 (15)), some (rf 13 (16)), some (rf 13 (17)), some (rf 14 (6)), some (.inl (v8)), some (.inl (u8)), some (.inl (u9)), some (.inl (u10)), some (.inl (u11)), y12, y13, y14, y15, y16, y17] [] σ9 (w, σ') := h
                  exact H925 f hf (v8) (u8) (u11) (some (.inl (u9))) (some (.inl (u10))) y12 y13 y14 y15 y16 y17 σ9 hsσ9 h
                · skip
                  have p11 := x183 hsτ r10
                  cases e
                  exact Or.inr ⟨b, p11, rfl⟩
              · skip
                replace hp7 : ¬ ((32 : Int) ≤ (u9).toInt) := (not_congr ic_ge).mp hp7
                refine Or.inr ⟨hp7, ?_⟩
                replace hf := Nat.lt_trans g hf
                clear g
                replace h : EC C f 18 ab_main 392 [some (rf 98 (0)), some (rf 11 (0)), some (rf 13 (14)), some (rf 13 (15)), some (rf 13 (16)), some (rf 13 (17)), some (rf 14 (6)), y7, some (.inl (u8)), some (.inl (u9)), some (.inl (u10)), some (.inl (u11)), y12, y13, y14, y15, y16, y17] [rf 14 (6), rf 11 (0)] τ (w, σ') := h
                replace h := ec_p h rfl rfl rfl rfl
                obtain ⟨f, g, h⟩ := h
                replace hf := Nat.lt_trans g hf
                clear g
                replace h : EC C f 18 ab_main 393 [some (rf 98 (0)), some (rf 11 (0)), some (rf 13 (14)), some (rf 13 (15)), some (rf 13 (16)), some (rf 13 (17)), some (rf 14 (6)), y7, some (.inl (u8)), some (.inl (u9)), some (.inl (u10)), some (.inl (u11)), y12, y13, y14, y15, y16, y17] [.inl (Int32.ofInt 0), rf 14 (6), rf 11 (0)] τ (w, σ') := h
                replace h := ec_p h rfl rfl rfl rfl
                obtain ⟨f, g, h⟩ := h
                replace hf := Nat.lt_trans g hf
                clear g
                replace h : EC C f 18 ab_main 397 [some (rf 98 (0)), some (rf 11 (0)), some (rf 13 (14)), some (rf 13 (15)), some (rf 13 (16)), some (rf 13 (17)), some (rf 14 (6)), y7, some (.inl (u8)), some (.inl (u9)), some (.inl (u10)), some (.inl (u11)), y12, y13, y14, y15, y16, y17] [.inl (Int32.ofInt 0), rf 14 (6), rf 11 (0)] τ (w, σ') := h
                replace h := ec_p h rfl rfl rfl rfl
                obtain ⟨f, g, h⟩ := h
                replace hf := Nat.lt_trans g hf
                clear g
                replace h : EC C f 18 ab_main 399 [some (rf 98 (0)), some (rf 11 (0)), some (rf 13 (14)), some (rf 13 (15)), some (rf 13 (16)), some (rf 13 (17)), some (rf 14 (6)), y7, some (.inl (u8)), some (.inl (u9)), some (.inl (u10)), some (.inl (u11)), y12, y13, y14, y15, y16, y17] [.inl (u10), .inl (Int32.ofInt 0), rf 14 (6), rf 11 (0)] τ (w, σ') := h
                replace h := ec_p h rfl rfl rfl rfl
                obtain ⟨f, g, h⟩ := h
                replace hf := Nat.lt_trans g hf
                clear g
                replace h : EC C f 18 ab_main 401 [some (rf 98 (0)), some (rf 11 (0)), some (rf 13 (14)), some (rf 13 (15)), some (rf 13 (16)), some (rf 13 (17)), some (rf 14 (6)), y7, some (.inl (u8)), some (.inl (u9)), some (.inl (u10)), some (.inl (u11)), y12, y13, y14, y15, y16, y17] [.inl (u11), .inl (u10), .inl (Int32.ofInt 0), rf 14 (6), rf 11 (0)] τ (w, σ') := h
                replace h := cx_I hC (ec_s (as := [.inl (u11), .inl (u10), .inl (Int32.ofInt 0), rf 14 (6), rf 11 (0)]) h rfl (Nat.le_of_ble_eq_true rfl) rfl rfl) rfl z183_at (Or.inr rfl)
                rcases h with ⟨v12, σ13, r14, f, g, h⟩ | ⟨b, σ13, r14, e⟩
                · skip
                  replace hf := Nat.lt_trans g hf
                  clear g
                  have p15 := x183 hsτ r14
                  refine Or.inl ⟨v12, σ13, r14, p15, fun hsσ13 => ?_⟩
                  replace h : EC C f 18 ab_main 404 [some (rf 98 (0)), some (rf 11 (0)), some (rf 13 (14)), some (rf 13 (15)), some (rf 13 (16)), some (rf 13 (17)), some (rf 14 (6)), y7, some (.inl (u8)), some (.inl (u9)), some (.inl (u10)), some (.inl (u11)), y12, y13, y14, y15, y16, y17] [.inl (v12)] σ13 (w, σ') := h
                  replace h := ec_p h rfl rfl rfl rfl
                  obtain ⟨f, g, h⟩ := h
                  replace hf := Nat.lt_trans g hf
                  clear g
                  replace h : EC C f 18 ab_main 406 [some (rf 98 (0)), some (rf 11 (0)), some (rf 13 (14)), some (rf 13 (15)), some (rf 13 (16)), some (rf 13 (17)), some (rf 14 (6)), some (.inl (v12)), some (.inl (u8)), some (.inl (u9)), some (.inl (u10)), some (.inl (u11)), y12, y13, y14, y15, y16, y17] [] σ13 (w, σ') := h
                  replace h := ec_p h rfl rfl rfl rfl
                  obtain ⟨f, g, h⟩ := h
                  replace hf := Nat.lt_trans g hf
                  clear g
                  replace h : EC C f 18 ab_main 925 [some (rf 98 (0)), some (rf 11 (0)), some (rf 13 (14)), some (rf 13 (15)), some (rf 13 (16)), some (rf 13 (17)), some (rf 14 (6)), some (.inl (v12)), some (.inl (u8)), some (.inl (u9)), some (.inl (u10)), some (.inl (u11)), y12, y13, y14, y15, y16, y17] [] σ13 (w, σ') := h
                  exact H925 f hf (v12) (u8) (u11) (some (.inl (u9))) (some (.inl (u10))) y12 y13 y14 y15 y16 y17 σ13 hsσ13 h
                · skip
                  have p15 := x183 hsτ r14
                  cases e
                  exact Or.inr ⟨b, p15, rfl⟩
          · skip
            replace hp5 : ¬ ((31 : Int) ≤ (u9).toInt) := (not_congr ic_ge).mp hp5
            refine Or.inr ⟨hp5, ?_⟩
            replace hf := Nat.lt_trans g hf
            clear g
            replace h : EC C f 18 ab_main 355 [some (rf 98 (0)), some (rf 11 (0)), some (rf 13 (14)), some (rf 13 (15)), some (rf 13 (16)), some (rf 13 (17)), some (rf 14 (6)), y7, some (.inl (u8)), some (.inl (u9)), some (.inl (u10)), some (.inl (u11)), y12, y13, y14, y15, y16, y17] [] τ (w, σ') := h
            replace h := ec_p h rfl rfl rfl rfl
            obtain ⟨f, g, h⟩ := h
            replace hf := Nat.lt_trans g hf
            clear g
            replace h : EC C f 18 ab_main 356 [some (rf 98 (0)), some (rf 11 (0)), some (rf 13 (14)), some (rf 13 (15)), some (rf 13 (16)), some (rf 13 (17)), some (rf 14 (6)), y7, some (.inl (u8)), some (.inl (u9)), some (.inl (u10)), some (.inl (u11)), y12, y13, y14, y15, y16, y17] [rf 11 (0)] τ (w, σ') := h
            replace h := ec_p h rfl rfl rfl rfl
            obtain ⟨f, g, h⟩ := h
            replace hf := Nat.lt_trans g hf
            clear g
            replace h : EC C f 18 ab_main 358 [some (rf 98 (0)), some (rf 11 (0)), some (rf 13 (14)), some (rf 13 (15)), some (rf 13 (16)), some (rf 13 (17)), some (rf 14 (6)), y7, some (.inl (u8)), some (.inl (u9)), some (.inl (u10)), some (.inl (u11)), y12, y13, y14, y15, y16, y17] [rf 13 (17), rf 11 (0)] τ (w, σ') := h
            replace h := ec_p h rfl rfl rfl rfl
            obtain ⟨f, g, h⟩ := h
            replace hf := Nat.lt_trans g hf
            clear g
            replace h : EC C f 18 ab_main 360 [some (rf 98 (0)), some (rf 11 (0)), some (rf 13 (14)), some (rf 13 (15)), some (rf 13 (16)), some (rf 13 (17)), some (rf 14 (6)), y7, some (.inl (u8)), some (.inl (u9)), some (.inl (u10)), some (.inl (u11)), y12, y13, y14, y15, y16, y17] [.inl (u9), rf 13 (17), rf 11 (0)] τ (w, σ') := h
            replace h := ec_p h rfl rfl rfl rfl
            obtain ⟨f, g, h⟩ := h
            replace hf := Nat.lt_trans g hf
            clear g
            replace h : EC C f 18 ab_main 362 [some (rf 98 (0)), some (rf 11 (0)), some (rf 13 (14)), some (rf 13 (15)), some (rf 13 (16)), some (rf 13 (17)), some (rf 14 (6)), y7, some (.inl (u8)), some (.inl (u9)), some (.inl (u10)), some (.inl (u11)), y12, y13, y14, y15, y16, y17] [.inl (Int32.ofInt 28), .inl (u9), rf 13 (17), rf 11 (0)] τ (w, σ') := h
            replace h := ec_p h rfl rfl rfl rfl
            obtain ⟨f, g, h⟩ := h
            replace hf := Nat.lt_trans g hf
            clear g
            replace h : EC C f 18 ab_main 363 [some (rf 98 (0)), some (rf 11 (0)), some (rf 13 (14)), some (rf 13 (15)), some (rf 13 (16)), some (rf 13 (17)), some (rf 14 (6)), y7, some (.inl (u8)), some (.inl (u9)), some (.inl (u10)), some (.inl (u11)), y12, y13, y14, y15, y16, y17] [.inl ((u9) - (Int32.ofInt 28)), rf 13 (17), rf 11 (0)] τ (w, σ') := h
            replace h := ec_p h rfl rfl rfl rfl
            obtain ⟨f, g, h⟩ := h
            replace hf := Nat.lt_trans g hf
            clear g
            replace h : EC C f 18 ab_main 365 [some (rf 98 (0)), some (rf 11 (0)), some (rf 13 (14)), some (rf 13 (15)), some (rf 13 (16)), some (rf 13 (17)), some (rf 14 (6)), y7, some (.inl (u8)), some (.inl (u9)), some (.inl (u10)), some (.inl (u11)), y12, y13, y14, y15, y16, y17] [.inl (u10), .inl ((u9) - (Int32.ofInt 28)), rf 13 (17), rf 11 (0)] τ (w, σ') := h
            replace h := ec_p h rfl rfl rfl rfl
            obtain ⟨f, g, h⟩ := h
            replace hf := Nat.lt_trans g hf
            clear g
            replace h : EC C f 18 ab_main 367 [some (rf 98 (0)), some (rf 11 (0)), some (rf 13 (14)), some (rf 13 (15)), some (rf 13 (16)), some (rf 13 (17)), some (rf 14 (6)), y7, some (.inl (u8)), some (.inl (u9)), some (.inl (u10)), some (.inl (u11)), y12, y13, y14, y15, y16, y17] [.inl (u11), .inl (u10), .inl ((u9) - (Int32.ofInt 28)), rf 13 (17), rf 11 (0)] τ (w, σ') := h
            replace h := cx_I hC (ec_s (as := [.inl (u11), .inl (u10), .inl ((u9) - (Int32.ofInt 28)), rf 13 (17), rf 11 (0)]) h rfl (Nat.le_of_ble_eq_true rfl) rfl rfl) rfl z188_at (Or.inr rfl)
            rcases h with ⟨v16, σ17, r18, f, g, h⟩ | ⟨b, σ17, r18, e⟩
            · skip
              replace hf := Nat.lt_trans g hf
              clear g
              have p19 := x188 hsτ r18
              refine Or.inl ⟨v16, σ17, r18, p19, fun hsσ17 => ?_⟩
              replace h : EC C f 18 ab_main 370 [some (rf 98 (0)), some (rf 11 (0)), some (rf 13 (14)), some (rf 13 (15)), some (rf 13 (16)), some (rf 13 (17)), some (rf 14 (6)), y7, some (.inl (u8)), some (.inl (u9)), some (.inl (u10)), some (.inl (u11)), y12, y13, y14, y15, y16, y17] [.inl (v16)] σ17 (w, σ') := h
              replace h := ec_p h rfl rfl rfl rfl
              obtain ⟨f, g, h⟩ := h
              replace hf := Nat.lt_trans g hf
              clear g
              replace h : EC C f 18 ab_main 372 [some (rf 98 (0)), some (rf 11 (0)), some (rf 13 (14)), some (rf 13 (15)), some (rf 13 (16)), some (rf 13 (17)), some (rf 14 (6)), some (.inl (v16)), some (.inl (u8)), some (.inl (u9)), some (.inl (u10)), some (.inl (u11)), y12, y13, y14, y15, y16, y17] [] σ17 (w, σ') := h
              replace h := ec_p h rfl rfl rfl rfl
              obtain ⟨f, g, h⟩ := h
              replace hf := Nat.lt_trans g hf
              clear g
              replace h : EC C f 18 ab_main 925 [some (rf 98 (0)), some (rf 11 (0)), some (rf 13 (14)), some (rf 13 (15)), some (rf 13 (16)), some (rf 13 (17)), some (rf 14 (6)), some (.inl (v16)), some (.inl (u8)), some (.inl (u9)), some (.inl (u10)), some (.inl (u11)), y12, y13, y14, y15, y16, y17] [] σ17 (w, σ') := h
              exact H925 f hf (v16) (u8) (u11) (some (.inl (u9))) (some (.inl (u10))) y12 y13 y14 y15 y16 y17 σ17 hsσ17 h
            · skip
              have p19 := x188 hsτ r18
              cases e
              exact Or.inr ⟨b, p19, rfl⟩
        · skip
          replace hp4 : ¬ ((28 : Int) ≤ (u9).toInt) := (not_congr ic_ge).mp hp4
          refine Or.inr ⟨hp4, ?_⟩
          replace hf := Nat.lt_trans g hf
          clear g
          replace h : EC C f 18 ab_main 304 [some (rf 98 (0)), some (rf 11 (0)), some (rf 13 (14)), some (rf 13 (15)), some (rf 13 (16)), some (rf 13 (17)), some (rf 14 (6)), y7, some (.inl (u8)), some (.inl (u9)), some (.inl (u10)), some (.inl (u11)), y12, y13, y14, y15, y16, y17] [] τ (w, σ') := h
          replace h := ec_p h rfl rfl rfl rfl
          obtain ⟨f, g, h⟩ := h
          replace hf := Nat.lt_trans g hf
          clear g
          replace h : EC C f 18 ab_main 305 [some (rf 98 (0)), some (rf 11 (0)), some (rf 13 (14)), some (rf 13 (15)), some (rf 13 (16)), some (rf 13 (17)), some (rf 14 (6)), y7, some (.inl (u8)), some (.inl (u9)), some (.inl (u10)), some (.inl (u11)), y12, y13, y14, y15, y16, y17] [rf 11 (0)] τ (w, σ') := h
          replace h := ec_p h rfl rfl rfl rfl
          obtain ⟨f, g, h⟩ := h
          replace hf := Nat.lt_trans g hf
          clear g
          replace h : EC C f 18 ab_main 306 [some (rf 98 (0)), some (rf 11 (0)), some (rf 13 (14)), some (rf 13 (15)), some (rf 13 (16)), some (rf 13 (17)), some (rf 14 (6)), y7, some (.inl (u8)), some (.inl (u9)), some (.inl (u10)), some (.inl (u11)), y12, y13, y14, y15, y16, y17] [rf 13 (14), rf 11 (0)] τ (w, σ') := h
          replace h := ec_p h rfl rfl rfl rfl
          obtain ⟨f, g, h⟩ := h
          replace hf := Nat.lt_trans g hf
          clear g
          replace h : EC C f 18 ab_main 307 [some (rf 98 (0)), some (rf 11 (0)), some (rf 13 (14)), some (rf 13 (15)), some (rf 13 (16)), some (rf 13 (17)), some (rf 14 (6)), y7, some (.inl (u8)), some (.inl (u9)), some (.inl (u10)), some (.inl (u11)), y12, y13, y14, y15, y16, y17] [rf 13 (15), rf 13 (14), rf 11 (0)] τ (w, σ') := h
          replace h := ec_p h rfl rfl rfl rfl
          obtain ⟨f, g, h⟩ := h
          replace hf := Nat.lt_trans g hf
          clear g
          replace h : EC C f 18 ab_main 309 [some (rf 98 (0)), some (rf 11 (0)), some (rf 13 (14)), some (rf 13 (15)), some (rf 13 (16)), some (rf 13 (17)), some (rf 14 (6)), y7, some (.inl (u8)), some (.inl (u9)), some (.inl (u10)), some (.inl (u11)), y12, y13, y14, y15, y16, y17] [rf 13 (17), rf 13 (15), rf 13 (14), rf 11 (0)] τ (w, σ') := h
          replace h := ec_p h rfl rfl rfl rfl
          obtain ⟨f, g, h⟩ := h
          replace hf := Nat.lt_trans g hf
          clear g
          replace h : EC C f 18 ab_main 311 [some (rf 98 (0)), some (rf 11 (0)), some (rf 13 (14)), some (rf 13 (15)), some (rf 13 (16)), some (rf 13 (17)), some (rf 14 (6)), y7, some (.inl (u8)), some (.inl (u9)), some (.inl (u10)), some (.inl (u11)), y12, y13, y14, y15, y16, y17] [.inl (u9), rf 13 (17), rf 13 (15), rf 13 (14), rf 11 (0)] τ (w, σ') := h
          replace h := ec_p h rfl rfl rfl rfl
          obtain ⟨f, g, h⟩ := h
          replace hf := Nat.lt_trans g hf
          clear g
          replace h : EC C f 18 ab_main 313 [some (rf 98 (0)), some (rf 11 (0)), some (rf 13 (14)), some (rf 13 (15)), some (rf 13 (16)), some (rf 13 (17)), some (rf 14 (6)), y7, some (.inl (u8)), some (.inl (u9)), some (.inl (u10)), some (.inl (u11)), y12, y13, y14, y15, y16, y17] [.inl (Int32.ofInt 23), .inl (u9), rf 13 (17), rf 13 (15), rf 13 (14), rf 11 (0)] τ (w, σ') := h
          replace h := ec_c h rfl rfl rfl
          rcases h with ⟨hp20, f, g, h⟩ | ⟨hp20, f, g, h⟩
          · skip
            replace hp20 : (23 : Int) ≤ (u9).toInt := ic_ge.mp hp20
            refine Or.inl ⟨hp20, ?_⟩
            replace hf := Nat.lt_trans g hf
            clear g
            replace h : EC C f 18 ab_main 320 [some (rf 98 (0)), some (rf 11 (0)), some (rf 13 (14)), some (rf 13 (15)), some (rf 13 (16)), some (rf 13 (17)), some (rf 14 (6)), y7, some (.inl (u8)), some (.inl (u9)), some (.inl (u10)), some (.inl (u11)), y12, y13, y14, y15, y16, y17] [rf 13 (17), rf 13 (15), rf 13 (14), rf 11 (0)] τ (w, σ') := h
            replace h := ec_p h rfl rfl rfl rfl
            obtain ⟨f, g, h⟩ := h
            replace hf := Nat.lt_trans g hf
            clear g
            replace h : EC C f 18 ab_main 322 [some (rf 98 (0)), some (rf 11 (0)), some (rf 13 (14)), some (rf 13 (15)), some (rf 13 (16)), some (rf 13 (17)), some (rf 14 (6)), y7, some (.inl (u8)), some (.inl (u9)), some (.inl (u10)), some (.inl (u11)), y12, y13, y14, y15, y16, y17] [.inl (u9), rf 13 (17), rf 13 (15), rf 13 (14), rf 11 (0)] τ (w, σ') := h
            replace h := ec_p h rfl rfl rfl rfl
            obtain ⟨f, g, h⟩ := h
            replace hf := Nat.lt_trans g hf
            clear g
            replace h : EC C f 18 ab_main 324 [some (rf 98 (0)), some (rf 11 (0)), some (rf 13 (14)), some (rf 13 (15)), some (rf 13 (16)), some (rf 13 (17)), some (rf 14 (6)), y7, some (.inl (u8)), some (.inl (u9)), some (.inl (u10)), some (.inl (u11)), y12, y13, y14, y15, y16, y17] [.inl (Int32.ofInt 25), .inl (u9), rf 13 (17), rf 13 (15), rf 13 (14), rf 11 (0)] τ (w, σ') := h
            replace h := ec_c h rfl rfl rfl
            rcases h with ⟨hp21, f, g, h⟩ | ⟨hp21, f, g, h⟩
            · skip
              replace hp21 : (25 : Int) ≤ (u9).toInt := ic_ge.mp hp21
              refine Or.inl ⟨hp21, ?_⟩
              replace hf := Nat.lt_trans g hf
              clear g
              replace h : EC C f 18 ab_main 331 [some (rf 98 (0)), some (rf 11 (0)), some (rf 13 (14)), some (rf 13 (15)), some (rf 13 (16)), some (rf 13 (17)), some (rf 14 (6)), y7, some (.inl (u8)), some (.inl (u9)), some (.inl (u10)), some (.inl (u11)), y12, y13, y14, y15, y16, y17] [rf 13 (17), rf 13 (15), rf 13 (14), rf 11 (0)] τ (w, σ') := h
              replace h := ec_p h rfl rfl rfl rfl
              obtain ⟨f, g, h⟩ := h
              replace hf := Nat.lt_trans g hf
              clear g
              replace h : EC C f 18 ab_main 333 [some (rf 98 (0)), some (rf 11 (0)), some (rf 13 (14)), some (rf 13 (15)), some (rf 13 (16)), some (rf 13 (17)), some (rf 14 (6)), y7, some (.inl (u8)), some (.inl (u9)), some (.inl (u10)), some (.inl (u11)), y12, y13, y14, y15, y16, y17] [.inl (u9), rf 13 (17), rf 13 (15), rf 13 (14), rf 11 (0)] τ (w, σ') := h
              replace h := ec_p h rfl rfl rfl rfl
              obtain ⟨f, g, h⟩ := h
              replace hf := Nat.lt_trans g hf
              clear g
              replace h : EC C f 18 ab_main 335 [some (rf 98 (0)), some (rf 11 (0)), some (rf 13 (14)), some (rf 13 (15)), some (rf 13 (16)), some (rf 13 (17)), some (rf 14 (6)), y7, some (.inl (u8)), some (.inl (u9)), some (.inl (u10)), some (.inl (u11)), y12, y13, y14, y15, y16, y17] [.inl (Int32.ofInt 23), .inl (u9), rf 13 (17), rf 13 (15), rf 13 (14), rf 11 (0)] τ (w, σ') := h
              replace h := ec_p h rfl rfl rfl rfl
              obtain ⟨f, g, h⟩ := h
              replace hf := Nat.lt_trans g hf
              clear g
              replace h : EC C f 18 ab_main 336 [some (rf 98 (0)), some (rf 11 (0)), some (rf 13 (14)), some (rf 13 (15)), some (rf 13 (16)), some (rf 13 (17)), some (rf 14 (6)), y7, some (.inl (u8)), some (.inl (u9)), some (.inl (u10)), some (.inl (u11)), y12, y13, y14, y15, y16, y17] [.inl ((u9) - (Int32.ofInt 23)), rf 13 (17), rf 13 (15), rf 13 (14), rf 11 (0)] τ (w, σ') := h
              replace h := ec_p h rfl rfl rfl rfl
              obtain ⟨f, g, h⟩ := h
              replace hf := Nat.lt_trans g hf
              clear g
              replace h : EC C f 18 ab_main 338 [some (rf 98 (0)), some (rf 11 (0)), some (rf 13 (14)), some (rf 13 (15)), some (rf 13 (16)), some (rf 13 (17)), some (rf 14 (6)), y7, some (.inl (u8)), some (.inl (u9)), some (.inl (u10)), some (.inl (u11)), y12, y13, y14, y15, y16, y17] [.inl (u10), .inl ((u9) - (Int32.ofInt 23)), rf 13 (17), rf 13 (15), rf 13 (14), rf 11 (0)] τ (w, σ') := h
              replace h := ec_p h rfl rfl rfl rfl
              obtain ⟨f, g, h⟩ := h
              replace hf := Nat.lt_trans g hf
              clear g
              replace h : EC C f 18 ab_main 340 [some (rf 98 (0)), some (rf 11 (0)), some (rf 13 (14)), some (rf 13 (15)), some (rf 13 (16)), some (rf 13 (17)), some (rf 14 (6)), y7, some (.inl (u8)), some (.inl (u9)), some (.inl (u10)), some (.inl (u11)), y12, y13, y14, y15, y16, y17] [.inl (u11), .inl (u10), .inl ((u9) - (Int32.ofInt 23)), rf 13 (17), rf 13 (15), rf 13 (14), rf 11 (0)] τ (w, σ') := h
              replace h := cx_I hC (ec_s (as := [.inl (u11), .inl (u10), .inl ((u9) - (Int32.ofInt 23)), rf 13 (17), rf 13 (15), rf 13 (14), rf 11 (0)]) h rfl (Nat.le_of_ble_eq_true rfl) rfl rfl) rfl z187_at (Or.inr rfl)
              rcases h with ⟨v22, σ23, r24, f, g, h⟩ | ⟨b, σ23, r24, e⟩
              · skip
                replace hf := Nat.lt_trans g hf
                clear g
                have p25 := x187 hsτ r24
                refine Or.inl ⟨v22, σ23, r24, p25, fun hsσ23 => ?_⟩
                replace h : EC C f 18 ab_main 343 [some (rf 98 (0)), some (rf 11 (0)), some (rf 13 (14)), some (rf 13 (15)), some (rf 13 (16)), some (rf 13 (17)), some (rf 14 (6)), y7, some (.inl (u8)), some (.inl (u9)), some (.inl (u10)), some (.inl (u11)), y12, y13, y14, y15, y16, y17] [.inl (v22)] σ23 (w, σ') := h
                replace h := ec_p h rfl rfl rfl rfl
                obtain ⟨f, g, h⟩ := h
                replace hf := Nat.lt_trans g hf
                clear g
                replace h : EC C f 18 ab_main 345 [some (rf 98 (0)), some (rf 11 (0)), some (rf 13 (14)), some (rf 13 (15)), some (rf 13 (16)), some (rf 13 (17)), some (rf 14 (6)), some (.inl (v22)), some (.inl (u8)), some (.inl (u9)), some (.inl (u10)), some (.inl (u11)), y12, y13, y14, y15, y16, y17] [] σ23 (w, σ') := h
                replace h := ec_p h rfl rfl rfl rfl
                obtain ⟨f, g, h⟩ := h
                replace hf := Nat.lt_trans g hf
                clear g
                replace h : EC C f 18 ab_main 925 [some (rf 98 (0)), some (rf 11 (0)), some (rf 13 (14)), some (rf 13 (15)), some (rf 13 (16)), some (rf 13 (17)), some (rf 14 (6)), some (.inl (v22)), some (.inl (u8)), some (.inl (u9)), some (.inl (u10)), some (.inl (u11)), y12, y13, y14, y15, y16, y17] [] σ23 (w, σ') := h
                exact H925 f hf (v22) (u8) (u11) (some (.inl (u9))) (some (.inl (u10))) y12 y13 y14 y15 y16 y17 σ23 hsσ23 h
              · skip
                have p25 := x187 hsτ r24
                cases e
                exact Or.inr ⟨b, p25, rfl⟩
            · skip
              replace hp21 : ¬ ((25 : Int) ≤ (u9).toInt) := (not_congr ic_ge).mp hp21
              refine Or.inr ⟨hp21, ?_⟩
              replace hf := Nat.lt_trans g hf
              clear g
              replace h : EC C f 18 ab_main 327 [some (rf 98 (0)), some (rf 11 (0)), some (rf 13 (14)), some (rf 13 (15)), some (rf 13 (16)), some (rf 13 (17)), some (rf 14 (6)), y7, some (.inl (u8)), some (.inl (u9)), some (.inl (u10)), some (.inl (u11)), y12, y13, y14, y15, y16, y17] [rf 13 (17), rf 13 (15), rf 13 (14), rf 11 (0)] τ (w, σ') := h
              replace h := ec_p h rfl rfl rfl rfl
              obtain ⟨f, g, h⟩ := h
              replace hf := Nat.lt_trans g hf
              clear g
              replace h : EC C f 18 ab_main 328 [some (rf 98 (0)), some (rf 11 (0)), some (rf 13 (14)), some (rf 13 (15)), some (rf 13 (16)), some (rf 13 (17)), some (rf 14 (6)), y7, some (.inl (u8)), some (.inl (u9)), some (.inl (u10)), some (.inl (u11)), y12, y13, y14, y15, y16, y17] [.inl (Int32.ofInt 1), rf 13 (17), rf 13 (15), rf 13 (14), rf 11 (0)] τ (w, σ') := h
              replace h := ec_p h rfl rfl rfl rfl
              obtain ⟨f, g, h⟩ := h
              replace hf := Nat.lt_trans g hf
              clear g
              replace h : EC C f 18 ab_main 336 [some (rf 98 (0)), some (rf 11 (0)), some (rf 13 (14)), some (rf 13 (15)), some (rf 13 (16)), some (rf 13 (17)), some (rf 14 (6)), y7, some (.inl (u8)), some (.inl (u9)), some (.inl (u10)), some (.inl (u11)), y12, y13, y14, y15, y16, y17] [.inl (Int32.ofInt 1), rf 13 (17), rf 13 (15), rf 13 (14), rf 11 (0)] τ (w, σ') := h
              replace h := ec_p h rfl rfl rfl rfl
              obtain ⟨f, g, h⟩ := h
              replace hf := Nat.lt_trans g hf
              clear g
              replace h : EC C f 18 ab_main 338 [some (rf 98 (0)), some (rf 11 (0)), some (rf 13 (14)), some (rf 13 (15)), some (rf 13 (16)), some (rf 13 (17)), some (rf 14 (6)), y7, some (.inl (u8)), some (.inl (u9)), some (.inl (u10)), some (.inl (u11)), y12, y13, y14, y15, y16, y17] [.inl (u10), .inl (Int32.ofInt 1), rf 13 (17), rf 13 (15), rf 13 (14), rf 11 (0)] τ (w, σ') := h
              replace h := ec_p h rfl rfl rfl rfl
              obtain ⟨f, g, h⟩ := h
              replace hf := Nat.lt_trans g hf
              clear g
              replace h : EC C f 18 ab_main 340 [some (rf 98 (0)), some (rf 11 (0)), some (rf 13 (14)), some (rf 13 (15)), some (rf 13 (16)), some (rf 13 (17)), some (rf 14 (6)), y7, some (.inl (u8)), some (.inl (u9)), some (.inl (u10)), some (.inl (u11)), y12, y13, y14, y15, y16, y17] [.inl (u11), .inl (u10), .inl (Int32.ofInt 1), rf 13 (17), rf 13 (15), rf 13 (14), rf 11 (0)] τ (w, σ') := h
              replace h := cx_I hC (ec_s (as := [.inl (u11), .inl (u10), .inl (Int32.ofInt 1), rf 13 (17), rf 13 (15), rf 13 (14), rf 11 (0)]) h rfl (Nat.le_of_ble_eq_true rfl) rfl rfl) rfl z187_at (Or.inr rfl)
              rcases h with ⟨v26, σ27, r28, f, g, h⟩ | ⟨b, σ27, r28, e⟩
              · skip
                replace hf := Nat.lt_trans g hf
                clear g
                have p29 := x187 hsτ r28
                refine Or.inl ⟨v26, σ27, r28, p29, fun hsσ27 => ?_⟩
                replace h : EC C f 18 ab_main 343 [some (rf 98 (0)), some (rf 11 (0)), some (rf 13 (14)), some (rf 13 (15)), some (rf 13 (16)), some (rf 13 (17)), some (rf 14 (6)), y7, some (.inl (u8)), some (.inl (u9)), some (.inl (u10)), some (.inl (u11)), y12, y13, y14, y15, y16, y17] [.inl (v26)] σ27 (w, σ') := h
                replace h := ec_p h rfl rfl rfl rfl
                obtain ⟨f, g, h⟩ := h
                replace hf := Nat.lt_trans g hf
                clear g
                replace h : EC C f 18 ab_main 345 [some (rf 98 (0)), some (rf 11 (0)), some (rf 13 (14)), some (rf 13 (15)), some (rf 13 (16)), some (rf 13 (17)), some (rf 14 (6)), some (.inl (v26)), some (.inl (u8)), some (.inl (u9)), some (.inl (u10)), some (.inl (u11)), y12, y13, y14, y15, y16, y17] [] σ27 (w, σ') := h
                replace h := ec_p h rfl rfl rfl rfl
                obtain ⟨f, g, h⟩ := h
                replace hf := Nat.lt_trans g hf
                clear g
                replace h : EC C f 18 ab_main 925 [some (rf 98 (0)), some (rf 11 (0)), some (rf 13 (14)), some (rf 13 (15)), some (rf 13 (16)), some (rf 13 (17)), some (rf 14 (6)), some (.inl (v26)), some (.inl (u8)), some (.inl (u9)), some (.inl (u10)), some (.inl (u11)), y12, y13, y14, y15, y16, y17] [] σ27 (w, σ') := h
                exact H925 f hf (v26) (u8) (u11) (some (.inl (u9))) (some (.inl (u10))) y12 y13 y14 y15 y16 y17 σ27 hsσ27 h
              · skip
                have p29 := x187 hsτ r28
                cases e
                exact Or.inr ⟨b, p29, rfl⟩
          · skip
            replace hp20 : ¬ ((23 : Int) ≤ (u9).toInt) := (not_congr ic_ge).mp hp20
            refine Or.inr ⟨hp20, ?_⟩
            replace hf := Nat.lt_trans g hf
            clear g
            replace h : EC C f 18 ab_main 316 [some (rf 98 (0)), some (rf 11 (0)), some (rf 13 (14)), some (rf 13 (15)), some (rf 13 (16)), some (rf 13 (17)), some (rf 14 (6)), y7, some (.inl (u8)), some (.inl (u9)), some (.inl (u10)), some (.inl (u11)), y12, y13, y14, y15, y16, y17] [rf 13 (17), rf 13 (15), rf 13 (14), rf 11 (0)] τ (w, σ') := h
            replace h := ec_p h rfl rfl rfl rfl
            obtain ⟨f, g, h⟩ := h
            replace hf := Nat.lt_trans g hf
            clear g
            replace h : EC C f 18 ab_main 317 [some (rf 98 (0)), some (rf 11 (0)), some (rf 13 (14)), some (rf 13 (15)), some (rf 13 (16)), some (rf 13 (17)), some (rf 14 (6)), y7, some (.inl (u8)), some (.inl (u9)), some (.inl (u10)), some (.inl (u11)), y12, y13, y14, y15, y16, y17] [.inl (Int32.ofInt 0), rf 13 (17), rf 13 (15), rf 13 (14), rf 11 (0)] τ (w, σ') := h
            replace h := ec_p h rfl rfl rfl rfl
            obtain ⟨f, g, h⟩ := h
            replace hf := Nat.lt_trans g hf
            clear g
            replace h : EC C f 18 ab_main 336 [some (rf 98 (0)), some (rf 11 (0)), some (rf 13 (14)), some (rf 13 (15)), some (rf 13 (16)), some (rf 13 (17)), some (rf 14 (6)), y7, some (.inl (u8)), some (.inl (u9)), some (.inl (u10)), some (.inl (u11)), y12, y13, y14, y15, y16, y17] [.inl (Int32.ofInt 0), rf 13 (17), rf 13 (15), rf 13 (14), rf 11 (0)] τ (w, σ') := h
            replace h := ec_p h rfl rfl rfl rfl
            obtain ⟨f, g, h⟩ := h
            replace hf := Nat.lt_trans g hf
            clear g
            replace h : EC C f 18 ab_main 338 [some (rf 98 (0)), some (rf 11 (0)), some (rf 13 (14)), some (rf 13 (15)), some (rf 13 (16)), some (rf 13 (17)), some (rf 14 (6)), y7, some (.inl (u8)), some (.inl (u9)), some (.inl (u10)), some (.inl (u11)), y12, y13, y14, y15, y16, y17] [.inl (u10), .inl (Int32.ofInt 0), rf 13 (17), rf 13 (15), rf 13 (14), rf 11 (0)] τ (w, σ') := h
            replace h := ec_p h rfl rfl rfl rfl
            obtain ⟨f, g, h⟩ := h
            replace hf := Nat.lt_trans g hf
            clear g
            replace h : EC C f 18 ab_main 340 [some (rf 98 (0)), some (rf 11 (0)), some (rf 13 (14)), some (rf 13 (15)), some (rf 13 (16)), some (rf 13 (17)), some (rf 14 (6)), y7, some (.inl (u8)), some (.inl (u9)), some (.inl (u10)), some (.inl (u11)), y12, y13, y14, y15, y16, y17] [.inl (u11), .inl (u10), .inl (Int32.ofInt 0), rf 13 (17), rf 13 (15), rf 13 (14), rf 11 (0)] τ (w, σ') := h
            replace h := cx_I hC (ec_s (as := [.inl (u11), .inl (u10), .inl (Int32.ofInt 0), rf 13 (17), rf 13 (15), rf 13 (14), rf 11 (0)]) h rfl (Nat.le_of_ble_eq_true rfl) rfl rfl) rfl z187_at (Or.inr rfl)
            rcases h with ⟨v30, σ31, r32, f, g, h⟩ | ⟨b, σ31, r32, e⟩
            · skip
              replace hf := Nat.lt_trans g hf
              clear g
              have p33 := x187 hsτ r32
              refine Or.inl ⟨v30, σ31, r32, p33, fun hsσ31 => ?_⟩
              replace h : EC C f 18 ab_main 343 [some (rf 98 (0)), some (rf 11 (0)), some (rf 13 (14)), some (rf 13 (15)), some (rf 13 (16)), some (rf 13 (17)), some (rf 14 (6)), y7, some (.inl (u8)), some (.inl (u9)), some (.inl (u10)), some (.inl (u11)), y12, y13, y14, y15, y16, y17] [.inl (v30)] σ31 (w, σ') := h
              replace h := ec_p h rfl rfl rfl rfl
              obtain ⟨f, g, h⟩ := h
              replace hf := Nat.lt_trans g hf
              clear g
              replace h : EC C f 18 ab_main 345 [some (rf 98 (0)), some (rf 11 (0)), some (rf 13 (14)), some (rf 13 (15)), some (rf 13 (16)), some (rf 13 (17)), some (rf 14 (6)), some (.inl (v30)), some (.inl (u8)), some (.inl (u9)), some (.inl (u10)), some (.inl (u11)), y12, y13, y14, y15, y16, y17] [] σ31 (w, σ') := h
              replace h := ec_p h rfl rfl rfl rfl
              obtain ⟨f, g, h⟩ := h
              replace hf := Nat.lt_trans g hf
              clear g
              replace h : EC C f 18 ab_main 925 [some (rf 98 (0)), some (rf 11 (0)), some (rf 13 (14)), some (rf 13 (15)), some (rf 13 (16)), some (rf 13 (17)), some (rf 14 (6)), some (.inl (v30)), some (.inl (u8)), some (.inl (u9)), some (.inl (u10)), some (.inl (u11)), y12, y13, y14, y15, y16, y17] [] σ31 (w, σ') := h
              exact H925 f hf (v30) (u8) (u11) (some (.inl (u9))) (some (.inl (u10))) y12 y13 y14 y15 y16 y17 σ31 hsσ31 h
            · skip
              have p33 := x187 hsτ r32
              cases e
              exact Or.inr ⟨b, p33, rfl⟩
      · skip
        replace hp3 : ¬ ((22 : Int) ≤ (u9).toInt) := (not_congr ic_ge).mp hp3
        refine Or.inr ⟨hp3, ?_⟩
        replace hf := Nat.lt_trans g hf
        clear g
        replace h : EC C f 18 ab_main 269 [some (rf 98 (0)), some (rf 11 (0)), some (rf 13 (14)), some (rf 13 (15)), some (rf 13 (16)), some (rf 13 (17)), some (rf 14 (6)), y7, some (.inl (u8)), some (.inl (u9)), some (.inl (u10)), some (.inl (u11)), y12, y13, y14, y15, y16, y17] [] τ (w, σ') := h
        replace h := ec_p h rfl rfl rfl rfl
        obtain ⟨f, g, h⟩ := h
        replace hf := Nat.lt_trans g hf
        clear g
        replace h : EC C f 18 ab_main 270 [some (rf 98 (0)), some (rf 11 (0)), some (rf 13 (14)), some (rf 13 (15)), some (rf 13 (16)), some (rf 13 (17)), some (rf 14 (6)), y7, some (.inl (u8)), some (.inl (u9)), some (.inl (u10)), some (.inl (u11)), y12, y13, y14, y15, y16, y17] [rf 11 (0)] τ (w, σ') := h
        replace h := ec_p h rfl rfl rfl rfl
        obtain ⟨f, g, h⟩ := h
        replace hf := Nat.lt_trans g hf
        clear g
        replace h : EC C f 18 ab_main 271 [some (rf 98 (0)), some (rf 11 (0)), some (rf 13 (14)), some (rf 13 (15)), some (rf 13 (16)), some (rf 13 (17)), some (rf 14 (6)), y7, some (.inl (u8)), some (.inl (u9)), some (.inl (u10)), some (.inl (u11)), y12, y13, y14, y15, y16, y17] [rf 13 (15), rf 11 (0)] τ (w, σ') := h
        replace h := ec_p h rfl rfl rfl rfl
        obtain ⟨f, g, h⟩ := h
        replace hf := Nat.lt_trans g hf
        clear g
        replace h : EC C f 18 ab_main 273 [some (rf 98 (0)), some (rf 11 (0)), some (rf 13 (14)), some (rf 13 (15)), some (rf 13 (16)), some (rf 13 (17)), some (rf 14 (6)), y7, some (.inl (u8)), some (.inl (u9)), some (.inl (u10)), some (.inl (u11)), y12, y13, y14, y15, y16, y17] [rf 13 (17), rf 13 (15), rf 11 (0)] τ (w, σ') := h
        replace h := ec_p h rfl rfl rfl rfl
        obtain ⟨f, g, h⟩ := h
        replace hf := Nat.lt_trans g hf
        clear g
        replace h : EC C f 18 ab_main 275 [some (rf 98 (0)), some (rf 11 (0)), some (rf 13 (14)), some (rf 13 (15)), some (rf 13 (16)), some (rf 13 (17)), some (rf 14 (6)), y7, some (.inl (u8)), some (.inl (u9)), some (.inl (u10)), some (.inl (u11)), y12, y13, y14, y15, y16, y17] [.inl (u9), rf 13 (17), rf 13 (15), rf 11 (0)] τ (w, σ') := h
        replace h := ec_p h rfl rfl rfl rfl
        obtain ⟨f, g, h⟩ := h
        replace hf := Nat.lt_trans g hf
        clear g
        replace h : EC C f 18 ab_main 277 [some (rf 98 (0)), some (rf 11 (0)), some (rf 13 (14)), some (rf 13 (15)), some (rf 13 (16)), some (rf 13 (17)), some (rf 14 (6)), y7, some (.inl (u8)), some (.inl (u9)), some (.inl (u10)), some (.inl (u11)), y12, y13, y14, y15, y16, y17] [.inl (Int32.ofInt 21), .inl (u9), rf 13 (17), rf 13 (15), rf 11 (0)] τ (w, σ') := h
        replace h := ec_c h rfl rfl rfl
        rcases h with ⟨hp34, f, g, h⟩ | ⟨hp34, f, g, h⟩
        · skip
          replace hp34 : (21 : Int) ≤ (u9).toInt := ic_ge.mp hp34
          refine Or.inl ⟨hp34, ?_⟩
          replace hf := Nat.lt_trans g hf
          clear g
          replace h : EC C f 18 ab_main 284 [some (rf 98 (0)), some (rf 11 (0)), some (rf 13 (14)), some (rf 13 (15)), some (rf 13 (16)), some (rf 13 (17)), some (rf 14 (6)), y7, some (.inl (u8)), some (.inl (u9)), some (.inl (u10)), some (.inl (u11)), y12, y13, y14, y15, y16, y17] [rf 13 (17), rf 13 (15), rf 11 (0)] τ (w, σ') := h
          replace h := ec_p h rfl rfl rfl rfl
          obtain ⟨f, g, h⟩ := h
          replace hf := Nat.lt_trans g hf
          clear g
          replace h : EC C f 18 ab_main 285 [some (rf 98 (0)), some (rf 11 (0)), some (rf 13 (14)), some (rf 13 (15)), some (rf 13 (16)), some (rf 13 (17)), some (rf 14 (6)), y7, some (.inl (u8)), some (.inl (u9)), some (.inl (u10)), some (.inl (u11)), y12, y13, y14, y15, y16, y17] [.inl (Int32.ofInt 1), rf 13 (17), rf 13 (15), rf 11 (0)] τ (w, σ') := h
          replace h := ec_p h rfl rfl rfl rfl
          obtain ⟨f, g, h⟩ := h
          replace hf := Nat.lt_trans g hf
          clear g
          replace h : EC C f 18 ab_main 287 [some (rf 98 (0)), some (rf 11 (0)), some (rf 13 (14)), some (rf 13 (15)), some (rf 13 (16)), some (rf 13 (17)), some (rf 14 (6)), y7, some (.inl (u8)), some (.inl (u9)), some (.inl (u10)), some (.inl (u11)), y12, y13, y14, y15, y16, y17] [.inl (u10), .inl (Int32.ofInt 1), rf 13 (17), rf 13 (15), rf 11 (0)] τ (w, σ') := h
          replace h := ec_p h rfl rfl rfl rfl
          obtain ⟨f, g, h⟩ := h
          replace hf := Nat.lt_trans g hf
          clear g
          replace h : EC C f 18 ab_main 289 [some (rf 98 (0)), some (rf 11 (0)), some (rf 13 (14)), some (rf 13 (15)), some (rf 13 (16)), some (rf 13 (17)), some (rf 14 (6)), y7, some (.inl (u8)), some (.inl (u9)), some (.inl (u10)), some (.inl (u11)), y12, y13, y14, y15, y16, y17] [.inl (u11), .inl (u10), .inl (Int32.ofInt 1), rf 13 (17), rf 13 (15), rf 11 (0)] τ (w, σ') := h
          replace h := cx_I hC (ec_s (as := [.inl (u11), .inl (u10), .inl (Int32.ofInt 1), rf 13 (17), rf 13 (15), rf 11 (0)]) h rfl (Nat.le_of_ble_eq_true rfl) rfl rfl) rfl z186_at (Or.inr rfl)
          rcases h with ⟨v35, σ36, r37, f, g, h⟩ | ⟨b, σ36, r37, e⟩
          · skip
            replace hf := Nat.lt_trans g hf
            clear g
            have p38 := x186 hsτ r37
            refine Or.inl ⟨v35, σ36, r37, p38, fun hsσ36 => ?_⟩
            replace h : EC C f 18 ab_main 292 [some (rf 98 (0)), some (rf 11 (0)), some (rf 13 (14)), some (rf 13 (15)), some (rf 13 (16)), some (rf 13 (17)), some (rf 14 (6)), y7, some (.inl (u8)), some (.inl (u9)), some (.inl (u10)), some (.inl (u11)), y12, y13, y14, y15, y16, y17] [.inl (v35)] σ36 (w, σ') := h
            replace h := ec_p h rfl rfl rfl rfl
            obtain ⟨f, g, h⟩ := h
            replace hf := Nat.lt_trans g hf
            clear g
            replace h : EC C f 18 ab_main 294 [some (rf 98 (0)), some (rf 11 (0)), some (rf 13 (14)), some (rf 13 (15)), some (rf 13 (16)), some (rf 13 (17)), some (rf 14 (6)), some (.inl (v35)), some (.inl (u8)), some (.inl (u9)), some (.inl (u10)), some (.inl (u11)), y12, y13, y14, y15, y16, y17] [] σ36 (w, σ') := h
            replace h := ec_p h rfl rfl rfl rfl
            obtain ⟨f, g, h⟩ := h
            replace hf := Nat.lt_trans g hf
            clear g
            replace h : EC C f 18 ab_main 925 [some (rf 98 (0)), some (rf 11 (0)), some (rf 13 (14)), some (rf 13 (15)), some (rf 13 (16)), some (rf 13 (17)), some (rf 14 (6)), some (.inl (v35)), some (.inl (u8)), some (.inl (u9)), some (.inl (u10)), some (.inl (u11)), y12, y13, y14, y15, y16, y17] [] σ36 (w, σ') := h
            exact H925 f hf (v35) (u8) (u11) (some (.inl (u9))) (some (.inl (u10))) y12 y13 y14 y15 y16 y17 σ36 hsσ36 h
          · skip
            have p38 := x186 hsτ r37
            cases e
            exact Or.inr ⟨b, p38, rfl⟩
        · skip
          replace hp34 : ¬ ((21 : Int) ≤ (u9).toInt) := (not_congr ic_ge).mp hp34
          refine Or.inr ⟨hp34, ?_⟩
          replace hf := Nat.lt_trans g hf
          clear g
          replace h : EC C f 18 ab_main 280 [some (rf 98 (0)), some (rf 11 (0)), some (rf 13 (14)), some (rf 13 (15)), some (rf 13 (16)), some (rf 13 (17)), some (rf 14 (6)), y7, some (.inl (u8)), some (.inl (u9)), some (.inl (u10)), some (.inl (u11)), y12, y13, y14, y15, y16, y17] [rf 13 (17), rf 13 (15), rf 11 (0)] τ (w, σ') := h
          replace h := ec_p h rfl rfl rfl rfl
          obtain ⟨f, g, h⟩ := h
          replace hf := Nat.lt_trans g hf
          clear g
          replace h : EC C f 18 ab_main 281 [some (rf 98 (0)), some (rf 11 (0)), some (rf 13 (14)), some (rf 13 (15)), some (rf 13 (16)), some (rf 13 (17)), some (rf 14 (6)), y7, some (.inl (u8)), some (.inl (u9)), some (.inl (u10)), some (.inl (u11)), y12, y13, y14, y15, y16, y17] [.inl (Int32.ofInt 0), rf 13 (17), rf 13 (15), rf 11 (0)] τ (w, σ') := h
          replace h := ec_p h rfl rfl rfl rfl
          obtain ⟨f, g, h⟩ := h
          replace hf := Nat.lt_trans g hf
          clear g
          replace h : EC C f 18 ab_main 285 [some (rf 98 (0)), some (rf 11 (0)), some (rf 13 (14)), some (rf 13 (15)), some (rf 13 (16)), some (rf 13 (17)), some (rf 14 (6)), y7, some (.inl (u8)), some (.inl (u9)), some (.inl (u10)), some (.inl (u11)), y12, y13, y14, y15, y16, y17] [.inl (Int32.ofInt 0), rf 13 (17), rf 13 (15), rf 11 (0)] τ (w, σ') := h
          replace h := ec_p h rfl rfl rfl rfl
          obtain ⟨f, g, h⟩ := h
          replace hf := Nat.lt_trans g hf
          clear g
          replace h : EC C f 18 ab_main 287 [some (rf 98 (0)), some (rf 11 (0)), some (rf 13 (14)), some (rf 13 (15)), some (rf 13 (16)), some (rf 13 (17)), some (rf 14 (6)), y7, some (.inl (u8)), some (.inl (u9)), some (.inl (u10)), some (.inl (u11)), y12, y13, y14, y15, y16, y17] [.inl (u10), .inl (Int32.ofInt 0), rf 13 (17), rf 13 (15), rf 11 (0)] τ (w, σ') := h
          replace h := ec_p h rfl rfl rfl rfl
          obtain ⟨f, g, h⟩ := h
          replace hf := Nat.lt_trans g hf
          clear g
          replace h : EC C f 18 ab_main 289 [some (rf 98 (0)), some (rf 11 (0)), some (rf 13 (14)), some (rf 13 (15)), some (rf 13 (16)), some (rf 13 (17)), some (rf 14 (6)), y7, some (.inl (u8)), some (.inl (u9)), some (.inl (u10)), some (.inl (u11)), y12, y13, y14, y15, y16, y17] [.inl (u11), .inl (u10), .inl (Int32.ofInt 0), rf 13 (17), rf 13 (15), rf 11 (0)] τ (w, σ') := h
          replace h := cx_I hC (ec_s (as := [.inl (u11), .inl (u10), .inl (Int32.ofInt 0), rf 13 (17), rf 13 (15), rf 11 (0)]) h rfl (Nat.le_of_ble_eq_true rfl) rfl rfl) rfl z186_at (Or.inr rfl)
          rcases h with ⟨v39, σ40, r41, f, g, h⟩ | ⟨b, σ40, r41, e⟩
          · skip
            replace hf := Nat.lt_trans g hf
            clear g
            have p42 := x186 hsτ r41
            refine Or.inl ⟨v39, σ40, r41, p42, fun hsσ40 => ?_⟩
            replace h : EC C f 18 ab_main 292 [some (rf 98 (0)), some (rf 11 (0)), some (rf 13 (14)), some (rf 13 (15)), some (rf 13 (16)), some (rf 13 (17)), some (rf 14 (6)), y7, some (.inl (u8)), some (.inl (u9)), some (.inl (u10)), some (.inl (u11)), y12, y13, y14, y15, y16, y17] [.inl (v39)] σ40 (w, σ') := h
            replace h := ec_p h rfl rfl rfl rfl
            obtain ⟨f, g, h⟩ := h
            replace hf := Nat.lt_trans g hf
            clear g
            replace h : EC C f 18 ab_main 294 [some (rf 98 (0)), some (rf 11 (0)), some (rf 13 (14)), some (rf 13 (15)), some (rf 13 (16)), some (rf 13 (17)), some (rf 14 (6)), some (.inl (v39)), some (.inl (u8)), some (.inl (u9)), some (.inl (u10)), some (.inl (u11)), y12, y13, y14, y15, y16, y17] [] σ40 (w, σ') := h
            replace h := ec_p h rfl rfl rfl rfl
            obtain ⟨f, g, h⟩ := h
            replace hf := Nat.lt_trans g hf
            clear g
            replace h : EC C f 18 ab_main 925 [some (rf 98 (0)), some (rf 11 (0)), some (rf 13 (14)), some (rf 13 (15)), some (rf 13 (16)), some (rf 13 (17)), some (rf 14 (6)), some (.inl (v39)), some (.inl (u8)), some (.inl (u9)), some (.inl (u10)), some (.inl (u11)), y12, y13, y14, y15, y16, y17] [] σ40 (w, σ') := h
            exact H925 f hf (v39) (u8) (u11) (some (.inl (u9))) (some (.inl (u10))) y12 y13 y14 y15 y16 y17 σ40 hsσ40 h
          · skip
            have p42 := x186 hsτ r41
            cases e
            exact Or.inr ⟨b, p42, rfl⟩
    · skip
      replace hp2 : ¬ ((19 : Int) ≤ (u9).toInt) := (not_congr ic_ge).mp hp2
      refine Or.inr ⟨hp2, ?_⟩
      replace hf := Nat.lt_trans g hf
      clear g
      replace h : EC C f 18 ab_main 245 [some (rf 98 (0)), some (rf 11 (0)), some (rf 13 (14)), some (rf 13 (15)), some (rf 13 (16)), some (rf 13 (17)), some (rf 14 (6)), y7, some (.inl (u8)), some (.inl (u9)), some (.inl (u10)), some (.inl (u11)), y12, y13, y14, y15, y16, y17] [] τ (w, σ') := h
      replace h := ec_p h rfl rfl rfl rfl
      obtain ⟨f, g, h⟩ := h
      replace hf := Nat.lt_trans g hf
      clear g
      replace h : EC C f 18 ab_main 246 [some (rf 98 (0)), some (rf 11 (0)), some (rf 13 (14)), some (rf 13 (15)), some (rf 13 (16)), some (rf 13 (17)), some (rf 14 (6)), y7, some (.inl (u8)), some (.inl (u9)), some (.inl (u10)), some (.inl (u11)), y12, y13, y14, y15, y16, y17] [rf 11 (0)] τ (w, σ') := h
      replace h := ec_p h rfl rfl rfl rfl
      obtain ⟨f, g, h⟩ := h
      replace hf := Nat.lt_trans g hf
      clear g
      replace h : EC C f 18 ab_main 247 [some (rf 98 (0)), some (rf 11 (0)), some (rf 13 (14)), some (rf 13 (15)), some (rf 13 (16)), some (rf 13 (17)), some (rf 14 (6)), y7, some (.inl (u8)), some (.inl (u9)), some (.inl (u10)), some (.inl (u11)), y12, y13, y14, y15, y16, y17] [rf 13 (14), rf 11 (0)] τ (w, σ') := h
      replace h := ec_p h rfl rfl rfl rfl
      obtain ⟨f, g, h⟩ := h
      replace hf := Nat.lt_trans g hf
      clear g
      replace h : EC C f 18 ab_main 248 [some (rf 98 (0)), some (rf 11 (0)), some (rf 13 (14)), some (rf 13 (15)), some (rf 13 (16)), some (rf 13 (17)), some (rf 14 (6)), y7, some (.inl (u8)), some (.inl (u9)), some (.inl (u10)), some (.inl (u11)), y12, y13, y14, y15, y16, y17] [rf 13 (15), rf 13 (14), rf 11 (0)] τ (w, σ') := h
      replace h := ec_p h rfl rfl rfl rfl
      obtain ⟨f, g, h⟩ := h
      replace hf := Nat.lt_trans g hf
      clear g
      replace h : EC C f 18 ab_main 250 [some (rf 98 (0)), some (rf 11 (0)), some (rf 13 (14)), some (rf 13 (15)), some (rf 13 (16)), some (rf 13 (17)), some (rf 14 (6)), y7, some (.inl (u8)), some (.inl (u9)), some (.inl (u10)), some (.inl (u11)), y12, y13, y14, y15, y16, y17] [rf 13 (17), rf 13 (15), rf 13 (14), rf 11 (0)] τ (w, σ') := h
      replace h := ec_p h rfl rfl rfl rfl
      obtain ⟨f, g, h⟩ := h
      replace hf := Nat.lt_trans g hf
      clear g
      replace h : EC C f 18 ab_main 252 [some (rf 98 (0)), some (rf 11 (0)), some (rf 13 (14)), some (rf 13 (15)), some (rf 13 (16)), some (rf 13 (17)), some (rf 14 (6)), y7, some (.inl (u8)), some (.inl (u9)), some (.inl (u10)), some (.inl (u11)), y12, y13, y14, y15, y16, y17] [.inl (u10), rf 13 (17), rf 13 (15), rf 13 (14), rf 11 (0)] τ (w, σ') := h
      replace h := ec_p h rfl rfl rfl rfl
      obtain ⟨f, g, h⟩ := h
      replace hf := Nat.lt_trans g hf
      clear g
      replace h : EC C f 18 ab_main 254 [some (rf 98 (0)), some (rf 11 (0)), some (rf 13 (14)), some (rf 13 (15)), some (rf 13 (16)), some (rf 13 (17)), some (rf 14 (6)), y7, some (.inl (u8)), some (.inl (u9)), some (.inl (u10)), some (.inl (u11)), y12, y13, y14, y15, y16, y17] [.inl (u11), .inl (u10), rf 13 (17), rf 13 (15), rf 13 (14), rf 11 (0)] τ (w, σ') := h
      replace h := cx_I hC (ec_s (as := [.inl (u11), .inl (u10), rf 13 (17), rf 13 (15), rf 13 (14), rf 11 (0)]) h rfl (Nat.le_of_ble_eq_true rfl) rfl rfl) rfl z185_at (Or.inr rfl)
      rcases h with ⟨v43, σ44, r45, f, g, h⟩ | ⟨b, σ44, r45, e⟩
      · skip
        replace hf := Nat.lt_trans g hf
        clear g
        have p46 := x185 hsτ r45
        refine Or.inl ⟨v43, σ44, r45, p46, fun hsσ44 => ?_⟩
        replace h : EC C f 18 ab_main 257 [some (rf 98 (0)), some (rf 11 (0)), some (rf 13 (14)), some (rf 13 (15)), some (rf 13 (16)), some (rf 13 (17)), some (rf 14 (6)), y7, some (.inl (u8)), some (.inl (u9)), some (.inl (u10)), some (.inl (u11)), y12, y13, y14, y15, y16, y17] [.inl (v43)] σ44 (w, σ') := h
        replace h := ec_p h rfl rfl rfl rfl
        obtain ⟨f, g, h⟩ := h
        replace hf := Nat.lt_trans g hf
        clear g
        replace h : EC C f 18 ab_main 259 [some (rf 98 (0)), some (rf 11 (0)), some (rf 13 (14)), some (rf 13 (15)), some (rf 13 (16)), some (rf 13 (17)), some (rf 14 (6)), some (.inl (v43)), some (.inl (u8)), some (.inl (u9)), some (.inl (u10)), some (.inl (u11)), y12, y13, y14, y15, y16, y17] [] σ44 (w, σ') := h
        replace h := ec_p h rfl rfl rfl rfl
        obtain ⟨f, g, h⟩ := h
        replace hf := Nat.lt_trans g hf
        clear g
        replace h : EC C f 18 ab_main 925 [some (rf 98 (0)), some (rf 11 (0)), some (rf 13 (14)), some (rf 13 (15)), some (rf 13 (16)), some (rf 13 (17)), some (rf 14 (6)), some (.inl (v43)), some (.inl (u8)), some (.inl (u9)), some (.inl (u10)), some (.inl (u11)), y12, y13, y14, y15, y16, y17] [] σ44 (w, σ') := h
        exact H925 f hf (v43) (u8) (u11) (some (.inl (u9))) (some (.inl (u10))) y12 y13 y14 y15 y16 y17 σ44 hsσ44 h
      · skip
        have p46 := x185 hsτ r45
        cases e
        exact Or.inr ⟨b, p46, rfl⟩
  · skip
    replace hp1 : ¬ ((16 : Int) ≤ (u9).toInt) := (not_congr ic_ge).mp hp1
    refine Or.inr ⟨hp1, ?_⟩
    replace hf := Nat.lt_trans g hf
    clear g
    replace h : EC C f 18 ab_main 221 [some (rf 98 (0)), some (rf 11 (0)), some (rf 13 (14)), some (rf 13 (15)), some (rf 13 (16)), some (rf 13 (17)), some (rf 14 (6)), y7, some (.inl (u8)), some (.inl (u9)), some (.inl (u10)), some (.inl (u11)), y12, y13, y14, y15, y16, y17] [] τ (w, σ') := h
    replace h := ec_p h rfl rfl rfl rfl
    obtain ⟨f, g, h⟩ := h
    replace hf := Nat.lt_trans g hf
    clear g
    replace h : EC C f 18 ab_main 222 [some (rf 98 (0)), some (rf 11 (0)), some (rf 13 (14)), some (rf 13 (15)), some (rf 13 (16)), some (rf 13 (17)), some (rf 14 (6)), y7, some (.inl (u8)), some (.inl (u9)), some (.inl (u10)), some (.inl (u11)), y12, y13, y14, y15, y16, y17] [rf 11 (0)] τ (w, σ') := h
    replace h := ec_p h rfl rfl rfl rfl
    obtain ⟨f, g, h⟩ := h
    replace hf := Nat.lt_trans g hf
    clear g
    replace h : EC C f 18 ab_main 223 [some (rf 98 (0)), some (rf 11 (0)), some (rf 13 (14)), some (rf 13 (15)), some (rf 13 (16)), some (rf 13 (17)), some (rf 14 (6)), y7, some (.inl (u8)), some (.inl (u9)), some (.inl (u10)), some (.inl (u11)), y12, y13, y14, y15, y16, y17] [rf 13 (14), rf 11 (0)] τ (w, σ') := h
    replace h := ec_p h rfl rfl rfl rfl
    obtain ⟨f, g, h⟩ := h
    replace hf := Nat.lt_trans g hf
    clear g
    replace h : EC C f 18 ab_main 224 [some (rf 98 (0)), some (rf 11 (0)), some (rf 13 (14)), some (rf 13 (15)), some (rf 13 (16)), some (rf 13 (17)), some (rf 14 (6)), y7, some (.inl (u8)), some (.inl (u9)), some (.inl (u10)), some (.inl (u11)), y12, y13, y14, y15, y16, y17] [rf 13 (15), rf 13 (14), rf 11 (0)] τ (w, σ') := h
    replace h := ec_p h rfl rfl rfl rfl
    obtain ⟨f, g, h⟩ := h
    replace hf := Nat.lt_trans g hf
    clear g
    replace h : EC C f 18 ab_main 226 [some (rf 98 (0)), some (rf 11 (0)), some (rf 13 (14)), some (rf 13 (15)), some (rf 13 (16)), some (rf 13 (17)), some (rf 14 (6)), y7, some (.inl (u8)), some (.inl (u9)), some (.inl (u10)), some (.inl (u11)), y12, y13, y14, y15, y16, y17] [rf 13 (17), rf 13 (15), rf 13 (14), rf 11 (0)] τ (w, σ') := h
    replace h := ec_p h rfl rfl rfl rfl
    obtain ⟨f, g, h⟩ := h
    replace hf := Nat.lt_trans g hf
    clear g
    replace h : EC C f 18 ab_main 228 [some (rf 98 (0)), some (rf 11 (0)), some (rf 13 (14)), some (rf 13 (15)), some (rf 13 (16)), some (rf 13 (17)), some (rf 14 (6)), y7, some (.inl (u8)), some (.inl (u9)), some (.inl (u10)), some (.inl (u11)), y12, y13, y14, y15, y16, y17] [.inl (u10), rf 13 (17), rf 13 (15), rf 13 (14), rf 11 (0)] τ (w, σ') := h
    replace h := ec_p h rfl rfl rfl rfl
    obtain ⟨f, g, h⟩ := h
    replace hf := Nat.lt_trans g hf
    clear g
    replace h : EC C f 18 ab_main 230 [some (rf 98 (0)), some (rf 11 (0)), some (rf 13 (14)), some (rf 13 (15)), some (rf 13 (16)), some (rf 13 (17)), some (rf 14 (6)), y7, some (.inl (u8)), some (.inl (u9)), some (.inl (u10)), some (.inl (u11)), y12, y13, y14, y15, y16, y17] [.inl (u11), .inl (u10), rf 13 (17), rf 13 (15), rf 13 (14), rf 11 (0)] τ (w, σ') := h
    replace h := cx_I hC (ec_s (as := [.inl (u11), .inl (u10), rf 13 (17), rf 13 (15), rf 13 (14), rf 11 (0)]) h rfl (Nat.le_of_ble_eq_true rfl) rfl rfl) rfl z184_at (Or.inr rfl)
    rcases h with ⟨v47, σ48, r49, f, g, h⟩ | ⟨b, σ48, r49, e⟩
    · skip
      replace hf := Nat.lt_trans g hf
      clear g
      have p50 := x184 hsτ r49
      refine Or.inl ⟨v47, σ48, r49, p50, fun hsσ48 => ?_⟩
      replace h : EC C f 18 ab_main 233 [some (rf 98 (0)), some (rf 11 (0)), some (rf 13 (14)), some (rf 13 (15)), some (rf 13 (16)), some (rf 13 (17)), some (rf 14 (6)), y7, some (.inl (u8)), some (.inl (u9)), some (.inl (u10)), some (.inl (u11)), y12, y13, y14, y15, y16, y17] [.inl (v47)] σ48 (w, σ') := h
      replace h := ec_p h rfl rfl rfl rfl
      obtain ⟨f, g, h⟩ := h
      replace hf := Nat.lt_trans g hf
      clear g
      replace h : EC C f 18 ab_main 235 [some (rf 98 (0)), some (rf 11 (0)), some (rf 13 (14)), some (rf 13 (15)), some (rf 13 (16)), some (rf 13 (17)), some (rf 14 (6)), some (.inl (v47)), some (.inl (u8)), some (.inl (u9)), some (.inl (u10)), some (.inl (u11)), y12, y13, y14, y15, y16, y17] [] σ48 (w, σ') := h
      replace h := ec_p h rfl rfl rfl rfl
      obtain ⟨f, g, h⟩ := h
      replace hf := Nat.lt_trans g hf
      clear g
      replace h : EC C f 18 ab_main 925 [some (rf 98 (0)), some (rf 11 (0)), some (rf 13 (14)), some (rf 13 (15)), some (rf 13 (16)), some (rf 13 (17)), some (rf 14 (6)), some (.inl (v47)), some (.inl (u8)), some (.inl (u9)), some (.inl (u10)), some (.inl (u11)), y12, y13, y14, y15, y16, y17] [] σ48 (w, σ') := h
      exact H925 f hf (v47) (u8) (u11) (some (.inl (u9))) (some (.inl (u10))) y12 y13 y14 y15 y16 y17 σ48 hsσ48 h
    · skip
      have p50 := x184 hsτ r49
      cases e
      exact Or.inr ⟨b, p50, rfl⟩
def T409 (K480 : Int32 → Int32 → Int32 → Int64 → Int32 → mS → Prop) (K595 : Int32 → Int32 → Int32 → Int32 → mS → Prop) (u8 : Int32) (u9 : Int32) (u10 : Int32) (u11 : Int32) (τ : mS) (w : mX) (σ' : mS) : Prop := (((36 : Int) ≤ (u9).toInt ∧ K595 (u8) (u9) (u10) (u11) τ) ∨ (¬ ((36 : Int) ≤ (u9).toInt) ∧ ∃ n3, n3 = ((u10) - (u10) / (Int32.ofInt 103) * (Int32.ofInt 103)) - (Int32.ofInt 51) ∧ ∃ v8 σ9, gF τ σ9 ∧ HL σ9 ∧ ev_run sm_all 172 [rf 11 (0), .inl (Int32.ofInt 10), .inl (n3), .inl (((u11) - (u11) / (Int32.ofInt 101) * (Int32.ofInt 101)) - (Int32.ofInt 50)), .inl ((((u11) / (Int32.ofInt 101)) - ((u11) / (Int32.ofInt 101)) / (Int32.ofInt 101) * (Int32.ofInt 101)) - (Int32.ofInt 50)), .inl (Int32.ofInt 0), .inl (Int32.ofInt 0), .inl (Int32.ofInt 0), .inl (Int32.ofInt 0)] τ (.inl (some (.inr (.inl v8)))) σ9 ∧ P172 τ (Int32.ofInt 10) (n3) (((u11) - (u11) / (Int32.ofInt 101) * (Int32.ofInt 101)) - (Int32.ofInt 50)) ((((u11) / (Int32.ofInt 101)) - ((u11) / (Int32.ofInt 101)) / (Int32.ofInt 101) * (Int32.ofInt 101)) - (Int32.ofInt 50)) (Int32.ofInt 0) (Int32.ofInt 0) (Int32.ofInt 0) (Int32.ofInt 0) (.inl (some (.inr (.inl v8)))) σ9 ∧ (((n3).toInt ≤ (-51 : Int) ∧ K480 (u8) (u11) (n3) (v8) (Int32.ofInt 0) σ9) ∨ (¬ ((n3).toInt ≤ (-51 : Int)) ∧ (((51 : Int) ≤ (n3).toInt ∧ K480 (u8) (u11) (n3) (v8) (Int32.ofInt 0) σ9) ∨ (¬ ((51 : Int) ≤ (n3).toInt) ∧ K480 (u8) (u11) (n3) (v8) (Int32.ofInt 1) σ9))))))
set_option maxRecDepth 100000 in
theorem t409 {C : ec_C} (hC : CK C) {N : Nat} {w : mX} {σ' : mS} {K480 : Int32 → Int32 → Int32 → Int64 → Int32 → mS → Prop} {K595 : Int32 → Int32 → Int32 → Int32 → mS → Prop} (H480 : ∀ f, f < N → ∀ (u8 : Int32) (u11 : Int32) (u12 : Int32) (u13 : Int64) (u15 : Int32) (y7 : Option mV) (y9 : Option mV) (y10 : Option mV) (y16 : Option mV) (y17 : Option mV) (τ : mS), HL τ → EC C f 18 ab_main 480 [some (rf 98 (0)), some (rf 11 (0)), some (rf 13 (14)), some (rf 13 (15)), some (rf 13 (16)), some (rf 13 (17)), some (rf 14 (6)), y7, some (.inl (u8)), y9, y10, some (.inl (u11)), some (.inl (u12)), some (.inr (.inl (u13))), none, some (.inl (u15)), y16, y17] [] τ (w, σ') → K480 u8 u11 u12 u13 u15 τ) (H595 : ∀ f, f < N → ∀ (u8 : Int32) (u9 : Int32) (u10 : Int32) (u11 : Int32) (y7 : Option mV) (y12 : Option mV) (y13 : Option mV) (y14 : Option mV) (y15 : Option mV) (y16 : Option mV) (y17 : Option mV) (τ : mS), HL τ → EC C f 18 ab_main 595 [some (rf 98 (0)), some (rf 11 (0)), some (rf 13 (14)), some (rf 13 (15)), some (rf 13 (16)), some (rf 13 (17)), some (rf 14 (6)), y7, some (.inl (u8)), some (.inl (u9)), some (.inl (u10)), some (.inl (u11)), y12, y13, y14, y15, y16, y17] [] τ (w, σ') → K595 u8 u9 u10 u11 τ) : ∀ f, f < N + 1 → ∀ (u8 : Int32) (u9 : Int32) (u10 : Int32) (u11 : Int32) (y7 : Option mV) (y12 : Option mV) (y13 : Option mV) (y14 : Option mV) (y15 : Option mV) (y16 : Option mV) (y17 : Option mV) (τ : mS), HL τ → EC C f 18 ab_main 409 [some (rf 98 (0)), some (rf 11 (0)), some (rf 13 (14)), some (rf 13 (15)), some (rf 13 (16)), some (rf 13 (17)), some (rf 14 (6)), y7, some (.inl (u8)), some (.inl (u9)), some (.inl (u10)), some (.inl (u11)), y12, y13, y14, y15, y16, y17] [] τ (w, σ') → T409 K480 K595 u8 u9 u10 u11 τ w σ' := by
  intro f hf0 u8 u9 u10 u11 y7 y12 y13 y14 y15 y16 y17 τ hsτ h
  have hf : f < N + 1 := hf0
  clear hf0
  unfold T409
  replace h : EC C f 18 ab_main 409 [some (rf 98 (0)), some (rf 11 (0)), some (rf 13 (14)), some (rf 13 (15)), some (rf 13 (16)), some (rf 13 (17)), some (rf 14 (6)), y7, some (.inl (u8)), some (.inl (u9)), some (.inl (u10)), some (.inl (u11)), y12, y13, y14, y15, y16, y17] [] τ (w, σ') := h
  replace h := ec_p h rfl rfl rfl rfl
  obtain ⟨f, g, h⟩ := h
  replace hf := Nat.lt_of_lt_of_le g (Nat.le_of_lt_succ hf)
  clear g
  replace h : EC C f 18 ab_main 411 [some (rf 98 (0)), some (rf 11 (0)), some (rf 13 (14)), some (rf 13 (15)), some (rf 13 (16)), some (rf 13 (17)), some (rf 14 (6)), y7, some (.inl (u8)), some (.inl (u9)), some (.inl (u10)), some (.inl (u11)), y12, y13, y14, y15, y16, y17] [.inl (u9)] τ (w, σ') := h
  replace h := ec_p h rfl rfl rfl rfl
  obtain ⟨f, g, h⟩ := h
  replace hf := Nat.lt_trans g hf
  clear g
  replace h : EC C f 18 ab_main 413 [some (rf 98 (0)), some (rf 11 (0)), some (rf 13 (14)), some (rf 13 (15)), some (rf 13 (16)), some (rf 13 (17)), some (rf 14 (6)), y7, some (.inl (u8)), some (.inl (u9)), some (.inl (u10)), some (.inl (u11)), y12, y13, y14, y15, y16, y17] [.inl (Int32.ofInt 36), .inl (u9)] τ (w, σ') := h
  replace h := ec_c h rfl rfl rfl
  rcases h with ⟨hp1, f, g, h⟩ | ⟨hp1, f, g, h⟩
  · skip
    replace hp1 : (36 : Int) ≤ (u9).toInt := ic_ge.mp hp1
    refine Or.inl ⟨hp1, ?_⟩
    replace hf := Nat.lt_trans g hf
    clear g
    replace h : EC C f 18 ab_main 595 [some (rf 98 (0)), some (rf 11 (0)), some (rf 13 (14)), some (rf 13 (15)), some (rf 13 (16)), some (rf 13 (17)), some (rf 14 (6)), y7, some (.inl (u8)), some (.inl (u9)), some (.inl (u10)), some (.inl (u11)), y12, y13, y14, y15, y16, y17] [] τ (w, σ') := h
    exact H595 f hf (u8) (u9) (u10) (u11) y7 y12 y13 y14 y15 y16 y17 τ hsτ h
  · skip
    replace hp1 : ¬ ((36 : Int) ≤ (u9).toInt) := (not_congr ic_ge).mp hp1
    refine Or.inr ⟨hp1, ?_⟩
    replace hf := Nat.lt_trans g hf
    clear g
    replace h : EC C f 18 ab_main 416 [some (rf 98 (0)), some (rf 11 (0)), some (rf 13 (14)), some (rf 13 (15)), some (rf 13 (16)), some (rf 13 (17)), some (rf 14 (6)), y7, some (.inl (u8)), some (.inl (u9)), some (.inl (u10)), some (.inl (u11)), y12, y13, y14, y15, y16, y17] [] τ (w, σ') := h
    replace h := ec_p h rfl rfl rfl rfl
    obtain ⟨f, g, h⟩ := h
    replace hf := Nat.lt_trans g hf
    clear g
    replace h : EC C f 18 ab_main 418 [some (rf 98 (0)), some (rf 11 (0)), some (rf 13 (14)), some (rf 13 (15)), some (rf 13 (16)), some (rf 13 (17)), some (rf 14 (6)), y7, some (.inl (u8)), some (.inl (u9)), some (.inl (u10)), some (.inl (u11)), y12, y13, y14, y15, y16, y17] [.inl (u10)] τ (w, σ') := h
    replace h := ec_p h rfl rfl rfl rfl
    obtain ⟨f, g, h⟩ := h
    replace hf := Nat.lt_trans g hf
    clear g
    replace h : EC C f 18 ab_main 420 [some (rf 98 (0)), some (rf 11 (0)), some (rf 13 (14)), some (rf 13 (15)), some (rf 13 (16)), some (rf 13 (17)), some (rf 14 (6)), y7, some (.inl (u8)), some (.inl (u9)), some (.inl (u10)), some (.inl (u11)), y12, y13, y14, y15, y16, y17] [.inl (Int32.ofInt 103), .inl (u10)] τ (w, σ') := h
    replace h := ec_irem h rfl
    obtain ⟨hd2, f, g, h⟩ := h
    replace hf := Nat.lt_trans g hf
    clear g
    replace h : EC C f 18 ab_main 421 [some (rf 98 (0)), some (rf 11 (0)), some (rf 13 (14)), some (rf 13 (15)), some (rf 13 (16)), some (rf 13 (17)), some (rf 14 (6)), y7, some (.inl (u8)), some (.inl (u9)), some (.inl (u10)), some (.inl (u11)), y12, y13, y14, y15, y16, y17] [.inl ((u10) - (u10) / (Int32.ofInt 103) * (Int32.ofInt 103))] τ (w, σ') := h
    replace h := ec_p h rfl rfl rfl rfl
    obtain ⟨f, g, h⟩ := h
    replace hf := Nat.lt_trans g hf
    clear g
    replace h : EC C f 18 ab_main 423 [some (rf 98 (0)), some (rf 11 (0)), some (rf 13 (14)), some (rf 13 (15)), some (rf 13 (16)), some (rf 13 (17)), some (rf 14 (6)), y7, some (.inl (u8)), some (.inl (u9)), some (.inl (u10)), some (.inl (u11)), y12, y13, y14, y15, y16, y17] [.inl (Int32.ofInt 51), .inl ((u10) - (u10) / (Int32.ofInt 103) * (Int32.ofInt 103))] τ (w, σ') := h
    replace h := ec_p h rfl rfl rfl rfl
    obtain ⟨f, g, h⟩ := h
    replace hf := Nat.lt_trans g hf
    clear g
    replace h : EC C f 18 ab_main 424 [some (rf 98 (0)), some (rf 11 (0)), some (rf 13 (14)), some (rf 13 (15)), some (rf 13 (16)), some (rf 13 (17)), some (rf 14 (6)), y7, some (.inl (u8)), some (.inl (u9)), some (.inl (u10)), some (.inl (u11)), y12, y13, y14, y15, y16, y17] [.inl (((u10) - (u10) / (Int32.ofInt 103) * (Int32.ofInt 103)) - (Int32.ofInt 51))] τ (w, σ') := h
    replace h := ec_p h rfl rfl rfl rfl
    obtain ⟨f, g, h⟩ := h
    replace hf := Nat.lt_trans g hf
    clear g
    replace h : EC C f 18 ab_main 426 [some (rf 98 (0)), some (rf 11 (0)), some (rf 13 (14)), some (rf 13 (15)), some (rf 13 (16)), some (rf 13 (17)), some (rf 14 (6)), y7, some (.inl (u8)), some (.inl (u9)), some (.inl (u10)), some (.inl (u11)), some (.inl (((u10) - (u10) / (Int32.ofInt 103) * (Int32.ofInt 103)) - (Int32.ofInt 51))), y13, y14, y15, y16, y17] [] τ (w, σ') := h
    obtain ⟨n3, e4⟩ : ∃ s, s = ((u10) - (u10) / (Int32.ofInt 103) * (Int32.ofInt 103)) - (Int32.ofInt 51) := ⟨_, rfl⟩
    rw [← e4] at h
    refine ⟨n3, e4, ?_⟩
    replace h : EC C f 18 ab_main 426 [some (rf 98 (0)), some (rf 11 (0)), some (rf 13 (14)), some (rf 13 (15)), some (rf 13 (16)), some (rf 13 (17)), some (rf 14 (6)), y7, some (.inl (u8)), some (.inl (u9)), some (.inl (u10)), some (.inl (u11)), some (.inl (n3)), y13, y14, y15, y16, y17] [] τ (w, σ') := h
    replace h := ec_p h rfl rfl rfl rfl
    obtain ⟨f, g, h⟩ := h
    replace hf := Nat.lt_trans g hf
    clear g
    replace h : EC C f 18 ab_main 427 [some (rf 98 (0)), some (rf 11 (0)), some (rf 13 (14)), some (rf 13 (15)), some (rf 13 (16)), some (rf 13 (17)), some (rf 14 (6)), y7, some (.inl (u8)), some (.inl (u9)), some (.inl (u10)), some (.inl (u11)), some (.inl (n3)), y13, y14, y15, y16, y17] [rf 11 (0)] τ (w, σ') := h
    replace h := ec_p h rfl rfl rfl rfl
    obtain ⟨f, g, h⟩ := h
    replace hf := Nat.lt_trans g hf
    clear g
    replace h : EC C f 18 ab_main 429 [some (rf 98 (0)), some (rf 11 (0)), some (rf 13 (14)), some (rf 13 (15)), some (rf 13 (16)), some (rf 13 (17)), some (rf 14 (6)), y7, some (.inl (u8)), some (.inl (u9)), some (.inl (u10)), some (.inl (u11)), some (.inl (n3)), y13, y14, y15, y16, y17] [.inl (Int32.ofInt 10), rf 11 (0)] τ (w, σ') := h
    replace h := ec_p h rfl rfl rfl rfl
    obtain ⟨f, g, h⟩ := h
    replace hf := Nat.lt_trans g hf
    clear g
    replace h : EC C f 18 ab_main 431 [some (rf 98 (0)), some (rf 11 (0)), some (rf 13 (14)), some (rf 13 (15)), some (rf 13 (16)), some (rf 13 (17)), some (rf 14 (6)), y7, some (.inl (u8)), some (.inl (u9)), some (.inl (u10)), some (.inl (u11)), some (.inl (n3)), y13, y14, y15, y16, y17] [.inl (n3), .inl (Int32.ofInt 10), rf 11 (0)] τ (w, σ') := h
    replace h := ec_p h rfl rfl rfl rfl
    obtain ⟨f, g, h⟩ := h
    replace hf := Nat.lt_trans g hf
    clear g
    replace h : EC C f 18 ab_main 433 [some (rf 98 (0)), some (rf 11 (0)), some (rf 13 (14)), some (rf 13 (15)), some (rf 13 (16)), some (rf 13 (17)), some (rf 14 (6)), y7, some (.inl (u8)), some (.inl (u9)), some (.inl (u10)), some (.inl (u11)), some (.inl (n3)), y13, y14, y15, y16, y17] [.inl (u11), .inl (n3), .inl (Int32.ofInt 10), rf 11 (0)] τ (w, σ') := h
    replace h := ec_p h rfl rfl rfl rfl
    obtain ⟨f, g, h⟩ := h
    replace hf := Nat.lt_trans g hf
    clear g
    replace h : EC C f 18 ab_main 435 [some (rf 98 (0)), some (rf 11 (0)), some (rf 13 (14)), some (rf 13 (15)), some (rf 13 (16)), some (rf 13 (17)), some (rf 14 (6)), y7, some (.inl (u8)), some (.inl (u9)), some (.inl (u10)), some (.inl (u11)), some (.inl (n3)), y13, y14, y15, y16, y17] [.inl (Int32.ofInt 101), .inl (u11), .inl (n3), .inl (Int32.ofInt 10), rf 11 (0)] τ (w, σ') := h
    replace h := ec_irem h rfl
    obtain ⟨hd5, f, g, h⟩ := h
    replace hf := Nat.lt_trans g hf
    clear g
    replace h : EC C f 18 ab_main 436 [some (rf 98 (0)), some (rf 11 (0)), some (rf 13 (14)), some (rf 13 (15)), some (rf 13 (16)), some (rf 13 (17)), some (rf 14 (6)), y7, some (.inl (u8)), some (.inl (u9)), some (.inl (u10)), some (.inl (u11)), some (.inl (n3)), y13, y14, y15, y16, y17] [.inl ((u11) - (u11) / (Int32.ofInt 101) * (Int32.ofInt 101)), .inl (n3), .inl (Int32.ofInt 10), rf 11 (0)] τ (w, σ') := h
    replace h := ec_p h rfl rfl rfl rfl
    obtain ⟨f, g, h⟩ := h
    replace hf := Nat.lt_trans g hf
    clear g
    replace h : EC C f 18 ab_main 438 [some (rf 98 (0)), some (rf 11 (0)), some (rf 13 (14)), some (rf 13 (15)), some (rf 13 (16)), some (rf 13 (17)), some (rf 14 (6)), y7, some (.inl (u8)), some (.inl (u9)), some (.inl (u10)), some (.inl (u11)), some (.inl (n3)), y13, y14, y15, y16, y17] [.inl (Int32.ofInt 50), .inl ((u11) - (u11) / (Int32.ofInt 101) * (Int32.ofInt 101)), .inl (n3), .inl (Int32.ofInt 10), rf 11 (0)] τ (w, σ') := h
    replace h := ec_p h rfl rfl rfl rfl
    obtain ⟨f, g, h⟩ := h
    replace hf := Nat.lt_trans g hf
    clear g
    replace h : EC C f 18 ab_main 439 [some (rf 98 (0)), some (rf 11 (0)), some (rf 13 (14)), some (rf 13 (15)), some (rf 13 (16)), some (rf 13 (17)), some (rf 14 (6)), y7, some (.inl (u8)), some (.inl (u9)), some (.inl (u10)), some (.inl (u11)), some (.inl (n3)), y13, y14, y15, y16, y17] [.inl (((u11) - (u11) / (Int32.ofInt 101) * (Int32.ofInt 101)) - (Int32.ofInt 50)), .inl (n3), .inl (Int32.ofInt 10), rf 11 (0)] τ (w, σ') := h
    replace h := ec_p h rfl rfl rfl rfl
    obtain ⟨f, g, h⟩ := h
    replace hf := Nat.lt_trans g hf
    clear g
    replace h : EC C f 18 ab_main 441 [some (rf 98 (0)), some (rf 11 (0)), some (rf 13 (14)), some (rf 13 (15)), some (rf 13 (16)), some (rf 13 (17)), some (rf 14 (6)), y7, some (.inl (u8)), some (.inl (u9)), some (.inl (u10)), some (.inl (u11)), some (.inl (n3)), y13, y14, y15, y16, y17] [.inl (u11), .inl (((u11) - (u11) / (Int32.ofInt 101) * (Int32.ofInt 101)) - (Int32.ofInt 50)), .inl (n3), .inl (Int32.ofInt 10), rf 11 (0)] τ (w, σ') := h
    replace h := ec_p h rfl rfl rfl rfl
    obtain ⟨f, g, h⟩ := h
    replace hf := Nat.lt_trans g hf
    clear g
    replace h : EC C f 18 ab_main 443 [some (rf 98 (0)), some (rf 11 (0)), some (rf 13 (14)), some (rf 13 (15)), some (rf 13 (16)), some (rf 13 (17)), some (rf 14 (6)), y7, some (.inl (u8)), some (.inl (u9)), some (.inl (u10)), some (.inl (u11)), some (.inl (n3)), y13, y14, y15, y16, y17] [.inl (Int32.ofInt 101), .inl (u11), .inl (((u11) - (u11) / (Int32.ofInt 101) * (Int32.ofInt 101)) - (Int32.ofInt 50)), .inl (n3), .inl (Int32.ofInt 10), rf 11 (0)] τ (w, σ') := h
    replace h := ec_idiv h rfl
    obtain ⟨hd6, f, g, h⟩ := h
    replace hf := Nat.lt_trans g hf
    clear g
    replace h : EC C f 18 ab_main 444 [some (rf 98 (0)), some (rf 11 (0)), some (rf 13 (14)), some (rf 13 (15)), some (rf 13 (16)), some (rf 13 (17)), some (rf 14 (6)), y7, some (.inl (u8)), some (.inl (u9)), some (.inl (u10)), some (.inl (u11)), some (.inl (n3)), y13, y14, y15, y16, y17] [.inl ((u11) / (Int32.ofInt 101)), .inl (((u11) - (u11) / (Int32.ofInt 101) * (Int32.ofInt 101)) - (Int32.ofInt 50)), .inl (n3), .inl (Int32.ofInt 10), rf 11 (0)] τ (w, σ') := h
    replace h := ec_p h rfl rfl rfl rfl
    obtain ⟨f, g, h⟩ := h
    replace hf := Nat.lt_trans g hf
    clear g
    replace h : EC C f 18 ab_main 446 [some (rf 98 (0)), some (rf 11 (0)), some (rf 13 (14)), some (rf 13 (15)), some (rf 13 (16)), some (rf 13 (17)), some (rf 14 (6)), y7, some (.inl (u8)), some (.inl (u9)), some (.inl (u10)), some (.inl (u11)), some (.inl (n3)), y13, y14, y15, y16, y17] [.inl (Int32.ofInt 101), .inl ((u11) / (Int32.ofInt 101)), .inl (((u11) - (u11) / (Int32.ofInt 101) * (Int32.ofInt 101)) - (Int32.ofInt 50)), .inl (n3), .inl (Int32.ofInt 10), rf 11 (0)] τ (w, σ') := h
    replace h := ec_irem h rfl
    obtain ⟨hd7, f, g, h⟩ := h
    replace hf := Nat.lt_trans g hf
    clear g
    replace h : EC C f 18 ab_main 447 [some (rf 98 (0)), some (rf 11 (0)), some (rf 13 (14)), some (rf 13 (15)), some (rf 13 (16)), some (rf 13 (17)), some (rf 14 (6)), y7, some (.inl (u8)), some (.inl (u9)), some (.inl (u10)), some (.inl (u11)), some (.inl (n3)), y13, y14, y15, y16, y17] [.inl (((u11) / (Int32.ofInt 101)) - ((u11) / (Int32.ofInt 101)) / (Int32.ofInt 101) * (Int32.ofInt 101)), .inl (((u11) - (u11) / (Int32.ofInt 101) * (Int32.ofInt 101)) - (Int32.ofInt 50)), .inl (n3), .inl (Int32.ofInt 10), rf 11 (0)] τ (w, σ') := h
    replace h := ec_p h rfl rfl rfl rfl
    obtain ⟨f, g, h⟩ := h
    replace hf := Nat.lt_trans g hf
    clear g
    replace h : EC C f 18 ab_main 449 [some (rf 98 (0)), some (rf 11 (0)), some (rf 13 (14)), some (rf 13 (15)), some (rf 13 (16)), some (rf 13 (17)), some (rf 14 (6)), y7, some (.inl (u8)), some (.inl (u9)), some (.inl (u10)), some (.inl (u11)), some (.inl (n3)), y13, y14, y15, y16, y17] [.inl (Int32.ofInt 50), .inl (((u11) / (Int32.ofInt 101)) - ((u11) / (Int32.ofInt 101)) / (Int32.ofInt 101) * (Int32.ofInt 101)), .inl (((u11) - (u11) / (Int32.ofInt 101) * (Int32.ofInt 101)) - (Int32.ofInt 50)), .inl (n3), .inl (Int32.ofInt 10), rf 11 (0)] τ (w, σ') := h
    replace h := ec_p h rfl rfl rfl rfl
    obtain ⟨f, g, h⟩ := h
    replace hf := Nat.lt_trans g hf
    clear g
    replace h : EC C f 18 ab_main 450 [some (rf 98 (0)), some (rf 11 (0)), some (rf 13 (14)), some (rf 13 (15)), some (rf 13 (16)), some (rf 13 (17)), some (rf 14 (6)), y7, some (.inl (u8)), some (.inl (u9)), some (.inl (u10)), some (.inl (u11)), some (.inl (n3)), y13, y14, y15, y16, y17] [.inl ((((u11) / (Int32.ofInt 101)) - ((u11) / (Int32.ofInt 101)) / (Int32.ofInt 101) * (Int32.ofInt 101)) - (Int32.ofInt 50)), .inl (((u11) - (u11) / (Int32.ofInt 101) * (Int32.ofInt 101)) - (Int32.ofInt 50)), .inl (n3), .inl (Int32.ofInt 10), rf 11 (0)] τ (w, σ') := h
    replace h := ec_p h rfl rfl rfl rfl
    obtain ⟨f, g, h⟩ := h
    replace hf := Nat.lt_trans g hf
    clear g
    replace h : EC C f 18 ab_main 451 [some (rf 98 (0)), some (rf 11 (0)), some (rf 13 (14)), some (rf 13 (15)), some (rf 13 (16)), some (rf 13 (17)), some (rf 14 (6)), y7, some (.inl (u8)), some (.inl (u9)), some (.inl (u10)), some (.inl (u11)), some (.inl (n3)), y13, y14, y15, y16, y17] [.inl (Int32.ofInt 0), .inl ((((u11) / (Int32.ofInt 101)) - ((u11) / (Int32.ofInt 101)) / (Int32.ofInt 101) * (Int32.ofInt 101)) - (Int32.ofInt 50)), .inl (((u11) - (u11) / (Int32.ofInt 101) * (Int32.ofInt 101)) - (Int32.ofInt 50)), .inl (n3), .inl (Int32.ofInt 10), rf 11 (0)] τ (w, σ') := h
    replace h := ec_p h rfl rfl rfl rfl
    obtain ⟨f, g, h⟩ := h
    replace hf := Nat.lt_trans g hf
    clear g
    replace h : EC C f 18 ab_main 452 [some (rf 98 (0)), some (rf 11 (0)), some (rf 13 (14)), some (rf 13 (15)), some (rf 13 (16)), some (rf 13 (17)), some (rf 14 (6)), y7, some (.inl (u8)), some (.inl (u9)), some (.inl (u10)), some (.inl (u11)), some (.inl (n3)), y13, y14, y15, y16, y17] [.inl (Int32.ofInt 0), .inl (Int32.ofInt 0), .inl ((((u11) / (Int32.ofInt 101)) - ((u11) / (Int32.ofInt 101)) / (Int32.ofInt 101) * (Int32.ofInt 101)) - (Int32.ofInt 50)), .inl (((u11) - (u11) / (Int32.ofInt 101) * (Int32.ofInt 101)) - (Int32.ofInt 50)), .inl (n3), .inl (Int32.ofInt 10), rf 11 (0)] τ (w, σ') := h
    replace h := ec_p h rfl rfl rfl rfl
    obtain ⟨f, g, h⟩ := h
    replace hf := Nat.lt_trans g hf
    clear g
    replace h : EC C f 18 ab_main 453 [some (rf 98 (0)), some (rf 11 (0)), some (rf 13 (14)), some (rf 13 (15)), some (rf 13 (16)), some (rf 13 (17)), some (rf 14 (6)), y7, some (.inl (u8)), some (.inl (u9)), some (.inl (u10)), some (.inl (u11)), some (.inl (n3)), y13, y14, y15, y16, y17] [.inl (Int32.ofInt 0), .inl (Int32.ofInt 0), .inl (Int32.ofInt 0), .inl ((((u11) / (Int32.ofInt 101)) - ((u11) / (Int32.ofInt 101)) / (Int32.ofInt 101) * (Int32.ofInt 101)) - (Int32.ofInt 50)), .inl (((u11) - (u11) / (Int32.ofInt 101) * (Int32.ofInt 101)) - (Int32.ofInt 50)), .inl (n3), .inl (Int32.ofInt 10), rf 11 (0)] τ (w, σ') := h
    replace h := ec_p h rfl rfl rfl rfl
    obtain ⟨f, g, h⟩ := h
    replace hf := Nat.lt_trans g hf
    clear g
    replace h : EC C f 18 ab_main 454 [some (rf 98 (0)), some (rf 11 (0)), some (rf 13 (14)), some (rf 13 (15)), some (rf 13 (16)), some (rf 13 (17)), some (rf 14 (6)), y7, some (.inl (u8)), some (.inl (u9)), some (.inl (u10)), some (.inl (u11)), some (.inl (n3)), y13, y14, y15, y16, y17] [.inl (Int32.ofInt 0), .inl (Int32.ofInt 0), .inl (Int32.ofInt 0), .inl (Int32.ofInt 0), .inl ((((u11) / (Int32.ofInt 101)) - ((u11) / (Int32.ofInt 101)) / (Int32.ofInt 101) * (Int32.ofInt 101)) - (Int32.ofInt 50)), .inl (((u11) - (u11) / (Int32.ofInt 101) * (Int32.ofInt 101)) - (Int32.ofInt 50)), .inl (n3), .inl (Int32.ofInt 10), rf 11 (0)] τ (w, σ') := h
    replace h := cx_L hC (ec_s (as := [.inl (Int32.ofInt 0), .inl (Int32.ofInt 0), .inl (Int32.ofInt 0), .inl (Int32.ofInt 0), .inl ((((u11) / (Int32.ofInt 101)) - ((u11) / (Int32.ofInt 101)) / (Int32.ofInt 101) * (Int32.ofInt 101)) - (Int32.ofInt 50)), .inl (((u11) - (u11) / (Int32.ofInt 101) * (Int32.ofInt 101)) - (Int32.ofInt 50)), .inl (n3), .inl (Int32.ofInt 10), rf 11 (0)]) h rfl (Nat.le_of_ble_eq_true rfl) rfl rfl) rfl z172_at rfl
    rcases h with ⟨v8, σ9, r10, f, g, h⟩ | ⟨b, σ9, r10, e⟩
    rotate_left
    · exact (nt172 (x172 hsτ r10)).elim
    replace hf := Nat.lt_trans g hf
    clear g
    have p11 := x172 hsτ r10
    have hsσ9 : HL σ9 := hl172 p11
    refine ⟨v8, σ9, gF_r r10 rfl hsτ, hsσ9, r10, p11, ?_⟩
    replace h : EC C f 18 ab_main 457 [some (rf 98 (0)), some (rf 11 (0)), some (rf 13 (14)), some (rf 13 (15)), some (rf 13 (16)), some (rf 13 (17)), some (rf 14 (6)), y7, some (.inl (u8)), some (.inl (u9)), some (.inl (u10)), some (.inl (u11)), some (.inl (n3)), y13, y14, y15, y16, y17] [.inr (.inl (v8))] σ9 (w, σ') := h
    replace h := ec_p h rfl rfl rfl rfl
    obtain ⟨f, g, h⟩ := h
    replace hf := Nat.lt_trans g hf
    clear g
    replace h : EC C f 18 ab_main 459 [some (rf 98 (0)), some (rf 11 (0)), some (rf 13 (14)), some (rf 13 (15)), some (rf 13 (16)), some (rf 13 (17)), some (rf 14 (6)), y7, some (.inl (u8)), some (.inl (u9)), some (.inl (u10)), some (.inl (u11)), some (.inl (n3)), some (.inr (.inl (v8))), none, y15, y16, y17] [] σ9 (w, σ') := h
    replace h := ec_p h rfl rfl rfl rfl
    obtain ⟨f, g, h⟩ := h
    replace hf := Nat.lt_trans g hf
    clear g
    replace h : EC C f 18 ab_main 461 [some (rf 98 (0)), some (rf 11 (0)), some (rf 13 (14)), some (rf 13 (15)), some (rf 13 (16)), some (rf 13 (17)), some (rf 14 (6)), y7, some (.inl (u8)), some (.inl (u9)), some (.inl (u10)), some (.inl (u11)), some (.inl (n3)), some (.inr (.inl (v8))), none, y15, y16, y17] [.inl (n3)] σ9 (w, σ') := h
    replace h := ec_p h rfl rfl rfl rfl
    obtain ⟨f, g, h⟩ := h
    replace hf := Nat.lt_trans g hf
    clear g
    replace h : EC C f 18 ab_main 463 [some (rf 98 (0)), some (rf 11 (0)), some (rf 13 (14)), some (rf 13 (15)), some (rf 13 (16)), some (rf 13 (17)), some (rf 14 (6)), y7, some (.inl (u8)), some (.inl (u9)), some (.inl (u10)), some (.inl (u11)), some (.inl (n3)), some (.inr (.inl (v8))), none, y15, y16, y17] [.inl (Int32.ofInt (-51)), .inl (n3)] σ9 (w, σ') := h
    replace h := ec_c h rfl rfl rfl
    rcases h with ⟨hp12, f, g, h⟩ | ⟨hp12, f, g, h⟩
    · skip
      replace hp12 : (n3).toInt ≤ (-51 : Int) := ic_le.mp hp12
      refine Or.inl ⟨hp12, ?_⟩
      replace hf := Nat.lt_trans g hf
      clear g
      replace h : EC C f 18 ab_main 477 [some (rf 98 (0)), some (rf 11 (0)), some (rf 13 (14)), some (rf 13 (15)), some (rf 13 (16)), some (rf 13 (17)), some (rf 14 (6)), y7, some (.inl (u8)), some (.inl (u9)), some (.inl (u10)), some (.inl (u11)), some (.inl (n3)), some (.inr (.inl (v8))), none, y15, y16, y17] [] σ9 (w, σ') := h
      replace h := ec_p h rfl rfl rfl rfl
      obtain ⟨f, g, h⟩ := h
      replace hf := Nat.lt_trans g hf
      clear g
      replace h : EC C f 18 ab_main 478 [some (rf 98 (0)), some (rf 11 (0)), some (rf 13 (14)), some (rf 13 (15)), some (rf 13 (16)), some (rf 13 (17)), some (rf 14 (6)), y7, some (.inl (u8)), some (.inl (u9)), some (.inl (u10)), some (.inl (u11)), some (.inl (n3)), some (.inr (.inl (v8))), none, y15, y16, y17] [.inl (Int32.ofInt 0)] σ9 (w, σ') := h
      replace h := ec_p h rfl rfl rfl rfl
      obtain ⟨f, g, h⟩ := h
      replace hf := Nat.lt_trans g hf
      clear g
      replace h : EC C f 18 ab_main 480 [some (rf 98 (0)), some (rf 11 (0)), some (rf 13 (14)), some (rf 13 (15)), some (rf 13 (16)), some (rf 13 (17)), some (rf 14 (6)), y7, some (.inl (u8)), some (.inl (u9)), some (.inl (u10)), some (.inl (u11)), some (.inl (n3)), some (.inr (.inl (v8))), none, some (.inl (Int32.ofInt 0)), y16, y17] [] σ9 (w, σ') := h
      exact H480 f hf (u8) (u11) (n3) (v8) (Int32.ofInt 0) y7 (some (.inl (u9))) (some (.inl (u10))) y16 y17 σ9 hsσ9 h
    · skip
      replace hp12 : ¬ ((n3).toInt ≤ (-51 : Int)) := (not_congr ic_le).mp hp12
      refine Or.inr ⟨hp12, ?_⟩
      replace hf := Nat.lt_trans g hf
      clear g
      replace h : EC C f 18 ab_main 466 [some (rf 98 (0)), some (rf 11 (0)), some (rf 13 (14)), some (rf 13 (15)), some (rf 13 (16)), some (rf 13 (17)), some (rf 14 (6)), y7, some (.inl (u8)), some (.inl (u9)), some (.inl (u10)), some (.inl (u11)), some (.inl (n3)), some (.inr (.inl (v8))), none, y15, y16, y17] [] σ9 (w, σ') := h
      replace h := ec_p h rfl rfl rfl rfl
      obtain ⟨f, g, h⟩ := h
      replace hf := Nat.lt_trans g hf
      clear g
      replace h : EC C f 18 ab_main 468 [some (rf 98 (0)), some (rf 11 (0)), some (rf 13 (14)), some (rf 13 (15)), some (rf 13 (16)), some (rf 13 (17)), some (rf 14 (6)), y7, some (.inl (u8)), some (.inl (u9)), some (.inl (u10)), some (.inl (u11)), some (.inl (n3)), some (.inr (.inl (v8))), none, y15, y16, y17] [.inl (n3)] σ9 (w, σ') := h
      replace h := ec_p h rfl rfl rfl rfl
      obtain ⟨f, g, h⟩ := h
      replace hf := Nat.lt_trans g hf
      clear g
      replace h : EC C f 18 ab_main 470 [some (rf 98 (0)), some (rf 11 (0)), some (rf 13 (14)), some (rf 13 (15)), some (rf 13 (16)), some (rf 13 (17)), some (rf 14 (6)), y7, some (.inl (u8)), some (.inl (u9)), some (.inl (u10)), some (.inl (u11)), some (.inl (n3)), some (.inr (.inl (v8))), none, y15, y16, y17] [.inl (Int32.ofInt 51), .inl (n3)] σ9 (w, σ') := h
      replace h := ec_c h rfl rfl rfl
      rcases h with ⟨hp13, f, g, h⟩ | ⟨hp13, f, g, h⟩
      · skip
        replace hp13 : (51 : Int) ≤ (n3).toInt := ic_ge.mp hp13
        refine Or.inl ⟨hp13, ?_⟩
        replace hf := Nat.lt_trans g hf
        clear g
        replace h : EC C f 18 ab_main 477 [some (rf 98 (0)), some (rf 11 (0)), some (rf 13 (14)), some (rf 13 (15)), some (rf 13 (16)), some (rf 13 (17)), some (rf 14 (6)), y7, some (.inl (u8)), some (.inl (u9)), some (.inl (u10)), some (.inl (u11)), some (.inl (n3)), some (.inr (.inl (v8))), none, y15, y16, y17] [] σ9 (w, σ') := h
        replace h := ec_p h rfl rfl rfl rfl
        obtain ⟨f, g, h⟩ := h
        replace hf := Nat.lt_trans g hf
        clear g
        replace h : EC C f 18 ab_main 478 [some (rf 98 (0)), some (rf 11 (0)), some (rf 13 (14)), some (rf 13 (15)), some (rf 13 (16)), some (rf 13 (17)), some (rf 14 (6)), y7, some (.inl (u8)), some (.inl (u9)), some (.inl (u10)), some (.inl (u11)), some (.inl (n3)), some (.inr (.inl (v8))), none, y15, y16, y17] [.inl (Int32.ofInt 0)] σ9 (w, σ') := h
        replace h := ec_p h rfl rfl rfl rfl
        obtain ⟨f, g, h⟩ := h
        replace hf := Nat.lt_trans g hf
        clear g
        replace h : EC C f 18 ab_main 480 [some (rf 98 (0)), some (rf 11 (0)), some (rf 13 (14)), some (rf 13 (15)), some (rf 13 (16)), some (rf 13 (17)), some (rf 14 (6)), y7, some (.inl (u8)), some (.inl (u9)), some (.inl (u10)), some (.inl (u11)), some (.inl (n3)), some (.inr (.inl (v8))), none, some (.inl (Int32.ofInt 0)), y16, y17] [] σ9 (w, σ') := h
        exact H480 f hf (u8) (u11) (n3) (v8) (Int32.ofInt 0) y7 (some (.inl (u9))) (some (.inl (u10))) y16 y17 σ9 hsσ9 h
      · skip
        replace hp13 : ¬ ((51 : Int) ≤ (n3).toInt) := (not_congr ic_ge).mp hp13
        refine Or.inr ⟨hp13, ?_⟩
        replace hf := Nat.lt_trans g hf
        clear g
        replace h : EC C f 18 ab_main 473 [some (rf 98 (0)), some (rf 11 (0)), some (rf 13 (14)), some (rf 13 (15)), some (rf 13 (16)), some (rf 13 (17)), some (rf 14 (6)), y7, some (.inl (u8)), some (.inl (u9)), some (.inl (u10)), some (.inl (u11)), some (.inl (n3)), some (.inr (.inl (v8))), none, y15, y16, y17] [] σ9 (w, σ') := h
        replace h := ec_p h rfl rfl rfl rfl
        obtain ⟨f, g, h⟩ := h
        replace hf := Nat.lt_trans g hf
        clear g
        replace h : EC C f 18 ab_main 474 [some (rf 98 (0)), some (rf 11 (0)), some (rf 13 (14)), some (rf 13 (15)), some (rf 13 (16)), some (rf 13 (17)), some (rf 14 (6)), y7, some (.inl (u8)), some (.inl (u9)), some (.inl (u10)), some (.inl (u11)), some (.inl (n3)), some (.inr (.inl (v8))), none, y15, y16, y17] [.inl (Int32.ofInt 1)] σ9 (w, σ') := h
        replace h := ec_p h rfl rfl rfl rfl
        obtain ⟨f, g, h⟩ := h
        replace hf := Nat.lt_trans g hf
        clear g
        replace h : EC C f 18 ab_main 478 [some (rf 98 (0)), some (rf 11 (0)), some (rf 13 (14)), some (rf 13 (15)), some (rf 13 (16)), some (rf 13 (17)), some (rf 14 (6)), y7, some (.inl (u8)), some (.inl (u9)), some (.inl (u10)), some (.inl (u11)), some (.inl (n3)), some (.inr (.inl (v8))), none, y15, y16, y17] [.inl (Int32.ofInt 1)] σ9 (w, σ') := h
        replace h := ec_p h rfl rfl rfl rfl
        obtain ⟨f, g, h⟩ := h
        replace hf := Nat.lt_trans g hf
        clear g
        replace h : EC C f 18 ab_main 480 [some (rf 98 (0)), some (rf 11 (0)), some (rf 13 (14)), some (rf 13 (15)), some (rf 13 (16)), some (rf 13 (17)), some (rf 14 (6)), y7, some (.inl (u8)), some (.inl (u9)), some (.inl (u10)), some (.inl (u11)), some (.inl (n3)), some (.inr (.inl (v8))), none, some (.inl (Int32.ofInt 1)), y16, y17] [] σ9 (w, σ') := h
        exact H480 f hf (u8) (u11) (n3) (v8) (Int32.ofInt 1) y7 (some (.inl (u9))) (some (.inl (u10))) y16 y17 σ9 hsσ9 h
def T480 (K525 : Int32 → Int32 → Int32 → Int32 → Int64 → mS → Prop) (u8 : Int32) (u11 : Int32) (u12 : Int32) (u13 : Int64) (u15 : Int32) (τ : mS) (w : mX) (σ' : mS) : Prop := (((u15).toInt ≠ (0 : Int) ∧ (0 ≤ (1 : Int) ∧ (1 : Int) < (τ.2.1 13 (17) : Int)) ∧ (((m_i τ 13 (17) (Int32.ofInt 1).toNatClampNeg).toInt ≠ (4 : Int) ∧ (0 ≤ (1 : Int) ∧ (1 : Int) < (τ.2.1 13 (17) : Int)) ∧ (((u13).toInt ≠ (((m_i τ 13 (17) (Int32.ofInt 1).toNatClampNeg) + (Int32.ofInt 1)).toInt64).toInt ∧ K525 (Int32.ofInt 0) (u8) (u11) (u12) (u13) τ) ∨ (¬ ((u13).toInt ≠ (((m_i τ 13 (17) (Int32.ofInt 1).toNatClampNeg) + (Int32.ofInt 1)).toInt64).toInt) ∧ K525 (Int32.ofInt 1) (u8) (u11) (u12) (u13) τ))) ∨ (¬ ((m_i τ 13 (17) (Int32.ofInt 1).toNatClampNeg).toInt ≠ (4 : Int)) ∧ (((u13).toInt ≠ (Int64.ofInt (-1000000000)).toInt ∧ K525 (Int32.ofInt 0) (u8) (u11) (u12) (u13) τ) ∨ (¬ ((u13).toInt ≠ (Int64.ofInt (-1000000000)).toInt) ∧ K525 (Int32.ofInt 1) (u8) (u11) (u12) (u13) τ))))) ∨ (¬ ((u15).toInt ≠ (0 : Int)) ∧ (((u13).toInt ≠ (Int64.ofInt (-2000000000)).toInt ∧ K525 (Int32.ofInt 0) (u8) (u11) (u12) (u13) τ) ∨ (¬ ((u13).toInt ≠ (Int64.ofInt (-2000000000)).toInt) ∧ K525 (Int32.ofInt 1) (u8) (u11) (u12) (u13) τ))))
set_option maxRecDepth 100000 in
theorem t480 {C : ec_C} (hC : CK C) {N : Nat} {w : mX} {σ' : mS} {K525 : Int32 → Int32 → Int32 → Int32 → Int64 → mS → Prop} (H525 : ∀ f, f < N → ∀ (u7 : Int32) (u8 : Int32) (u11 : Int32) (u12 : Int32) (u13 : Int64) (y9 : Option mV) (y10 : Option mV) (y15 : Option mV) (y16 : Option mV) (y17 : Option mV) (τ : mS), HL τ → EC C f 18 ab_main 525 [some (rf 98 (0)), some (rf 11 (0)), some (rf 13 (14)), some (rf 13 (15)), some (rf 13 (16)), some (rf 13 (17)), some (rf 14 (6)), some (.inl (u7)), some (.inl (u8)), y9, y10, some (.inl (u11)), some (.inl (u12)), some (.inr (.inl (u13))), none, y15, y16, y17] [] τ (w, σ') → K525 u7 u8 u11 u12 u13 τ) : ∀ f, f < N + 1 → ∀ (u8 : Int32) (u11 : Int32) (u12 : Int32) (u13 : Int64) (u15 : Int32) (y7 : Option mV) (y9 : Option mV) (y10 : Option mV) (y16 : Option mV) (y17 : Option mV) (τ : mS), HL τ → EC C f 18 ab_main 480 [some (rf 98 (0)), some (rf 11 (0)), some (rf 13 (14)), some (rf 13 (15)), some (rf 13 (16)), some (rf 13 (17)), some (rf 14 (6)), y7, some (.inl (u8)), y9, y10, some (.inl (u11)), some (.inl (u12)), some (.inr (.inl (u13))), none, some (.inl (u15)), y16, y17] [] τ (w, σ') → T480 K525 u8 u11 u12 u13 u15 τ w σ' := by
  intro f hf0 u8 u11 u12 u13 u15 y7 y9 y10 y16 y17 τ hsτ h
  have hf : f < N + 1 := hf0
  clear hf0
  unfold T480
  replace h : EC C f 18 ab_main 480 [some (rf 98 (0)), some (rf 11 (0)), some (rf 13 (14)), some (rf 13 (15)), some (rf 13 (16)), some (rf 13 (17)), some (rf 14 (6)), y7, some (.inl (u8)), y9, y10, some (.inl (u11)), some (.inl (u12)), some (.inr (.inl (u13))), none, some (.inl (u15)), y16, y17] [] τ (w, σ') := h
  replace h := ec_p h rfl rfl rfl rfl
  obtain ⟨f, g, h⟩ := h
  replace hf := Nat.lt_of_lt_of_le g (Nat.le_of_lt_succ hf)
  clear g
  replace h : EC C f 18 ab_main 482 [some (rf 98 (0)), some (rf 11 (0)), some (rf 13 (14)), some (rf 13 (15)), some (rf 13 (16)), some (rf 13 (17)), some (rf 14 (6)), y7, some (.inl (u8)), y9, y10, some (.inl (u11)), some (.inl (u12)), some (.inr (.inl (u13))), none, some (.inl (u15)), y16, y17] [.inr (.inl (u13))] τ (w, σ') := h
  replace h := ec_p h rfl rfl rfl rfl
  obtain ⟨f, g, h⟩ := h
  replace hf := Nat.lt_trans g hf
  clear g
  replace h : EC C f 18 ab_main 484 [some (rf 98 (0)), some (rf 11 (0)), some (rf 13 (14)), some (rf 13 (15)), some (rf 13 (16)), some (rf 13 (17)), some (rf 14 (6)), y7, some (.inl (u8)), y9, y10, some (.inl (u11)), some (.inl (u12)), some (.inr (.inl (u13))), none, some (.inl (u15)), y16, y17] [.inl (u15), .inr (.inl (u13))] τ (w, σ') := h
  replace h := ec_c h rfl rfl rfl
  rcases h with ⟨hp1, f, g, h⟩ | ⟨hp1, f, g, h⟩
  · skip
    replace hp1 : (u15).toInt ≠ (0 : Int) := ic_ne.mp hp1
    refine Or.inl ⟨hp1, ?_⟩
    replace hf := Nat.lt_trans g hf
    clear g
    replace h : EC C f 18 ab_main 493 [some (rf 98 (0)), some (rf 11 (0)), some (rf 13 (14)), some (rf 13 (15)), some (rf 13 (16)), some (rf 13 (17)), some (rf 14 (6)), y7, some (.inl (u8)), y9, y10, some (.inl (u11)), some (.inl (u12)), some (.inr (.inl (u13))), none, some (.inl (u15)), y16, y17] [.inr (.inl (u13))] τ (w, σ') := h
    replace h := ec_p h rfl rfl rfl rfl
    obtain ⟨f, g, h⟩ := h
    replace hf := Nat.lt_trans g hf
    clear g
    replace h : EC C f 18 ab_main 495 [some (rf 98 (0)), some (rf 11 (0)), some (rf 13 (14)), some (rf 13 (15)), some (rf 13 (16)), some (rf 13 (17)), some (rf 14 (6)), y7, some (.inl (u8)), y9, y10, some (.inl (u11)), some (.inl (u12)), some (.inr (.inl (u13))), none, some (.inl (u15)), y16, y17] [rf 13 (17), .inr (.inl (u13))] τ (w, σ') := h
    replace h := ec_p h rfl rfl rfl rfl
    obtain ⟨f, g, h⟩ := h
    replace hf := Nat.lt_trans g hf
    clear g
    replace h : EC C f 18 ab_main 496 [some (rf 98 (0)), some (rf 11 (0)), some (rf 13 (14)), some (rf 13 (15)), some (rf 13 (16)), some (rf 13 (17)), some (rf 14 (6)), y7, some (.inl (u8)), y9, y10, some (.inl (u11)), some (.inl (u12)), some (.inr (.inl (u13))), none, some (.inl (u15)), y16, y17] [.inl (Int32.ofInt 1), rf 13 (17), .inr (.inl (u13))] τ (w, σ') := h
    replace h := ec_iald h rfl (fun _ => rfl)
    obtain ⟨vp2, f, g, h⟩ := h
    replace hf := Nat.lt_trans g hf
    clear g
    replace h : EC C f 18 ab_main 497 [some (rf 98 (0)), some (rf 11 (0)), some (rf 13 (14)), some (rf 13 (15)), some (rf 13 (16)), some (rf 13 (17)), some (rf 14 (6)), y7, some (.inl (u8)), y9, y10, some (.inl (u11)), some (.inl (u12)), some (.inr (.inl (u13))), none, some (.inl (u15)), y16, y17] [.inl (m_i τ 13 (17) (Int32.ofInt 1).toNatClampNeg), .inr (.inl (u13))] τ (w, σ') := h
    refine ⟨vp_2 vp2, ?_⟩
    replace h := ec_p h rfl rfl rfl rfl
    obtain ⟨f, g, h⟩ := h
    replace hf := Nat.lt_trans g hf
    clear g
    replace h : EC C f 18 ab_main 498 [some (rf 98 (0)), some (rf 11 (0)), some (rf 13 (14)), some (rf 13 (15)), some (rf 13 (16)), some (rf 13 (17)), some (rf 14 (6)), y7, some (.inl (u8)), y9, y10, some (.inl (u11)), some (.inl (u12)), some (.inr (.inl (u13))), none, some (.inl (u15)), y16, y17] [.inl (Int32.ofInt 4), .inl (m_i τ 13 (17) (Int32.ofInt 1).toNatClampNeg), .inr (.inl (u13))] τ (w, σ') := h
    replace h := ec_c h rfl rfl rfl
    rcases h with ⟨hp3, f, g, h⟩ | ⟨hp3, f, g, h⟩
    · skip
      replace hp3 : (m_i τ 13 (17) (Int32.ofInt 1).toNatClampNeg).toInt ≠ (4 : Int) := ic_ne.mp hp3
      refine Or.inl ⟨hp3, ?_⟩
      replace hf := Nat.lt_trans g hf
      clear g
      replace h : EC C f 18 ab_main 507 [some (rf 98 (0)), some (rf 11 (0)), some (rf 13 (14)), some (rf 13 (15)), some (rf 13 (16)), some (rf 13 (17)), some (rf 14 (6)), y7, some (.inl (u8)), y9, y10, some (.inl (u11)), some (.inl (u12)), some (.inr (.inl (u13))), none, some (.inl (u15)), y16, y17] [.inr (.inl (u13))] τ (w, σ') := h
      replace h := ec_p h rfl rfl rfl rfl
      obtain ⟨f, g, h⟩ := h
      replace hf := Nat.lt_trans g hf
      clear g
      replace h : EC C f 18 ab_main 509 [some (rf 98 (0)), some (rf 11 (0)), some (rf 13 (14)), some (rf 13 (15)), some (rf 13 (16)), some (rf 13 (17)), some (rf 14 (6)), y7, some (.inl (u8)), y9, y10, some (.inl (u11)), some (.inl (u12)), some (.inr (.inl (u13))), none, some (.inl (u15)), y16, y17] [rf 13 (17), .inr (.inl (u13))] τ (w, σ') := h
      replace h := ec_p h rfl rfl rfl rfl
      obtain ⟨f, g, h⟩ := h
      replace hf := Nat.lt_trans g hf
      clear g
      replace h : EC C f 18 ab_main 510 [some (rf 98 (0)), some (rf 11 (0)), some (rf 13 (14)), some (rf 13 (15)), some (rf 13 (16)), some (rf 13 (17)), some (rf 14 (6)), y7, some (.inl (u8)), y9, y10, some (.inl (u11)), some (.inl (u12)), some (.inr (.inl (u13))), none, some (.inl (u15)), y16, y17] [.inl (Int32.ofInt 1), rf 13 (17), .inr (.inl (u13))] τ (w, σ') := h
      replace h := ec_iald h rfl (fun _ => rfl)
      obtain ⟨vp4, f, g, h⟩ := h
      replace hf := Nat.lt_trans g hf
      clear g
      replace h : EC C f 18 ab_main 511 [some (rf 98 (0)), some (rf 11 (0)), some (rf 13 (14)), some (rf 13 (15)), some (rf 13 (16)), some (rf 13 (17)), some (rf 14 (6)), y7, some (.inl (u8)), y9, y10, some (.inl (u11)), some (.inl (u12)), some (.inr (.inl (u13))), none, some (.inl (u15)), y16, y17] [.inl (m_i τ 13 (17) (Int32.ofInt 1).toNatClampNeg), .inr (.inl (u13))] τ (w, σ') := h
      refine ⟨vp_2 vp4, ?_⟩
      replace h := ec_p h rfl rfl rfl rfl
      obtain ⟨f, g, h⟩ := h
      replace hf := Nat.lt_trans g hf
      clear g
      replace h : EC C f 18 ab_main 512 [some (rf 98 (0)), some (rf 11 (0)), some (rf 13 (14)), some (rf 13 (15)), some (rf 13 (16)), some (rf 13 (17)), some (rf 14 (6)), y7, some (.inl (u8)), y9, y10, some (.inl (u11)), some (.inl (u12)), some (.inr (.inl (u13))), none, some (.inl (u15)), y16, y17] [.inl (Int32.ofInt 1), .inl (m_i τ 13 (17) (Int32.ofInt 1).toNatClampNeg), .inr (.inl (u13))] τ (w, σ') := h
      replace h := ec_p h rfl rfl rfl rfl
      obtain ⟨f, g, h⟩ := h
      replace hf := Nat.lt_trans g hf
      clear g
      replace h : EC C f 18 ab_main 513 [some (rf 98 (0)), some (rf 11 (0)), some (rf 13 (14)), some (rf 13 (15)), some (rf 13 (16)), some (rf 13 (17)), some (rf 14 (6)), y7, some (.inl (u8)), y9, y10, some (.inl (u11)), some (.inl (u12)), some (.inr (.inl (u13))), none, some (.inl (u15)), y16, y17] [.inl ((m_i τ 13 (17) (Int32.ofInt 1).toNatClampNeg) + (Int32.ofInt 1)), .inr (.inl (u13))] τ (w, σ') := h
      replace h := ec_p h rfl rfl rfl rfl
      obtain ⟨f, g, h⟩ := h
      replace hf := Nat.lt_trans g hf
      clear g
      replace h : EC C f 18 ab_main 514 [some (rf 98 (0)), some (rf 11 (0)), some (rf 13 (14)), some (rf 13 (15)), some (rf 13 (16)), some (rf 13 (17)), some (rf 14 (6)), y7, some (.inl (u8)), y9, y10, some (.inl (u11)), some (.inl (u12)), some (.inr (.inl (u13))), none, some (.inl (u15)), y16, y17] [.inr (.inl (((m_i τ 13 (17) (Int32.ofInt 1).toNatClampNeg) + (Int32.ofInt 1)).toInt64)), .inr (.inl (u13))] τ (w, σ') := h
      replace h := ec_p h rfl rfl rfl rfl
      obtain ⟨f, g, h⟩ := h
      replace hf := Nat.lt_trans g hf
      clear g
      replace h : EC C f 18 ab_main 515 [some (rf 98 (0)), some (rf 11 (0)), some (rf 13 (14)), some (rf 13 (15)), some (rf 13 (16)), some (rf 13 (17)), some (rf 14 (6)), y7, some (.inl (u8)), y9, y10, some (.inl (u11)), some (.inl (u12)), some (.inr (.inl (u13))), none, some (.inl (u15)), y16, y17] [.inl (lg_cmp (u13) (((m_i τ 13 (17) (Int32.ofInt 1).toNatClampNeg) + (Int32.ofInt 1)).toInt64))] τ (w, σ') := h
      replace h := ec_c h rfl rfl rfl
      rcases h with ⟨hp5, f, g, h⟩ | ⟨hp5, f, g, h⟩
      · skip
        replace hp5 : (u13).toInt ≠ (((m_i τ 13 (17) (Int32.ofInt 1).toNatClampNeg) + (Int32.ofInt 1)).toInt64).toInt := (ab_lc .ne _ _).mp hp5
        refine Or.inl ⟨hp5, ?_⟩
        replace hf := Nat.lt_trans g hf
        clear g
        replace h : EC C f 18 ab_main 522 [some (rf 98 (0)), some (rf 11 (0)), some (rf 13 (14)), some (rf 13 (15)), some (rf 13 (16)), some (rf 13 (17)), some (rf 14 (6)), y7, some (.inl (u8)), y9, y10, some (.inl (u11)), some (.inl (u12)), some (.inr (.inl (u13))), none, some (.inl (u15)), y16, y17] [] τ (w, σ') := h
        replace h := ec_p h rfl rfl rfl rfl
        obtain ⟨f, g, h⟩ := h
        replace hf := Nat.lt_trans g hf
        clear g
        replace h : EC C f 18 ab_main 523 [some (rf 98 (0)), some (rf 11 (0)), some (rf 13 (14)), some (rf 13 (15)), some (rf 13 (16)), some (rf 13 (17)), some (rf 14 (6)), y7, some (.inl (u8)), y9, y10, some (.inl (u11)), some (.inl (u12)), some (.inr (.inl (u13))), none, some (.inl (u15)), y16, y17] [.inl (Int32.ofInt 0)] τ (w, σ') := h
        replace h := ec_p h rfl rfl rfl rfl
        obtain ⟨f, g, h⟩ := h
        replace hf := Nat.lt_trans g hf
        clear g
        replace h : EC C f 18 ab_main 525 [some (rf 98 (0)), some (rf 11 (0)), some (rf 13 (14)), some (rf 13 (15)), some (rf 13 (16)), some (rf 13 (17)), some (rf 14 (6)), some (.inl (Int32.ofInt 0)), some (.inl (u8)), y9, y10, some (.inl (u11)), some (.inl (u12)), some (.inr (.inl (u13))), none, some (.inl (u15)), y16, y17] [] τ (w, σ') := h
        exact H525 f hf (Int32.ofInt 0) (u8) (u11) (u12) (u13) y9 y10 (some (.inl (u15))) y16 y17 τ hsτ h
      · skip
        replace hp5 : ¬ ((u13).toInt ≠ (((m_i τ 13 (17) (Int32.ofInt 1).toNatClampNeg) + (Int32.ofInt 1)).toInt64).toInt) := (not_congr (ab_lc .ne _ _)).mp hp5
        refine Or.inr ⟨hp5, ?_⟩
        replace hf := Nat.lt_trans g hf
        clear g
        replace h : EC C f 18 ab_main 518 [some (rf 98 (0)), some (rf 11 (0)), some (rf 13 (14)), some (rf 13 (15)), some (rf 13 (16)), some (rf 13 (17)), some (rf 14 (6)), y7, some (.inl (u8)), y9, y10, some (.inl (u11)), some (.inl (u12)), some (.inr (.inl (u13))), none, some (.inl (u15)), y16, y17] [] τ (w, σ') := h
        replace h := ec_p h rfl rfl rfl rfl
        obtain ⟨f, g, h⟩ := h
        replace hf := Nat.lt_trans g hf
        clear g
        replace h : EC C f 18 ab_main 519 [some (rf 98 (0)), some (rf 11 (0)), some (rf 13 (14)), some (rf 13 (15)), some (rf 13 (16)), some (rf 13 (17)), some (rf 14 (6)), y7, some (.inl (u8)), y9, y10, some (.inl (u11)), some (.inl (u12)), some (.inr (.inl (u13))), none, some (.inl (u15)), y16, y17] [.inl (Int32.ofInt 1)] τ (w, σ') := h
        replace h := ec_p h rfl rfl rfl rfl
        obtain ⟨f, g, h⟩ := h
        replace hf := Nat.lt_trans g hf
        clear g
        replace h : EC C f 18 ab_main 523 [some (rf 98 (0)), some (rf 11 (0)), some (rf 13 (14)), some (rf 13 (15)), some (rf 13 (16)), some (rf 13 (17)), some (rf 14 (6)), y7, some (.inl (u8)), y9, y10, some (.inl (u11)), some (.inl (u12)), some (.inr (.inl (u13))), none, some (.inl (u15)), y16, y17] [.inl (Int32.ofInt 1)] τ (w, σ') := h
        replace h := ec_p h rfl rfl rfl rfl
        obtain ⟨f, g, h⟩ := h
        replace hf := Nat.lt_trans g hf
        clear g
        replace h : EC C f 18 ab_main 525 [some (rf 98 (0)), some (rf 11 (0)), some (rf 13 (14)), some (rf 13 (15)), some (rf 13 (16)), some (rf 13 (17)), some (rf 14 (6)), some (.inl (Int32.ofInt 1)), some (.inl (u8)), y9, y10, some (.inl (u11)), some (.inl (u12)), some (.inr (.inl (u13))), none, some (.inl (u15)), y16, y17] [] τ (w, σ') := h
        exact H525 f hf (Int32.ofInt 1) (u8) (u11) (u12) (u13) y9 y10 (some (.inl (u15))) y16 y17 τ hsτ h
    · skip
      replace hp3 : ¬ ((m_i τ 13 (17) (Int32.ofInt 1).toNatClampNeg).toInt ≠ (4 : Int)) := (not_congr ic_ne).mp hp3
      refine Or.inr ⟨hp3, ?_⟩
      replace hf := Nat.lt_trans g hf
      clear g
      replace h : EC C f 18 ab_main 501 [some (rf 98 (0)), some (rf 11 (0)), some (rf 13 (14)), some (rf 13 (15)), some (rf 13 (16)), some (rf 13 (17)), some (rf 14 (6)), y7, some (.inl (u8)), y9, y10, some (.inl (u11)), some (.inl (u12)), some (.inr (.inl (u13))), none, some (.inl (u15)), y16, y17] [.inr (.inl (u13))] τ (w, σ') := h
      replace h := ec_p h rfl rfl rfl rfl
      obtain ⟨f, g, h⟩ := h
      replace hf := Nat.lt_trans g hf
      clear g
      replace h : EC C f 18 ab_main 504 [some (rf 98 (0)), some (rf 11 (0)), some (rf 13 (14)), some (rf 13 (15)), some (rf 13 (16)), some (rf 13 (17)), some (rf 14 (6)), y7, some (.inl (u8)), y9, y10, some (.inl (u11)), some (.inl (u12)), some (.inr (.inl (u13))), none, some (.inl (u15)), y16, y17] [.inr (.inl (Int64.ofInt (-1000000000))), .inr (.inl (u13))] τ (w, σ') := h
      replace h := ec_p h rfl rfl rfl rfl
      obtain ⟨f, g, h⟩ := h
      replace hf := Nat.lt_trans g hf
      clear g
      replace h : EC C f 18 ab_main 514 [some (rf 98 (0)), some (rf 11 (0)), some (rf 13 (14)), some (rf 13 (15)), some (rf 13 (16)), some (rf 13 (17)), some (rf 14 (6)), y7, some (.inl (u8)), y9, y10, some (.inl (u11)), some (.inl (u12)), some (.inr (.inl (u13))), none, some (.inl (u15)), y16, y17] [.inr (.inl (Int64.ofInt (-1000000000))), .inr (.inl (u13))] τ (w, σ') := h
      replace h := ec_p h rfl rfl rfl rfl
      obtain ⟨f, g, h⟩ := h
      replace hf := Nat.lt_trans g hf
      clear g
      replace h : EC C f 18 ab_main 515 [some (rf 98 (0)), some (rf 11 (0)), some (rf 13 (14)), some (rf 13 (15)), some (rf 13 (16)), some (rf 13 (17)), some (rf 14 (6)), y7, some (.inl (u8)), y9, y10, some (.inl (u11)), some (.inl (u12)), some (.inr (.inl (u13))), none, some (.inl (u15)), y16, y17] [.inl (lg_cmp (u13) (Int64.ofInt (-1000000000)))] τ (w, σ') := h
      replace h := ec_c h rfl rfl rfl
      rcases h with ⟨hp6, f, g, h⟩ | ⟨hp6, f, g, h⟩
      · skip
        replace hp6 : (u13).toInt ≠ (Int64.ofInt (-1000000000)).toInt := (ab_lc .ne _ _).mp hp6
        refine Or.inl ⟨hp6, ?_⟩
        replace hf := Nat.lt_trans g hf
        clear g
        replace h : EC C f 18 ab_main 522 [some (rf 98 (0)), some (rf 11 (0)), some (rf 13 (14)), some (rf 13 (15)), some (rf 13 (16)), some (rf 13 (17)), some (rf 14 (6)), y7, some (.inl (u8)), y9, y10, some (.inl (u11)), some (.inl (u12)), some (.inr (.inl (u13))), none, some (.inl (u15)), y16, y17] [] τ (w, σ') := h
        replace h := ec_p h rfl rfl rfl rfl
        obtain ⟨f, g, h⟩ := h
        replace hf := Nat.lt_trans g hf
        clear g
        replace h : EC C f 18 ab_main 523 [some (rf 98 (0)), some (rf 11 (0)), some (rf 13 (14)), some (rf 13 (15)), some (rf 13 (16)), some (rf 13 (17)), some (rf 14 (6)), y7, some (.inl (u8)), y9, y10, some (.inl (u11)), some (.inl (u12)), some (.inr (.inl (u13))), none, some (.inl (u15)), y16, y17] [.inl (Int32.ofInt 0)] τ (w, σ') := h
        replace h := ec_p h rfl rfl rfl rfl
        obtain ⟨f, g, h⟩ := h
        replace hf := Nat.lt_trans g hf
        clear g
        replace h : EC C f 18 ab_main 525 [some (rf 98 (0)), some (rf 11 (0)), some (rf 13 (14)), some (rf 13 (15)), some (rf 13 (16)), some (rf 13 (17)), some (rf 14 (6)), some (.inl (Int32.ofInt 0)), some (.inl (u8)), y9, y10, some (.inl (u11)), some (.inl (u12)), some (.inr (.inl (u13))), none, some (.inl (u15)), y16, y17] [] τ (w, σ') := h
        exact H525 f hf (Int32.ofInt 0) (u8) (u11) (u12) (u13) y9 y10 (some (.inl (u15))) y16 y17 τ hsτ h
      · skip
        replace hp6 : ¬ ((u13).toInt ≠ (Int64.ofInt (-1000000000)).toInt) := (not_congr (ab_lc .ne _ _)).mp hp6
        refine Or.inr ⟨hp6, ?_⟩
        replace hf := Nat.lt_trans g hf
        clear g
        replace h : EC C f 18 ab_main 518 [some (rf 98 (0)), some (rf 11 (0)), some (rf 13 (14)), some (rf 13 (15)), some (rf 13 (16)), some (rf 13 (17)), some (rf 14 (6)), y7, some (.inl (u8)), y9, y10, some (.inl (u11)), some (.inl (u12)), some (.inr (.inl (u13))), none, some (.inl (u15)), y16, y17] [] τ (w, σ') := h
        replace h := ec_p h rfl rfl rfl rfl
        obtain ⟨f, g, h⟩ := h
        replace hf := Nat.lt_trans g hf
        clear g
        replace h : EC C f 18 ab_main 519 [some (rf 98 (0)), some (rf 11 (0)), some (rf 13 (14)), some (rf 13 (15)), some (rf 13 (16)), some (rf 13 (17)), some (rf 14 (6)), y7, some (.inl (u8)), y9, y10, some (.inl (u11)), some (.inl (u12)), some (.inr (.inl (u13))), none, some (.inl (u15)), y16, y17] [.inl (Int32.ofInt 1)] τ (w, σ') := h
        replace h := ec_p h rfl rfl rfl rfl
        obtain ⟨f, g, h⟩ := h
        replace hf := Nat.lt_trans g hf
        clear g
        replace h : EC C f 18 ab_main 523 [some (rf 98 (0)), some (rf 11 (0)), some (rf 13 (14)), some (rf 13 (15)), some (rf 13 (16)), some (rf 13 (17)), some (rf 14 (6)), y7, some (.inl (u8)), y9, y10, some (.inl (u11)), some (.inl (u12)), some (.inr (.inl (u13))), none, some (.inl (u15)), y16, y17] [.inl (Int32.ofInt 1)] τ (w, σ') := h
        replace h := ec_p h rfl rfl rfl rfl
        obtain ⟨f, g, h⟩ := h
        replace hf := Nat.lt_trans g hf
        clear g
        replace h : EC C f 18 ab_main 525 [some (rf 98 (0)), some (rf 11 (0)), some (rf 13 (14)), some (rf 13 (15)), some (rf 13 (16)), some (rf 13 (17)), some (rf 14 (6)), some (.inl (Int32.ofInt 1)), some (.inl (u8)), y9, y10, some (.inl (u11)), some (.inl (u12)), some (.inr (.inl (u13))), none, some (.inl (u15)), y16, y17] [] τ (w, σ') := h
        exact H525 f hf (Int32.ofInt 1) (u8) (u11) (u12) (u13) y9 y10 (some (.inl (u15))) y16 y17 τ hsτ h
  · skip
    replace hp1 : ¬ ((u15).toInt ≠ (0 : Int)) := (not_congr ic_ne).mp hp1
    refine Or.inr ⟨hp1, ?_⟩
    replace hf := Nat.lt_trans g hf
    clear g
    replace h : EC C f 18 ab_main 487 [some (rf 98 (0)), some (rf 11 (0)), some (rf 13 (14)), some (rf 13 (15)), some (rf 13 (16)), some (rf 13 (17)), some (rf 14 (6)), y7, some (.inl (u8)), y9, y10, some (.inl (u11)), some (.inl (u12)), some (.inr (.inl (u13))), none, some (.inl (u15)), y16, y17] [.inr (.inl (u13))] τ (w, σ') := h
    replace h := ec_p h rfl rfl rfl rfl
    obtain ⟨f, g, h⟩ := h
    replace hf := Nat.lt_trans g hf
    clear g
    replace h : EC C f 18 ab_main 490 [some (rf 98 (0)), some (rf 11 (0)), some (rf 13 (14)), some (rf 13 (15)), some (rf 13 (16)), some (rf 13 (17)), some (rf 14 (6)), y7, some (.inl (u8)), y9, y10, some (.inl (u11)), some (.inl (u12)), some (.inr (.inl (u13))), none, some (.inl (u15)), y16, y17] [.inr (.inl (Int64.ofInt (-2000000000))), .inr (.inl (u13))] τ (w, σ') := h
    replace h := ec_p h rfl rfl rfl rfl
    obtain ⟨f, g, h⟩ := h
    replace hf := Nat.lt_trans g hf
    clear g
    replace h : EC C f 18 ab_main 514 [some (rf 98 (0)), some (rf 11 (0)), some (rf 13 (14)), some (rf 13 (15)), some (rf 13 (16)), some (rf 13 (17)), some (rf 14 (6)), y7, some (.inl (u8)), y9, y10, some (.inl (u11)), some (.inl (u12)), some (.inr (.inl (u13))), none, some (.inl (u15)), y16, y17] [.inr (.inl (Int64.ofInt (-2000000000))), .inr (.inl (u13))] τ (w, σ') := h
    replace h := ec_p h rfl rfl rfl rfl
    obtain ⟨f, g, h⟩ := h
    replace hf := Nat.lt_trans g hf
    clear g
    replace h : EC C f 18 ab_main 515 [some (rf 98 (0)), some (rf 11 (0)), some (rf 13 (14)), some (rf 13 (15)), some (rf 13 (16)), some (rf 13 (17)), some (rf 14 (6)), y7, some (.inl (u8)), y9, y10, some (.inl (u11)), some (.inl (u12)), some (.inr (.inl (u13))), none, some (.inl (u15)), y16, y17] [.inl (lg_cmp (u13) (Int64.ofInt (-2000000000)))] τ (w, σ') := h
    replace h := ec_c h rfl rfl rfl
    rcases h with ⟨hp7, f, g, h⟩ | ⟨hp7, f, g, h⟩
    · skip
      replace hp7 : (u13).toInt ≠ (Int64.ofInt (-2000000000)).toInt := (ab_lc .ne _ _).mp hp7
      refine Or.inl ⟨hp7, ?_⟩
      replace hf := Nat.lt_trans g hf
      clear g
      replace h : EC C f 18 ab_main 522 [some (rf 98 (0)), some (rf 11 (0)), some (rf 13 (14)), some (rf 13 (15)), some (rf 13 (16)), some (rf 13 (17)), some (rf 14 (6)), y7, some (.inl (u8)), y9, y10, some (.inl (u11)), some (.inl (u12)), some (.inr (.inl (u13))), none, some (.inl (u15)), y16, y17] [] τ (w, σ') := h
      replace h := ec_p h rfl rfl rfl rfl
      obtain ⟨f, g, h⟩ := h
      replace hf := Nat.lt_trans g hf
      clear g
      replace h : EC C f 18 ab_main 523 [some (rf 98 (0)), some (rf 11 (0)), some (rf 13 (14)), some (rf 13 (15)), some (rf 13 (16)), some (rf 13 (17)), some (rf 14 (6)), y7, some (.inl (u8)), y9, y10, some (.inl (u11)), some (.inl (u12)), some (.inr (.inl (u13))), none, some (.inl (u15)), y16, y17] [.inl (Int32.ofInt 0)] τ (w, σ') := h
      replace h := ec_p h rfl rfl rfl rfl
      obtain ⟨f, g, h⟩ := h
      replace hf := Nat.lt_trans g hf
      clear g
      replace h : EC C f 18 ab_main 525 [some (rf 98 (0)), some (rf 11 (0)), some (rf 13 (14)), some (rf 13 (15)), some (rf 13 (16)), some (rf 13 (17)), some (rf 14 (6)), some (.inl (Int32.ofInt 0)), some (.inl (u8)), y9, y10, some (.inl (u11)), some (.inl (u12)), some (.inr (.inl (u13))), none, some (.inl (u15)), y16, y17] [] τ (w, σ') := h
      exact H525 f hf (Int32.ofInt 0) (u8) (u11) (u12) (u13) y9 y10 (some (.inl (u15))) y16 y17 τ hsτ h
    · skip
      replace hp7 : ¬ ((u13).toInt ≠ (Int64.ofInt (-2000000000)).toInt) := (not_congr (ab_lc .ne _ _)).mp hp7
      refine Or.inr ⟨hp7, ?_⟩
      replace hf := Nat.lt_trans g hf
      clear g
      replace h : EC C f 18 ab_main 518 [some (rf 98 (0)), some (rf 11 (0)), some (rf 13 (14)), some (rf 13 (15)), some (rf 13 (16)), some (rf 13 (17)), some (rf 14 (6)), y7, some (.inl (u8)), y9, y10, some (.inl (u11)), some (.inl (u12)), some (.inr (.inl (u13))), none, some (.inl (u15)), y16, y17] [] τ (w, σ') := h
      replace h := ec_p h rfl rfl rfl rfl
      obtain ⟨f, g, h⟩ := h
      replace hf := Nat.lt_trans g hf
      clear g
      replace h : EC C f 18 ab_main 519 [some (rf 98 (0)), some (rf 11 (0)), some (rf 13 (14)), some (rf 13 (15)), some (rf 13 (16)), some (rf 13 (17)), some (rf 14 (6)), y7, some (.inl (u8)), y9, y10, some (.inl (u11)), some (.inl (u12)), some (.inr (.inl (u13))), none, some (.inl (u15)), y16, y17] [.inl (Int32.ofInt 1)] τ (w, σ') := h
      replace h := ec_p h rfl rfl rfl rfl
      obtain ⟨f, g, h⟩ := h
      replace hf := Nat.lt_trans g hf
      clear g
      replace h : EC C f 18 ab_main 523 [some (rf 98 (0)), some (rf 11 (0)), some (rf 13 (14)), some (rf 13 (15)), some (rf 13 (16)), some (rf 13 (17)), some (rf 14 (6)), y7, some (.inl (u8)), y9, y10, some (.inl (u11)), some (.inl (u12)), some (.inr (.inl (u13))), none, some (.inl (u15)), y16, y17] [.inl (Int32.ofInt 1)] τ (w, σ') := h
      replace h := ec_p h rfl rfl rfl rfl
      obtain ⟨f, g, h⟩ := h
      replace hf := Nat.lt_trans g hf
      clear g
      replace h : EC C f 18 ab_main 525 [some (rf 98 (0)), some (rf 11 (0)), some (rf 13 (14)), some (rf 13 (15)), some (rf 13 (16)), some (rf 13 (17)), some (rf 14 (6)), some (.inl (Int32.ofInt 1)), some (.inl (u8)), y9, y10, some (.inl (u11)), some (.inl (u12)), some (.inr (.inl (u13))), none, some (.inl (u15)), y16, y17] [] τ (w, σ') := h
      exact H525 f hf (Int32.ofInt 1) (u8) (u11) (u12) (u13) y9 y10 (some (.inl (u15))) y16 y17 τ hsτ h
def T525 (K925 : Int32 → Int32 → Int32 → mS → Prop) (u7 : Int32) (u8 : Int32) (u11 : Int32) (u12 : Int32) (u13 : Int64) (τ : mS) (w : mX) (σ' : mS) : Prop := (((u13).toInt ≤ (Int64.ofNat 0).toInt ∧ K925 (u7) (u8) (u11) τ) ∨ (¬ ((u13).toInt ≤ (Int64.ofNat 0).toInt) ∧ (0 ≤ (1 : Int) ∧ (1 : Int) < (τ.2.1 13 (17) : Int)) ∧ ∃ σ4, σ4 = m_set τ 13 (16) (((Int32.ofInt 3) * (m_i τ 13 (17) (Int32.ofInt 1).toNatClampNeg)).toNatClampNeg) (.inl (u12)) ∧ (0 ≤ ((Int32.ofInt 3) * (m_i τ 13 (17) (Int32.ofInt 1).toNatClampNeg)).toInt ∧ ((Int32.ofInt 3) * (m_i τ 13 (17) (Int32.ofInt 1).toNatClampNeg)).toInt < (τ.2.1 13 (16) : Int)) ∧ (0 ≤ (1 : Int) ∧ (1 : Int) < (σ4.2.1 13 (17) : Int)) ∧ ∃ σ9, σ9 = m_set σ4 13 (16) ((((Int32.ofInt 3) * (m_i σ4 13 (17) (Int32.ofInt 1).toNatClampNeg)) + (Int32.ofInt 1)).toNatClampNeg) (.inl (((u11) - (u11) / (Int32.ofInt 101) * (Int32.ofInt 101)) - (Int32.ofInt 50))) ∧ (0 ≤ (((Int32.ofInt 3) * (m_i σ4 13 (17) (Int32.ofInt 1).toNatClampNeg)) + (Int32.ofInt 1)).toInt ∧ (((Int32.ofInt 3) * (m_i σ4 13 (17) (Int32.ofInt 1).toNatClampNeg)) + (Int32.ofInt 1)).toInt < (σ4.2.1 13 (16) : Int)) ∧ (0 ≤ (1 : Int) ∧ (1 : Int) < (σ9.2.1 13 (17) : Int)) ∧ ∃ σ15, σ15 = m_set σ9 13 (16) ((((Int32.ofInt 3) * (m_i σ9 13 (17) (Int32.ofInt 1).toNatClampNeg)) + (Int32.ofInt 2)).toNatClampNeg) (.inl ((((u11) / (Int32.ofInt 101)) - ((u11) / (Int32.ofInt 101)) / (Int32.ofInt 101) * (Int32.ofInt 101)) - (Int32.ofInt 50))) ∧ (0 ≤ (((Int32.ofInt 3) * (m_i σ9 13 (17) (Int32.ofInt 1).toNatClampNeg)) + (Int32.ofInt 2)).toInt ∧ (((Int32.ofInt 3) * (m_i σ9 13 (17) (Int32.ofInt 1).toNatClampNeg)) + (Int32.ofInt 2)).toInt < (σ9.2.1 13 (16) : Int)) ∧ (0 ≤ (1 : Int) ∧ (1 : Int) < (σ15.2.1 13 (17) : Int)) ∧ ∃ σ19, σ19 = m_set σ15 13 (17) ((Int32.ofInt 1).toNatClampNeg) (.inl ((m_i σ15 13 (17) (Int32.ofInt 1).toNatClampNeg) + (Int32.ofInt 1))) ∧ (0 ≤ (1 : Int) ∧ (1 : Int) < (σ15.2.1 13 (17) : Int)) ∧ K925 (u7) (u8) (u11) σ19))
set_option maxRecDepth 100000 in
theorem t525 {C : ec_C} (hC : CK C) {N : Nat} {w : mX} {σ' : mS} {K925 : Int32 → Int32 → Int32 → mS → Prop} (H925 : ∀ f, f < N → ∀ (u7 : Int32) (u8 : Int32) (u11 : Int32) (y9 : Option mV) (y10 : Option mV) (y12 : Option mV) (y13 : Option mV) (y14 : Option mV) (y15 : Option mV) (y16 : Option mV) (y17 : Option mV) (τ : mS), HL τ → EC C f 18 ab_main 925 [some (rf 98 (0)), some (rf 11 (0)), some (rf 13 (14)), some (rf 13 (15)), some (rf 13 (16)), some (rf 13 (17)), some (rf 14 (6)), some (.inl (u7)), some (.inl (u8)), y9, y10, some (.inl (u11)), y12, y13, y14, y15, y16, y17] [] τ (w, σ') → K925 u7 u8 u11 τ) : ∀ f, f < N + 1 → ∀ (u7 : Int32) (u8 : Int32) (u11 : Int32) (u12 : Int32) (u13 : Int64) (y9 : Option mV) (y10 : Option mV) (y15 : Option mV) (y16 : Option mV) (y17 : Option mV) (τ : mS), HL τ → EC C f 18 ab_main 525 [some (rf 98 (0)), some (rf 11 (0)), some (rf 13 (14)), some (rf 13 (15)), some (rf 13 (16)), some (rf 13 (17)), some (rf 14 (6)), some (.inl (u7)), some (.inl (u8)), y9, y10, some (.inl (u11)), some (.inl (u12)), some (.inr (.inl (u13))), none, y15, y16, y17] [] τ (w, σ') → T525 K925 u7 u8 u11 u12 u13 τ w σ' := by
  intro f hf0 u7 u8 u11 u12 u13 y9 y10 y15 y16 y17 τ hsτ h
  have hf : f < N + 1 := hf0
  clear hf0
  unfold T525
  replace h : EC C f 18 ab_main 525 [some (rf 98 (0)), some (rf 11 (0)), some (rf 13 (14)), some (rf 13 (15)), some (rf 13 (16)), some (rf 13 (17)), some (rf 14 (6)), some (.inl (u7)), some (.inl (u8)), y9, y10, some (.inl (u11)), some (.inl (u12)), some (.inr (.inl (u13))), none, y15, y16, y17] [] τ (w, σ') := h
  replace h := ec_p h rfl rfl rfl rfl
  obtain ⟨f, g, h⟩ := h
  replace hf := Nat.lt_of_lt_of_le g (Nat.le_of_lt_succ hf)
  clear g
  replace h : EC C f 18 ab_main 527 [some (rf 98 (0)), some (rf 11 (0)), some (rf 13 (14)), some (rf 13 (15)), some (rf 13 (16)), some (rf 13 (17)), some (rf 14 (6)), some (.inl (u7)), some (.inl (u8)), y9, y10, some (.inl (u11)), some (.inl (u12)), some (.inr (.inl (u13))), none, y15, y16, y17] [.inr (.inl (u13))] τ (w, σ') := h
  replace h := ec_p h rfl rfl rfl rfl
  obtain ⟨f, g, h⟩ := h
  replace hf := Nat.lt_trans g hf
  clear g
  replace h : EC C f 18 ab_main 528 [some (rf 98 (0)), some (rf 11 (0)), some (rf 13 (14)), some (rf 13 (15)), some (rf 13 (16)), some (rf 13 (17)), some (rf 14 (6)), some (.inl (u7)), some (.inl (u8)), y9, y10, some (.inl (u11)), some (.inl (u12)), some (.inr (.inl (u13))), none, y15, y16, y17] [.inr (.inl (Int64.ofNat 0)), .inr (.inl (u13))] τ (w, σ') := h
  replace h := ec_p h rfl rfl rfl rfl
  obtain ⟨f, g, h⟩ := h
  replace hf := Nat.lt_trans g hf
  clear g
  replace h : EC C f 18 ab_main 529 [some (rf 98 (0)), some (rf 11 (0)), some (rf 13 (14)), some (rf 13 (15)), some (rf 13 (16)), some (rf 13 (17)), some (rf 14 (6)), some (.inl (u7)), some (.inl (u8)), y9, y10, some (.inl (u11)), some (.inl (u12)), some (.inr (.inl (u13))), none, y15, y16, y17] [.inl (lg_cmp (u13) (Int64.ofNat 0))] τ (w, σ') := h
  replace h := ec_c h rfl rfl rfl
  rcases h with ⟨hp1, f, g, h⟩ | ⟨hp1, f, g, h⟩
  · skip
    replace hp1 : (u13).toInt ≤ (Int64.ofNat 0).toInt := (ab_lc .le _ _).mp hp1
    refine Or.inl ⟨hp1, ?_⟩
    replace hf := Nat.lt_trans g hf
    clear g
    replace h : EC C f 18 ab_main 592 [some (rf 98 (0)), some (rf 11 (0)), some (rf 13 (14)), some (rf 13 (15)), some (rf 13 (16)), some (rf 13 (17)), some (rf 14 (6)), some (.inl (u7)), some (.inl (u8)), y9, y10, some (.inl (u11)), some (.inl (u12)), some (.inr (.inl (u13))), none, y15, y16, y17] [] τ (w, σ') := h
    replace h := ec_p h rfl rfl rfl rfl
    obtain ⟨f, g, h⟩ := h
    replace hf := Nat.lt_trans g hf
    clear g
    replace h : EC C f 18 ab_main 925 [some (rf 98 (0)), some (rf 11 (0)), some (rf 13 (14)), some (rf 13 (15)), some (rf 13 (16)), some (rf 13 (17)), some (rf 14 (6)), some (.inl (u7)), some (.inl (u8)), y9, y10, some (.inl (u11)), some (.inl (u12)), some (.inr (.inl (u13))), none, y15, y16, y17] [] τ (w, σ') := h
    exact H925 f hf (u7) (u8) (u11) y9 y10 (some (.inl (u12))) (some (.inr (.inl (u13)))) (none) y15 y16 y17 τ hsτ h
  · skip
    replace hp1 : ¬ ((u13).toInt ≤ (Int64.ofNat 0).toInt) := (not_congr (ab_lc .le _ _)).mp hp1
    refine Or.inr ⟨hp1, ?_⟩
    replace hf := Nat.lt_trans g hf
    clear g
    replace h : EC C f 18 ab_main 532 [some (rf 98 (0)), some (rf 11 (0)), some (rf 13 (14)), some (rf 13 (15)), some (rf 13 (16)), some (rf 13 (17)), some (rf 14 (6)), some (.inl (u7)), some (.inl (u8)), y9, y10, some (.inl (u11)), some (.inl (u12)), some (.inr (.inl (u13))), none, y15, y16, y17] [] τ (w, σ') := h
    replace h := ec_p h rfl rfl rfl rfl
    obtain ⟨f, g, h⟩ := h
    replace hf := Nat.lt_trans g hf
    clear g
    replace h : EC C f 18 ab_main 534 [some (rf 98 (0)), some (rf 11 (0)), some (rf 13 (14)), some (rf 13 (15)), some (rf 13 (16)), some (rf 13 (17)), some (rf 14 (6)), some (.inl (u7)), some (.inl (u8)), y9, y10, some (.inl (u11)), some (.inl (u12)), some (.inr (.inl (u13))), none, y15, y16, y17] [rf 13 (16)] τ (w, σ') := h
    replace h := ec_p h rfl rfl rfl rfl
    obtain ⟨f, g, h⟩ := h
    replace hf := Nat.lt_trans g hf
    clear g
    replace h : EC C f 18 ab_main 535 [some (rf 98 (0)), some (rf 11 (0)), some (rf 13 (14)), some (rf 13 (15)), some (rf 13 (16)), some (rf 13 (17)), some (rf 14 (6)), some (.inl (u7)), some (.inl (u8)), y9, y10, some (.inl (u11)), some (.inl (u12)), some (.inr (.inl (u13))), none, y15, y16, y17] [.inl (Int32.ofInt 3), rf 13 (16)] τ (w, σ') := h
    replace h := ec_p h rfl rfl rfl rfl
    obtain ⟨f, g, h⟩ := h
    replace hf := Nat.lt_trans g hf
    clear g
    replace h : EC C f 18 ab_main 537 [some (rf 98 (0)), some (rf 11 (0)), some (rf 13 (14)), some (rf 13 (15)), some (rf 13 (16)), some (rf 13 (17)), some (rf 14 (6)), some (.inl (u7)), some (.inl (u8)), y9, y10, some (.inl (u11)), some (.inl (u12)), some (.inr (.inl (u13))), none, y15, y16, y17] [rf 13 (17), .inl (Int32.ofInt 3), rf 13 (16)] τ (w, σ') := h
    replace h := ec_p h rfl rfl rfl rfl
    obtain ⟨f, g, h⟩ := h
    replace hf := Nat.lt_trans g hf
    clear g
    replace h : EC C f 18 ab_main 538 [some (rf 98 (0)), some (rf 11 (0)), some (rf 13 (14)), some (rf 13 (15)), some (rf 13 (16)), some (rf 13 (17)), some (rf 14 (6)), some (.inl (u7)), some (.inl (u8)), y9, y10, some (.inl (u11)), some (.inl (u12)), some (.inr (.inl (u13))), none, y15, y16, y17] [.inl (Int32.ofInt 1), rf 13 (17), .inl (Int32.ofInt 3), rf 13 (16)] τ (w, σ') := h
    replace h := ec_iald h rfl (fun _ => rfl)
    obtain ⟨vp2, f, g, h⟩ := h
    replace hf := Nat.lt_trans g hf
    clear g
    replace h : EC C f 18 ab_main 539 [some (rf 98 (0)), some (rf 11 (0)), some (rf 13 (14)), some (rf 13 (15)), some (rf 13 (16)), some (rf 13 (17)), some (rf 14 (6)), some (.inl (u7)), some (.inl (u8)), y9, y10, some (.inl (u11)), some (.inl (u12)), some (.inr (.inl (u13))), none, y15, y16, y17] [.inl (m_i τ 13 (17) (Int32.ofInt 1).toNatClampNeg), .inl (Int32.ofInt 3), rf 13 (16)] τ (w, σ') := h
    refine ⟨vp_2 vp2, ?_⟩
    replace h := ec_p h rfl rfl rfl rfl
    obtain ⟨f, g, h⟩ := h
    replace hf := Nat.lt_trans g hf
    clear g
    replace h : EC C f 18 ab_main 540 [some (rf 98 (0)), some (rf 11 (0)), some (rf 13 (14)), some (rf 13 (15)), some (rf 13 (16)), some (rf 13 (17)), some (rf 14 (6)), some (.inl (u7)), some (.inl (u8)), y9, y10, some (.inl (u11)), some (.inl (u12)), some (.inr (.inl (u13))), none, y15, y16, y17] [.inl ((Int32.ofInt 3) * (m_i τ 13 (17) (Int32.ofInt 1).toNatClampNeg)), rf 13 (16)] τ (w, σ') := h
    replace h := ec_p h rfl rfl rfl rfl
    obtain ⟨f, g, h⟩ := h
    replace hf := Nat.lt_trans g hf
    clear g
    replace h : EC C f 18 ab_main 542 [some (rf 98 (0)), some (rf 11 (0)), some (rf 13 (14)), some (rf 13 (15)), some (rf 13 (16)), some (rf 13 (17)), some (rf 14 (6)), some (.inl (u7)), some (.inl (u8)), y9, y10, some (.inl (u11)), some (.inl (u12)), some (.inr (.inl (u13))), none, y15, y16, y17] [.inl (u12), .inl ((Int32.ofInt 3) * (m_i τ 13 (17) (Int32.ofInt 1).toNatClampNeg)), rf 13 (16)] τ (w, σ') := h
    replace h := ec_iast h rfl
    obtain ⟨ht3, f, g, h⟩ := h
    replace hf := Nat.lt_trans g hf
    clear g
    obtain ⟨σ4, e5⟩ : ∃ s, s = m_set τ 13 (16) (((Int32.ofInt 3) * (m_i τ 13 (17) (Int32.ofInt 1).toNatClampNeg)).toNatClampNeg) (.inl (u12)) := ⟨_, rfl⟩
    rw [← e5] at h
    have hsσ4 : HL σ4 := by rw [e5]; exact HL_set hsτ rfl
    refine ⟨σ4, e5, ?_⟩
    replace h : EC C f 18 ab_main 543 [some (rf 98 (0)), some (rf 11 (0)), some (rf 13 (14)), some (rf 13 (15)), some (rf 13 (16)), some (rf 13 (17)), some (rf 14 (6)), some (.inl (u7)), some (.inl (u8)), y9, y10, some (.inl (u11)), some (.inl (u12)), some (.inr (.inl (u13))), none, y15, y16, y17] [] σ4 (w, σ') := h
    refine ⟨vp_2 ht3, ?_⟩
    replace h := ec_p h rfl rfl rfl rfl
    obtain ⟨f, g, h⟩ := h
    replace hf := Nat.lt_trans g hf
    clear g
    replace h : EC C f 18 ab_main 545 [some (rf 98 (0)), some (rf 11 (0)), some (rf 13 (14)), some (rf 13 (15)), some (rf 13 (16)), some (rf 13 (17)), some (rf 14 (6)), some (.inl (u7)), some (.inl (u8)), y9, y10, some (.inl (u11)), some (.inl (u12)), some (.inr (.inl (u13))), none, y15, y16, y17] [rf 13 (16)] σ4 (w, σ') := h
    replace h := ec_p h rfl rfl rfl rfl
    obtain ⟨f, g, h⟩ := h
    replace hf := Nat.lt_trans g hf
    clear g
    replace h : EC C f 18 ab_main 546 [some (rf 98 (0)), some (rf 11 (0)), some (rf 13 (14)), some (rf 13 (15)), some (rf 13 (16)), some (rf 13 (17)), some (rf 14 (6)), some (.inl (u7)), some (.inl (u8)), y9, y10, some (.inl (u11)), some (.inl (u12)), some (.inr (.inl (u13))), none, y15, y16, y17] [.inl (Int32.ofInt 3), rf 13 (16)] σ4 (w, σ') := h
    replace h := ec_p h rfl rfl rfl rfl
    obtain ⟨f, g, h⟩ := h
    replace hf := Nat.lt_trans g hf
    clear g
    replace h : EC C f 18 ab_main 548 [some (rf 98 (0)), some (rf 11 (0)), some (rf 13 (14)), some (rf 13 (15)), some (rf 13 (16)), some (rf 13 (17)), some (rf 14 (6)), some (.inl (u7)), some (.inl (u8)), y9, y10, some (.inl (u11)), some (.inl (u12)), some (.inr (.inl (u13))), none, y15, y16, y17] [rf 13 (17), .inl (Int32.ofInt 3), rf 13 (16)] σ4 (w, σ') := h
    replace h := ec_p h rfl rfl rfl rfl
    obtain ⟨f, g, h⟩ := h
    replace hf := Nat.lt_trans g hf
    clear g
    replace h : EC C f 18 ab_main 549 [some (rf 98 (0)), some (rf 11 (0)), some (rf 13 (14)), some (rf 13 (15)), some (rf 13 (16)), some (rf 13 (17)), some (rf 14 (6)), some (.inl (u7)), some (.inl (u8)), y9, y10, some (.inl (u11)), some (.inl (u12)), some (.inr (.inl (u13))), none, y15, y16, y17] [.inl (Int32.ofInt 1), rf 13 (17), .inl (Int32.ofInt 3), rf 13 (16)] σ4 (w, σ') := h
    replace h := ec_iald h rfl (fun _ => rfl)
    obtain ⟨vp6, f, g, h⟩ := h
    replace hf := Nat.lt_trans g hf
    clear g
    replace h : EC C f 18 ab_main 550 [some (rf 98 (0)), some (rf 11 (0)), some (rf 13 (14)), some (rf 13 (15)), some (rf 13 (16)), some (rf 13 (17)), some (rf 14 (6)), some (.inl (u7)), some (.inl (u8)), y9, y10, some (.inl (u11)), some (.inl (u12)), some (.inr (.inl (u13))), none, y15, y16, y17] [.inl (m_i σ4 13 (17) (Int32.ofInt 1).toNatClampNeg), .inl (Int32.ofInt 3), rf 13 (16)] σ4 (w, σ') := h
    refine ⟨vp_2 vp6, ?_⟩
    replace h := ec_p h rfl rfl rfl rfl
    obtain ⟨f, g, h⟩ := h
    replace hf := Nat.lt_trans g hf
    clear g
    replace h : EC C f 18 ab_main 551 [some (rf 98 (0)), some (rf 11 (0)), some (rf 13 (14)), some (rf 13 (15)), some (rf 13 (16)), some (rf 13 (17)), some (rf 14 (6)), some (.inl (u7)), some (.inl (u8)), y9, y10, some (.inl (u11)), some (.inl (u12)), some (.inr (.inl (u13))), none, y15, y16, y17] [.inl ((Int32.ofInt 3) * (m_i σ4 13 (17) (Int32.ofInt 1).toNatClampNeg)), rf 13 (16)] σ4 (w, σ') := h
    replace h := ec_p h rfl rfl rfl rfl
    obtain ⟨f, g, h⟩ := h
    replace hf := Nat.lt_trans g hf
    clear g
    replace h : EC C f 18 ab_main 552 [some (rf 98 (0)), some (rf 11 (0)), some (rf 13 (14)), some (rf 13 (15)), some (rf 13 (16)), some (rf 13 (17)), some (rf 14 (6)), some (.inl (u7)), some (.inl (u8)), y9, y10, some (.inl (u11)), some (.inl (u12)), some (.inr (.inl (u13))), none, y15, y16, y17] [.inl (Int32.ofInt 1), .inl ((Int32.ofInt 3) * (m_i σ4 13 (17) (Int32.ofInt 1).toNatClampNeg)), rf 13 (16)] σ4 (w, σ') := h
    replace h := ec_p h rfl rfl rfl rfl
    obtain ⟨f, g, h⟩ := h
    replace hf := Nat.lt_trans g hf
    clear g
    replace h : EC C f 18 ab_main 553 [some (rf 98 (0)), some (rf 11 (0)), some (rf 13 (14)), some (rf 13 (15)), some (rf 13 (16)), some (rf 13 (17)), some (rf 14 (6)), some (.inl (u7)), some (.inl (u8)), y9, y10, some (.inl (u11)), some (.inl (u12)), some (.inr (.inl (u13))), none, y15, y16, y17] [.inl (((Int32.ofInt 3) * (m_i σ4 13 (17) (Int32.ofInt 1).toNatClampNeg)) + (Int32.ofInt 1)), rf 13 (16)] σ4 (w, σ') := h
    replace h := ec_p h rfl rfl rfl rfl
    obtain ⟨f, g, h⟩ := h
    replace hf := Nat.lt_trans g hf
    clear g
    replace h : EC C f 18 ab_main 555 [some (rf 98 (0)), some (rf 11 (0)), some (rf 13 (14)), some (rf 13 (15)), some (rf 13 (16)), some (rf 13 (17)), some (rf 14 (6)), some (.inl (u7)), some (.inl (u8)), y9, y10, some (.inl (u11)), some (.inl (u12)), some (.inr (.inl (u13))), none, y15, y16, y17] [.inl (u11), .inl (((Int32.ofInt 3) * (m_i σ4 13 (17) (Int32.ofInt 1).toNatClampNeg)) + (Int32.ofInt 1)), rf 13 (16)] σ4 (w, σ') := h
    replace h := ec_p h rfl rfl rfl rfl
    obtain ⟨f, g, h⟩ := h
    replace hf := Nat.lt_trans g hf
    clear g
    replace h : EC C f 18 ab_main 557 [some (rf 98 (0)), some (rf 11 (0)), some (rf 13 (14)), some (rf 13 (15)), some (rf 13 (16)), some (rf 13 (17)), some (rf 14 (6)), some (.inl (u7)), some (.inl (u8)), y9, y10, some (.inl (u11)), some (.inl (u12)), some (.inr (.inl (u13))), none, y15, y16, y17] [.inl (Int32.ofInt 101), .inl (u11), .inl (((Int32.ofInt 3) * (m_i σ4 13 (17) (Int32.ofInt 1).toNatClampNeg)) + (Int32.ofInt 1)), rf 13 (16)] σ4 (w, σ') := h
    replace h := ec_irem h rfl
    obtain ⟨hd7, f, g, h⟩ := h
    replace hf := Nat.lt_trans g hf
    clear g
    replace h : EC C f 18 ab_main 558 [some (rf 98 (0)), some (rf 11 (0)), some (rf 13 (14)), some (rf 13 (15)), some (rf 13 (16)), some (rf 13 (17)), some (rf 14 (6)), some (.inl (u7)), some (.inl (u8)), y9, y10, some (.inl (u11)), some (.inl (u12)), some (.inr (.inl (u13))), none, y15, y16, y17] [.inl ((u11) - (u11) / (Int32.ofInt 101) * (Int32.ofInt 101)), .inl (((Int32.ofInt 3) * (m_i σ4 13 (17) (Int32.ofInt 1).toNatClampNeg)) + (Int32.ofInt 1)), rf 13 (16)] σ4 (w, σ') := h
    replace h := ec_p h rfl rfl rfl rfl
    obtain ⟨f, g, h⟩ := h
    replace hf := Nat.lt_trans g hf
    clear g
    replace h : EC C f 18 ab_main 560 [some (rf 98 (0)), some (rf 11 (0)), some (rf 13 (14)), some (rf 13 (15)), some (rf 13 (16)), some (rf 13 (17)), some (rf 14 (6)), some (.inl (u7)), some (.inl (u8)), y9, y10, some (.inl (u11)), some (.inl (u12)), some (.inr (.inl (u13))), none, y15, y16, y17] [.inl (Int32.ofInt 50), .inl ((u11) - (u11) / (Int32.ofInt 101) * (Int32.ofInt 101)), .inl (((Int32.ofInt 3) * (m_i σ4 13 (17) (Int32.ofInt 1).toNatClampNeg)) + (Int32.ofInt 1)), rf 13 (16)] σ4 (w, σ') := h
    replace h := ec_p h rfl rfl rfl rfl
    obtain ⟨f, g, h⟩ := h
    replace hf := Nat.lt_trans g hf
    clear g
    replace h : EC C f 18 ab_main 561 [some (rf 98 (0)), some (rf 11 (0)), some (rf 13 (14)), some (rf 13 (15)), some (rf 13 (16)), some (rf 13 (17)), some (rf 14 (6)), some (.inl (u7)), some (.inl (u8)), y9, y10, some (.inl (u11)), some (.inl (u12)), some (.inr (.inl (u13))), none, y15, y16, y17] [.inl (((u11) - (u11) / (Int32.ofInt 101) * (Int32.ofInt 101)) - (Int32.ofInt 50)), .inl (((Int32.ofInt 3) * (m_i σ4 13 (17) (Int32.ofInt 1).toNatClampNeg)) + (Int32.ofInt 1)), rf 13 (16)] σ4 (w, σ') := h
    replace h := ec_iast h rfl
    obtain ⟨ht8, f, g, h⟩ := h
    replace hf := Nat.lt_trans g hf
    clear g
    obtain ⟨σ9, e10⟩ : ∃ s, s = m_set σ4 13 (16) ((((Int32.ofInt 3) * (m_i σ4 13 (17) (Int32.ofInt 1).toNatClampNeg)) + (Int32.ofInt 1)).toNatClampNeg) (.inl (((u11) - (u11) / (Int32.ofInt 101) * (Int32.ofInt 101)) - (Int32.ofInt 50))) := ⟨_, rfl⟩
    rw [← e10] at h
    have hsσ9 : HL σ9 := by rw [e10]; exact HL_set hsσ4 rfl
    refine ⟨σ9, e10, ?_⟩
    replace h : EC C f 18 ab_main 562 [some (rf 98 (0)), some (rf 11 (0)), some (rf 13 (14)), some (rf 13 (15)), some (rf 13 (16)), some (rf 13 (17)), some (rf 14 (6)), some (.inl (u7)), some (.inl (u8)), y9, y10, some (.inl (u11)), some (.inl (u12)), some (.inr (.inl (u13))), none, y15, y16, y17] [] σ9 (w, σ') := h
    refine ⟨vp_2 ht8, ?_⟩
    replace h := ec_p h rfl rfl rfl rfl
    obtain ⟨f, g, h⟩ := h
    replace hf := Nat.lt_trans g hf
    clear g
    replace h : EC C f 18 ab_main 564 [some (rf 98 (0)), some (rf 11 (0)), some (rf 13 (14)), some (rf 13 (15)), some (rf 13 (16)), some (rf 13 (17)), some (rf 14 (6)), some (.inl (u7)), some (.inl (u8)), y9, y10, some (.inl (u11)), some (.inl (u12)), some (.inr (.inl (u13))), none, y15, y16, y17] [rf 13 (16)] σ9 (w, σ') := h
    replace h := ec_p h rfl rfl rfl rfl
    obtain ⟨f, g, h⟩ := h
    replace hf := Nat.lt_trans g hf
    clear g
    replace h : EC C f 18 ab_main 565 [some (rf 98 (0)), some (rf 11 (0)), some (rf 13 (14)), some (rf 13 (15)), some (rf 13 (16)), some (rf 13 (17)), some (rf 14 (6)), some (.inl (u7)), some (.inl (u8)), y9, y10, some (.inl (u11)), some (.inl (u12)), some (.inr (.inl (u13))), none, y15, y16, y17] [.inl (Int32.ofInt 3), rf 13 (16)] σ9 (w, σ') := h
    replace h := ec_p h rfl rfl rfl rfl
    obtain ⟨f, g, h⟩ := h
    replace hf := Nat.lt_trans g hf
    clear g
    replace h : EC C f 18 ab_main 567 [some (rf 98 (0)), some (rf 11 (0)), some (rf 13 (14)), some (rf 13 (15)), some (rf 13 (16)), some (rf 13 (17)), some (rf 14 (6)), some (.inl (u7)), some (.inl (u8)), y9, y10, some (.inl (u11)), some (.inl (u12)), some (.inr (.inl (u13))), none, y15, y16, y17] [rf 13 (17), .inl (Int32.ofInt 3), rf 13 (16)] σ9 (w, σ') := h
    replace h := ec_p h rfl rfl rfl rfl
    obtain ⟨f, g, h⟩ := h
    replace hf := Nat.lt_trans g hf
    clear g
    replace h : EC C f 18 ab_main 568 [some (rf 98 (0)), some (rf 11 (0)), some (rf 13 (14)), some (rf 13 (15)), some (rf 13 (16)), some (rf 13 (17)), some (rf 14 (6)), some (.inl (u7)), some (.inl (u8)), y9, y10, some (.inl (u11)), some (.inl (u12)), some (.inr (.inl (u13))), none, y15, y16, y17] [.inl (Int32.ofInt 1), rf 13 (17), .inl (Int32.ofInt 3), rf 13 (16)] σ9 (w, σ') := h
    replace h := ec_iald h rfl (fun _ => rfl)
    obtain ⟨vp11, f, g, h⟩ := h
    replace hf := Nat.lt_trans g hf
    clear g
    replace h : EC C f 18 ab_main 569 [some (rf 98 (0)), some (rf 11 (0)), some (rf 13 (14)), some (rf 13 (15)), some (rf 13 (16)), some (rf 13 (17)), some (rf 14 (6)), some (.inl (u7)), some (.inl (u8)), y9, y10, some (.inl (u11)), some (.inl (u12)), some (.inr (.inl (u13))), none, y15, y16, y17] [.inl (m_i σ9 13 (17) (Int32.ofInt 1).toNatClampNeg), .inl (Int32.ofInt 3), rf 13 (16)] σ9 (w, σ') := h
    refine ⟨vp_2 vp11, ?_⟩
    replace h := ec_p h rfl rfl rfl rfl
    obtain ⟨f, g, h⟩ := h
    replace hf := Nat.lt_trans g hf
    clear g
    replace h : EC C f 18 ab_main 570 [some (rf 98 (0)), some (rf 11 (0)), some (rf 13 (14)), some (rf 13 (15)), some (rf 13 (16)), some (rf 13 (17)), some (rf 14 (6)), some (.inl (u7)), some (.inl (u8)), y9, y10, some (.inl (u11)), some (.inl (u12)), some (.inr (.inl (u13))), none, y15, y16, y17] [.inl ((Int32.ofInt 3) * (m_i σ9 13 (17) (Int32.ofInt 1).toNatClampNeg)), rf 13 (16)] σ9 (w, σ') := h
    replace h := ec_p h rfl rfl rfl rfl
    obtain ⟨f, g, h⟩ := h
    replace hf := Nat.lt_trans g hf
    clear g
    replace h : EC C f 18 ab_main 571 [some (rf 98 (0)), some (rf 11 (0)), some (rf 13 (14)), some (rf 13 (15)), some (rf 13 (16)), some (rf 13 (17)), some (rf 14 (6)), some (.inl (u7)), some (.inl (u8)), y9, y10, some (.inl (u11)), some (.inl (u12)), some (.inr (.inl (u13))), none, y15, y16, y17] [.inl (Int32.ofInt 2), .inl ((Int32.ofInt 3) * (m_i σ9 13 (17) (Int32.ofInt 1).toNatClampNeg)), rf 13 (16)] σ9 (w, σ') := h
    replace h := ec_p h rfl rfl rfl rfl
    obtain ⟨f, g, h⟩ := h
    replace hf := Nat.lt_trans g hf
    clear g
    replace h : EC C f 18 ab_main 572 [some (rf 98 (0)), some (rf 11 (0)), some (rf 13 (14)), some (rf 13 (15)), some (rf 13 (16)), some (rf 13 (17)), some (rf 14 (6)), some (.inl (u7)), some (.inl (u8)), y9, y10, some (.inl (u11)), some (.inl (u12)), some (.inr (.inl (u13))), none, y15, y16, y17] [.inl (((Int32.ofInt 3) * (m_i σ9 13 (17) (Int32.ofInt 1).toNatClampNeg)) + (Int32.ofInt 2)), rf 13 (16)] σ9 (w, σ') := h
    replace h := ec_p h rfl rfl rfl rfl
    obtain ⟨f, g, h⟩ := h
    replace hf := Nat.lt_trans g hf
    clear g
    replace h : EC C f 18 ab_main 574 [some (rf 98 (0)), some (rf 11 (0)), some (rf 13 (14)), some (rf 13 (15)), some (rf 13 (16)), some (rf 13 (17)), some (rf 14 (6)), some (.inl (u7)), some (.inl (u8)), y9, y10, some (.inl (u11)), some (.inl (u12)), some (.inr (.inl (u13))), none, y15, y16, y17] [.inl (u11), .inl (((Int32.ofInt 3) * (m_i σ9 13 (17) (Int32.ofInt 1).toNatClampNeg)) + (Int32.ofInt 2)), rf 13 (16)] σ9 (w, σ') := h
    replace h := ec_p h rfl rfl rfl rfl
    obtain ⟨f, g, h⟩ := h
    replace hf := Nat.lt_trans g hf
    clear g
    replace h : EC C f 18 ab_main 576 [some (rf 98 (0)), some (rf 11 (0)), some (rf 13 (14)), some (rf 13 (15)), some (rf 13 (16)), some (rf 13 (17)), some (rf 14 (6)), some (.inl (u7)), some (.inl (u8)), y9, y10, some (.inl (u11)), some (.inl (u12)), some (.inr (.inl (u13))), none, y15, y16, y17] [.inl (Int32.ofInt 101), .inl (u11), .inl (((Int32.ofInt 3) * (m_i σ9 13 (17) (Int32.ofInt 1).toNatClampNeg)) + (Int32.ofInt 2)), rf 13 (16)] σ9 (w, σ') := h
    replace h := ec_idiv h rfl
    obtain ⟨hd12, f, g, h⟩ := h
    replace hf := Nat.lt_trans g hf
    clear g
    replace h : EC C f 18 ab_main 577 [some (rf 98 (0)), some (rf 11 (0)), some (rf 13 (14)), some (rf 13 (15)), some (rf 13 (16)), some (rf 13 (17)), some (rf 14 (6)), some (.inl (u7)), some (.inl (u8)), y9, y10, some (.inl (u11)), some (.inl (u12)), some (.inr (.inl (u13))), none, y15, y16, y17] [.inl ((u11) / (Int32.ofInt 101)), .inl (((Int32.ofInt 3) * (m_i σ9 13 (17) (Int32.ofInt 1).toNatClampNeg)) + (Int32.ofInt 2)), rf 13 (16)] σ9 (w, σ') := h
    replace h := ec_p h rfl rfl rfl rfl
    obtain ⟨f, g, h⟩ := h
    replace hf := Nat.lt_trans g hf
    clear g
    replace h : EC C f 18 ab_main 579 [some (rf 98 (0)), some (rf 11 (0)), some (rf 13 (14)), some (rf 13 (15)), some (rf 13 (16)), some (rf 13 (17)), some (rf 14 (6)), some (.inl (u7)), some (.inl (u8)), y9, y10, some (.inl (u11)), some (.inl (u12)), some (.inr (.inl (u13))), none, y15, y16, y17] [.inl (Int32.ofInt 101), .inl ((u11) / (Int32.ofInt 101)), .inl (((Int32.ofInt 3) * (m_i σ9 13 (17) (Int32.ofInt 1).toNatClampNeg)) + (Int32.ofInt 2)), rf 13 (16)] σ9 (w, σ') := h
    replace h := ec_irem h rfl
    obtain ⟨hd13, f, g, h⟩ := h
    replace hf := Nat.lt_trans g hf
    clear g
    replace h : EC C f 18 ab_main 580 [some (rf 98 (0)), some (rf 11 (0)), some (rf 13 (14)), some (rf 13 (15)), some (rf 13 (16)), some (rf 13 (17)), some (rf 14 (6)), some (.inl (u7)), some (.inl (u8)), y9, y10, some (.inl (u11)), some (.inl (u12)), some (.inr (.inl (u13))), none, y15, y16, y17] [.inl (((u11) / (Int32.ofInt 101)) - ((u11) / (Int32.ofInt 101)) / (Int32.ofInt 101) * (Int32.ofInt 101)), .inl (((Int32.ofInt 3) * (m_i σ9 13 (17) (Int32.ofInt 1).toNatClampNeg)) + (Int32.ofInt 2)), rf 13 (16)] σ9 (w, σ') := h
    replace h := ec_p h rfl rfl rfl rfl
    obtain ⟨f, g, h⟩ := h
    replace hf := Nat.lt_trans g hf
    clear g
    replace h : EC C f 18 ab_main 582 [some (rf 98 (0)), some (rf 11 (0)), some (rf 13 (14)), some (rf 13 (15)), some (rf 13 (16)), some (rf 13 (17)), some (rf 14 (6)), some (.inl (u7)), some (.inl (u8)), y9, y10, some (.inl (u11)), some (.inl (u12)), some (.inr (.inl (u13))), none, y15, y16, y17] [.inl (Int32.ofInt 50), .inl (((u11) / (Int32.ofInt 101)) - ((u11) / (Int32.ofInt 101)) / (Int32.ofInt 101) * (Int32.ofInt 101)), .inl (((Int32.ofInt 3) * (m_i σ9 13 (17) (Int32.ofInt 1).toNatClampNeg)) + (Int32.ofInt 2)), rf 13 (16)] σ9 (w, σ') := h
    replace h := ec_p h rfl rfl rfl rfl
    obtain ⟨f, g, h⟩ := h
    replace hf := Nat.lt_trans g hf
    clear g
    replace h : EC C f 18 ab_main 583 [some (rf 98 (0)), some (rf 11 (0)), some (rf 13 (14)), some (rf 13 (15)), some (rf 13 (16)), some (rf 13 (17)), some (rf 14 (6)), some (.inl (u7)), some (.inl (u8)), y9, y10, some (.inl (u11)), some (.inl (u12)), some (.inr (.inl (u13))), none, y15, y16, y17] [.inl ((((u11) / (Int32.ofInt 101)) - ((u11) / (Int32.ofInt 101)) / (Int32.ofInt 101) * (Int32.ofInt 101)) - (Int32.ofInt 50)), .inl (((Int32.ofInt 3) * (m_i σ9 13 (17) (Int32.ofInt 1).toNatClampNeg)) + (Int32.ofInt 2)), rf 13 (16)] σ9 (w, σ') := h
    replace h := ec_iast h rfl
    obtain ⟨ht14, f, g, h⟩ := h
    replace hf := Nat.lt_trans g hf
    clear g
    obtain ⟨σ15, e16⟩ : ∃ s, s = m_set σ9 13 (16) ((((Int32.ofInt 3) * (m_i σ9 13 (17) (Int32.ofInt 1).toNatClampNeg)) + (Int32.ofInt 2)).toNatClampNeg) (.inl ((((u11) / (Int32.ofInt 101)) - ((u11) / (Int32.ofInt 101)) / (Int32.ofInt 101) * (Int32.ofInt 101)) - (Int32.ofInt 50))) := ⟨_, rfl⟩
    rw [← e16] at h
    have hsσ15 : HL σ15 := by rw [e16]; exact HL_set hsσ9 rfl
    refine ⟨σ15, e16, ?_⟩
    replace h : EC C f 18 ab_main 584 [some (rf 98 (0)), some (rf 11 (0)), some (rf 13 (14)), some (rf 13 (15)), some (rf 13 (16)), some (rf 13 (17)), some (rf 14 (6)), some (.inl (u7)), some (.inl (u8)), y9, y10, some (.inl (u11)), some (.inl (u12)), some (.inr (.inl (u13))), none, y15, y16, y17] [] σ15 (w, σ') := h
    refine ⟨vp_2 ht14, ?_⟩
    replace h := ec_p h rfl rfl rfl rfl
    obtain ⟨f, g, h⟩ := h
    replace hf := Nat.lt_trans g hf
    clear g
    replace h : EC C f 18 ab_main 586 [some (rf 98 (0)), some (rf 11 (0)), some (rf 13 (14)), some (rf 13 (15)), some (rf 13 (16)), some (rf 13 (17)), some (rf 14 (6)), some (.inl (u7)), some (.inl (u8)), y9, y10, some (.inl (u11)), some (.inl (u12)), some (.inr (.inl (u13))), none, y15, y16, y17] [rf 13 (17)] σ15 (w, σ') := h
    replace h := ec_p h rfl rfl rfl rfl
    obtain ⟨f, g, h⟩ := h
    replace hf := Nat.lt_trans g hf
    clear g
    replace h : EC C f 18 ab_main 587 [some (rf 98 (0)), some (rf 11 (0)), some (rf 13 (14)), some (rf 13 (15)), some (rf 13 (16)), some (rf 13 (17)), some (rf 14 (6)), some (.inl (u7)), some (.inl (u8)), y9, y10, some (.inl (u11)), some (.inl (u12)), some (.inr (.inl (u13))), none, y15, y16, y17] [.inl (Int32.ofInt 1), rf 13 (17)] σ15 (w, σ') := h
    replace h := ec_p h rfl rfl rfl rfl
    obtain ⟨f, g, h⟩ := h
    replace hf := Nat.lt_trans g hf
    clear g
    replace h : EC C f 18 ab_main 588 [some (rf 98 (0)), some (rf 11 (0)), some (rf 13 (14)), some (rf 13 (15)), some (rf 13 (16)), some (rf 13 (17)), some (rf 14 (6)), some (.inl (u7)), some (.inl (u8)), y9, y10, some (.inl (u11)), some (.inl (u12)), some (.inr (.inl (u13))), none, y15, y16, y17] [.inl (Int32.ofInt 1), rf 13 (17), .inl (Int32.ofInt 1), rf 13 (17)] σ15 (w, σ') := h
    replace h := ec_iald h rfl (fun _ => rfl)
    obtain ⟨vp17, f, g, h⟩ := h
    replace hf := Nat.lt_trans g hf
    clear g
    replace h : EC C f 18 ab_main 589 [some (rf 98 (0)), some (rf 11 (0)), some (rf 13 (14)), some (rf 13 (15)), some (rf 13 (16)), some (rf 13 (17)), some (rf 14 (6)), some (.inl (u7)), some (.inl (u8)), y9, y10, some (.inl (u11)), some (.inl (u12)), some (.inr (.inl (u13))), none, y15, y16, y17] [.inl (m_i σ15 13 (17) (Int32.ofInt 1).toNatClampNeg), .inl (Int32.ofInt 1), rf 13 (17)] σ15 (w, σ') := h
    refine ⟨vp_2 vp17, ?_⟩
    replace h := ec_p h rfl rfl rfl rfl
    obtain ⟨f, g, h⟩ := h
    replace hf := Nat.lt_trans g hf
    clear g
    replace h : EC C f 18 ab_main 590 [some (rf 98 (0)), some (rf 11 (0)), some (rf 13 (14)), some (rf 13 (15)), some (rf 13 (16)), some (rf 13 (17)), some (rf 14 (6)), some (.inl (u7)), some (.inl (u8)), y9, y10, some (.inl (u11)), some (.inl (u12)), some (.inr (.inl (u13))), none, y15, y16, y17] [.inl (Int32.ofInt 1), .inl (m_i σ15 13 (17) (Int32.ofInt 1).toNatClampNeg), .inl (Int32.ofInt 1), rf 13 (17)] σ15 (w, σ') := h
    replace h := ec_p h rfl rfl rfl rfl
    obtain ⟨f, g, h⟩ := h
    replace hf := Nat.lt_trans g hf
    clear g
    replace h : EC C f 18 ab_main 591 [some (rf 98 (0)), some (rf 11 (0)), some (rf 13 (14)), some (rf 13 (15)), some (rf 13 (16)), some (rf 13 (17)), some (rf 14 (6)), some (.inl (u7)), some (.inl (u8)), y9, y10, some (.inl (u11)), some (.inl (u12)), some (.inr (.inl (u13))), none, y15, y16, y17] [.inl ((m_i σ15 13 (17) (Int32.ofInt 1).toNatClampNeg) + (Int32.ofInt 1)), .inl (Int32.ofInt 1), rf 13 (17)] σ15 (w, σ') := h
    replace h := ec_iast h rfl
    obtain ⟨ht18, f, g, h⟩ := h
    replace hf := Nat.lt_trans g hf
    clear g
    obtain ⟨σ19, e20⟩ : ∃ s, s = m_set σ15 13 (17) ((Int32.ofInt 1).toNatClampNeg) (.inl ((m_i σ15 13 (17) (Int32.ofInt 1).toNatClampNeg) + (Int32.ofInt 1))) := ⟨_, rfl⟩
    rw [← e20] at h
    have hsσ19 : HL σ19 := by rw [e20]; exact HL_set hsσ15 rfl
    refine ⟨σ19, e20, ?_⟩
    replace h : EC C f 18 ab_main 592 [some (rf 98 (0)), some (rf 11 (0)), some (rf 13 (14)), some (rf 13 (15)), some (rf 13 (16)), some (rf 13 (17)), some (rf 14 (6)), some (.inl (u7)), some (.inl (u8)), y9, y10, some (.inl (u11)), some (.inl (u12)), some (.inr (.inl (u13))), none, y15, y16, y17] [] σ19 (w, σ') := h
    refine ⟨vp_2 ht18, ?_⟩
    replace h := ec_p h rfl rfl rfl rfl
    obtain ⟨f, g, h⟩ := h
    replace hf := Nat.lt_trans g hf
    clear g
    replace h : EC C f 18 ab_main 925 [some (rf 98 (0)), some (rf 11 (0)), some (rf 13 (14)), some (rf 13 (15)), some (rf 13 (16)), some (rf 13 (17)), some (rf 14 (6)), some (.inl (u7)), some (.inl (u8)), y9, y10, some (.inl (u11)), some (.inl (u12)), some (.inr (.inl (u13))), none, y15, y16, y17] [] σ19 (w, σ') := h
    exact H925 f hf (u7) (u8) (u11) y9 y10 (some (.inl (u12))) (some (.inr (.inl (u13)))) (none) y15 y16 y17 σ19 hsσ19 h
