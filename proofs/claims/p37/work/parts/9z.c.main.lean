/-! the law's own loop: what lies between its cuts -/
def T944 (K944 : Int32 → Int32 → Int32 → Int32 → Int32 → mS → Prop) (K977 : Int32 → Int32 → Int32 → Int32 → mS → Prop) (u7 : Int32) (u8 : Int32) (u11 : Int32) (u12 : Int32) (u13 : Int32) (τ : mS) (w : mX) (σ' : mS) : Prop := (((40 : Int) ≤ (u13).toInt ∧ K977 (u7) (u8) (u11) (u12) τ) ∨ (¬ ((40 : Int) ≤ (u13).toInt) ∧ (((u12).toInt = (-1 : Int) ∧ K977 (u7) (u8) (u11) (u12) τ) ∨ (¬ ((u12).toInt = (-1 : Int)) ∧ (((u12).toInt = (-2 : Int) ∧ K977 (u7) (u8) (u11) (u12) τ) ∨ (¬ ((u12).toInt = (-2 : Int)) ∧ ((∃ v4 σ5, gF τ σ5 ∧ ev_run sm_all 153 [rf 11 (0), .inl (Int32.ofInt 0)] τ (.inl (some (.inl v4))) σ5 ∧ P153 τ (Int32.ofInt 0) (.inl (some (.inl v4))) σ5 ∧ K944 (u7) (u8) (u11) (v4) ((u13) + Int32.ofInt 1) σ5) ∨ (∃ b, gF τ σ' ∧ P153 τ (Int32.ofInt 0) (.inr b) σ' ∧ w = .inr b))))))))
set_option maxRecDepth 100000 in
theorem t944 {C : ec_C} (hC : CK C) {N : Nat} {w : mX} {σ' : mS} {K944 : Int32 → Int32 → Int32 → Int32 → Int32 → mS → Prop} {K977 : Int32 → Int32 → Int32 → Int32 → mS → Prop} (H944 : ∀ f, f < N → ∀ (u7 : Int32) (u8 : Int32) (u11 : Int32) (u12 : Int32) (u13 : Int32) (y9 : Option mV) (y10 : Option mV) (y14 : Option mV) (y15 : Option mV) (y16 : Option mV) (y17 : Option mV) (τ : mS), HL τ → EC C f 18 ab_main 944 [some (rf 98 (0)), some (rf 11 (0)), some (rf 13 (14)), some (rf 13 (15)), some (rf 13 (16)), some (rf 13 (17)), some (rf 14 (6)), some (.inl (u7)), some (.inl (u8)), y9, y10, some (.inl (u11)), some (.inl (u12)), some (.inl (u13)), y14, y15, y16, y17] [] τ (w, σ') → K944 u7 u8 u11 u12 u13 τ) (H977 : ∀ f, f < N → ∀ (u7 : Int32) (u8 : Int32) (u11 : Int32) (u12 : Int32) (y9 : Option mV) (y10 : Option mV) (y13 : Option mV) (y14 : Option mV) (y15 : Option mV) (y16 : Option mV) (y17 : Option mV) (τ : mS), HL τ → EC C f 18 ab_main 977 [some (rf 98 (0)), some (rf 11 (0)), some (rf 13 (14)), some (rf 13 (15)), some (rf 13 (16)), some (rf 13 (17)), some (rf 14 (6)), some (.inl (u7)), some (.inl (u8)), y9, y10, some (.inl (u11)), some (.inl (u12)), y13, y14, y15, y16, y17] [] τ (w, σ') → K977 u7 u8 u11 u12 τ) : ∀ f, f < N + 1 → ∀ (u7 : Int32) (u8 : Int32) (u11 : Int32) (u12 : Int32) (u13 : Int32) (y9 : Option mV) (y10 : Option mV) (y14 : Option mV) (y15 : Option mV) (y16 : Option mV) (y17 : Option mV) (τ : mS), HL τ → EC C f 18 ab_main 944 [some (rf 98 (0)), some (rf 11 (0)), some (rf 13 (14)), some (rf 13 (15)), some (rf 13 (16)), some (rf 13 (17)), some (rf 14 (6)), some (.inl (u7)), some (.inl (u8)), y9, y10, some (.inl (u11)), some (.inl (u12)), some (.inl (u13)), y14, y15, y16, y17] [] τ (w, σ') → T944 K944 K977 u7 u8 u11 u12 u13 τ w σ' := by
  intro f hf0 u7 u8 u11 u12 u13 y9 y10 y14 y15 y16 y17 τ hsτ h
  have hf : f < N + 1 := hf0
  clear hf0
  unfold T944
  replace h : EC C f 18 ab_main 944 [some (rf 98 (0)), some (rf 11 (0)), some (rf 13 (14)), some (rf 13 (15)), some (rf 13 (16)), some (rf 13 (17)), some (rf 14 (6)), some (.inl (u7)), some (.inl (u8)), y9, y10, some (.inl (u11)), some (.inl (u12)), some (.inl (u13)), y14, y15, y16, y17] [] τ (w, σ') := h
  replace h := ec_p h rfl rfl rfl rfl
  obtain ⟨f, g, h⟩ := h
  replace hf := Nat.lt_of_lt_of_le g (Nat.le_of_lt_succ hf)
  clear g
  replace h : EC C f 18 ab_main 946 [some (rf 98 (0)), some (rf 11 (0)), some (rf 13 (14)), some (rf 13 (15)), some (rf 13 (16)), some (rf 13 (17)), some (rf 14 (6)), some (.inl (u7)), some (.inl (u8)), y9, y10, some (.inl (u11)), some (.inl (u12)), some (.inl (u13)), y14, y15, y16, y17] [.inl (u13)] τ (w, σ') := h
  replace h := ec_p h rfl rfl rfl rfl
  obtain ⟨f, g, h⟩ := h
  replace hf := Nat.lt_trans g hf
  clear g
  replace h : EC C f 18 ab_main 948 [some (rf 98 (0)), some (rf 11 (0)), some (rf 13 (14)), some (rf 13 (15)), some (rf 13 (16)), some (rf 13 (17)), some (rf 14 (6)), some (.inl (u7)), some (.inl (u8)), y9, y10, some (.inl (u11)), some (.inl (u12)), some (.inl (u13)), y14, y15, y16, y17] [.inl (Int32.ofInt 40), .inl (u13)] τ (w, σ') := h
  replace h := ec_c h rfl rfl rfl
  rcases h with ⟨hp1, f, g, h⟩ | ⟨hp1, f, g, h⟩
  · skip
    replace hp1 : (40 : Int) ≤ (u13).toInt := ic_ge.mp hp1
    refine Or.inl ⟨hp1, ?_⟩
    replace hf := Nat.lt_trans g hf
    clear g
    replace h : EC C f 18 ab_main 977 [some (rf 98 (0)), some (rf 11 (0)), some (rf 13 (14)), some (rf 13 (15)), some (rf 13 (16)), some (rf 13 (17)), some (rf 14 (6)), some (.inl (u7)), some (.inl (u8)), y9, y10, some (.inl (u11)), some (.inl (u12)), some (.inl (u13)), y14, y15, y16, y17] [] τ (w, σ') := h
    exact H977 f hf (u7) (u8) (u11) (u12) y9 y10 (some (.inl (u13))) y14 y15 y16 y17 τ hsτ h
  · skip
    replace hp1 : ¬ ((40 : Int) ≤ (u13).toInt) := (not_congr ic_ge).mp hp1
    refine Or.inr ⟨hp1, ?_⟩
    replace hf := Nat.lt_trans g hf
    clear g
    replace h : EC C f 18 ab_main 951 [some (rf 98 (0)), some (rf 11 (0)), some (rf 13 (14)), some (rf 13 (15)), some (rf 13 (16)), some (rf 13 (17)), some (rf 14 (6)), some (.inl (u7)), some (.inl (u8)), y9, y10, some (.inl (u11)), some (.inl (u12)), some (.inl (u13)), y14, y15, y16, y17] [] τ (w, σ') := h
    replace h := ec_p h rfl rfl rfl rfl
    obtain ⟨f, g, h⟩ := h
    replace hf := Nat.lt_trans g hf
    clear g
    replace h : EC C f 18 ab_main 953 [some (rf 98 (0)), some (rf 11 (0)), some (rf 13 (14)), some (rf 13 (15)), some (rf 13 (16)), some (rf 13 (17)), some (rf 14 (6)), some (.inl (u7)), some (.inl (u8)), y9, y10, some (.inl (u11)), some (.inl (u12)), some (.inl (u13)), y14, y15, y16, y17] [.inl (u12)] τ (w, σ') := h
    replace h := ec_p h rfl rfl rfl rfl
    obtain ⟨f, g, h⟩ := h
    replace hf := Nat.lt_trans g hf
    clear g
    replace h : EC C f 18 ab_main 954 [some (rf 98 (0)), some (rf 11 (0)), some (rf 13 (14)), some (rf 13 (15)), some (rf 13 (16)), some (rf 13 (17)), some (rf 14 (6)), some (.inl (u7)), some (.inl (u8)), y9, y10, some (.inl (u11)), some (.inl (u12)), some (.inl (u13)), y14, y15, y16, y17] [.inl (Int32.ofInt (-1)), .inl (u12)] τ (w, σ') := h
    replace h := ec_c h rfl rfl rfl
    rcases h with ⟨hp2, f, g, h⟩ | ⟨hp2, f, g, h⟩
    · skip
      replace hp2 : (u12).toInt = (-1 : Int) := ic_eq.mp hp2
      refine Or.inl ⟨hp2, ?_⟩
      replace hf := Nat.lt_trans g hf
      clear g
      replace h : EC C f 18 ab_main 977 [some (rf 98 (0)), some (rf 11 (0)), some (rf 13 (14)), some (rf 13 (15)), some (rf 13 (16)), some (rf 13 (17)), some (rf 14 (6)), some (.inl (u7)), some (.inl (u8)), y9, y10, some (.inl (u11)), some (.inl (u12)), some (.inl (u13)), y14, y15, y16, y17] [] τ (w, σ') := h
      exact H977 f hf (u7) (u8) (u11) (u12) y9 y10 (some (.inl (u13))) y14 y15 y16 y17 τ hsτ h
    · skip
      replace hp2 : ¬ ((u12).toInt = (-1 : Int)) := (not_congr ic_eq).mp hp2
      refine Or.inr ⟨hp2, ?_⟩
      replace hf := Nat.lt_trans g hf
      clear g
      replace h : EC C f 18 ab_main 957 [some (rf 98 (0)), some (rf 11 (0)), some (rf 13 (14)), some (rf 13 (15)), some (rf 13 (16)), some (rf 13 (17)), some (rf 14 (6)), some (.inl (u7)), some (.inl (u8)), y9, y10, some (.inl (u11)), some (.inl (u12)), some (.inl (u13)), y14, y15, y16, y17] [] τ (w, σ') := h
      replace h := ec_p h rfl rfl rfl rfl
      obtain ⟨f, g, h⟩ := h
      replace hf := Nat.lt_trans g hf
      clear g
      replace h : EC C f 18 ab_main 959 [some (rf 98 (0)), some (rf 11 (0)), some (rf 13 (14)), some (rf 13 (15)), some (rf 13 (16)), some (rf 13 (17)), some (rf 14 (6)), some (.inl (u7)), some (.inl (u8)), y9, y10, some (.inl (u11)), some (.inl (u12)), some (.inl (u13)), y14, y15, y16, y17] [.inl (u12)] τ (w, σ') := h
      replace h := ec_p h rfl rfl rfl rfl
      obtain ⟨f, g, h⟩ := h
      replace hf := Nat.lt_trans g hf
      clear g
      replace h : EC C f 18 ab_main 961 [some (rf 98 (0)), some (rf 11 (0)), some (rf 13 (14)), some (rf 13 (15)), some (rf 13 (16)), some (rf 13 (17)), some (rf 14 (6)), some (.inl (u7)), some (.inl (u8)), y9, y10, some (.inl (u11)), some (.inl (u12)), some (.inl (u13)), y14, y15, y16, y17] [.inl (Int32.ofInt (-2)), .inl (u12)] τ (w, σ') := h
      replace h := ec_c h rfl rfl rfl
      rcases h with ⟨hp3, f, g, h⟩ | ⟨hp3, f, g, h⟩
      · skip
        replace hp3 : (u12).toInt = (-2 : Int) := ic_eq.mp hp3
        refine Or.inl ⟨hp3, ?_⟩
        replace hf := Nat.lt_trans g hf
        clear g
        replace h : EC C f 18 ab_main 977 [some (rf 98 (0)), some (rf 11 (0)), some (rf 13 (14)), some (rf 13 (15)), some (rf 13 (16)), some (rf 13 (17)), some (rf 14 (6)), some (.inl (u7)), some (.inl (u8)), y9, y10, some (.inl (u11)), some (.inl (u12)), some (.inl (u13)), y14, y15, y16, y17] [] τ (w, σ') := h
        exact H977 f hf (u7) (u8) (u11) (u12) y9 y10 (some (.inl (u13))) y14 y15 y16 y17 τ hsτ h
      · skip
        replace hp3 : ¬ ((u12).toInt = (-2 : Int)) := (not_congr ic_eq).mp hp3
        refine Or.inr ⟨hp3, ?_⟩
        replace hf := Nat.lt_trans g hf
        clear g
        replace h : EC C f 18 ab_main 964 [some (rf 98 (0)), some (rf 11 (0)), some (rf 13 (14)), some (rf 13 (15)), some (rf 13 (16)), some (rf 13 (17)), some (rf 14 (6)), some (.inl (u7)), some (.inl (u8)), y9, y10, some (.inl (u11)), some (.inl (u12)), some (.inl (u13)), y14, y15, y16, y17] [] τ (w, σ') := h
        replace h := ec_p h rfl rfl rfl rfl
        obtain ⟨f, g, h⟩ := h
        replace hf := Nat.lt_trans g hf
        clear g
        replace h : EC C f 18 ab_main 965 [some (rf 98 (0)), some (rf 11 (0)), some (rf 13 (14)), some (rf 13 (15)), some (rf 13 (16)), some (rf 13 (17)), some (rf 14 (6)), some (.inl (u7)), some (.inl (u8)), y9, y10, some (.inl (u11)), some (.inl (u12)), some (.inl (u13)), y14, y15, y16, y17] [rf 11 (0)] τ (w, σ') := h
        replace h := ec_p h rfl rfl rfl rfl
        obtain ⟨f, g, h⟩ := h
        replace hf := Nat.lt_trans g hf
        clear g
        replace h : EC C f 18 ab_main 966 [some (rf 98 (0)), some (rf 11 (0)), some (rf 13 (14)), some (rf 13 (15)), some (rf 13 (16)), some (rf 13 (17)), some (rf 14 (6)), some (.inl (u7)), some (.inl (u8)), y9, y10, some (.inl (u11)), some (.inl (u12)), some (.inl (u13)), y14, y15, y16, y17] [.inl (Int32.ofInt 0), rf 11 (0)] τ (w, σ') := h
        replace h := cx_I hC (ec_v (as := [.inl (Int32.ofInt 0)]) h rfl rfl rfl) rfl z153_at (Or.inl rfl)
        rcases h with ⟨v4, σ5, r6, f, g, h⟩ | ⟨b, σ5, r6, e⟩
        · skip
          replace hf := Nat.lt_trans g hf
          clear g
          have p7 := x153 hsτ.1 r6
          have hsσ5 : HL σ5 := HL_r2 rfl r6 rfl hsτ
          refine Or.inl ⟨v4, σ5, gF_r r6 rfl hsτ, r6, p7, ?_⟩
          replace h : EC C f 18 ab_main 969 [some (rf 98 (0)), some (rf 11 (0)), some (rf 13 (14)), some (rf 13 (15)), some (rf 13 (16)), some (rf 13 (17)), some (rf 14 (6)), some (.inl (u7)), some (.inl (u8)), y9, y10, some (.inl (u11)), some (.inl (u12)), some (.inl (u13)), y14, y15, y16, y17] [.inl (v4)] σ5 (w, σ') := h
          replace h := ec_p h rfl rfl rfl rfl
          obtain ⟨f, g, h⟩ := h
          replace hf := Nat.lt_trans g hf
          clear g
          replace h : EC C f 18 ab_main 971 [some (rf 98 (0)), some (rf 11 (0)), some (rf 13 (14)), some (rf 13 (15)), some (rf 13 (16)), some (rf 13 (17)), some (rf 14 (6)), some (.inl (u7)), some (.inl (u8)), y9, y10, some (.inl (u11)), some (.inl (v4)), some (.inl (u13)), y14, y15, y16, y17] [] σ5 (w, σ') := h
          replace h := ec_p h rfl rfl rfl rfl
          obtain ⟨f, g, h⟩ := h
          replace hf := Nat.lt_trans g hf
          clear g
          replace h : EC C f 18 ab_main 974 [some (rf 98 (0)), some (rf 11 (0)), some (rf 13 (14)), some (rf 13 (15)), some (rf 13 (16)), some (rf 13 (17)), some (rf 14 (6)), some (.inl (u7)), some (.inl (u8)), y9, y10, some (.inl (u11)), some (.inl (v4)), some (.inl ((u13) + Int32.ofInt 1)), y14, y15, y16, y17] [] σ5 (w, σ') := h
          replace h := ec_p h rfl rfl rfl rfl
          obtain ⟨f, g, h⟩ := h
          replace hf := Nat.lt_trans g hf
          clear g
          replace h : EC C f 18 ab_main 944 [some (rf 98 (0)), some (rf 11 (0)), some (rf 13 (14)), some (rf 13 (15)), some (rf 13 (16)), some (rf 13 (17)), some (rf 14 (6)), some (.inl (u7)), some (.inl (u8)), y9, y10, some (.inl (u11)), some (.inl (v4)), some (.inl ((u13) + Int32.ofInt 1)), y14, y15, y16, y17] [] σ5 (w, σ') := h
          exact H944 f hf (u7) (u8) (u11) (v4) ((u13) + Int32.ofInt 1) y9 y10 y14 y15 y16 y17 σ5 hsσ5 h
        · skip
          have p7 := x153 hsτ.1 r6
          cases e
          exact Or.inr ⟨b, gF_r r6 rfl hsτ, p7, rfl⟩
def T925 (K944 : Int32 → Int32 → Int32 → Int32 → Int32 → mS → Prop) (u7 : Int32) (u8 : Int32) (u11 : Int32) (τ : mS) (w : mX) (σ' : mS) : Prop := (((u7).toInt = (0 : Int) ∧ K944 (u7) (u8) (u11) (Int32.ofInt (-1)) (Int32.ofInt 0) τ) ∨ (¬ ((u7).toInt = (0 : Int)) ∧ ((∃ v2 σ3, gF τ σ3 ∧ ev_run sm_all 153 [rf 11 (0), .inl (Int32.ofInt 0)] τ (.inl (some (.inl v2))) σ3 ∧ P153 τ (Int32.ofInt 0) (.inl (some (.inl v2))) σ3 ∧ K944 (u7) (u8) (u11) (v2) (Int32.ofInt 0) σ3) ∨ (∃ b, gF τ σ' ∧ P153 τ (Int32.ofInt 0) (.inr b) σ' ∧ w = .inr b))))
set_option maxRecDepth 100000 in
theorem t925 {C : ec_C} (hC : CK C) {N : Nat} {w : mX} {σ' : mS} {K944 : Int32 → Int32 → Int32 → Int32 → Int32 → mS → Prop} (H944 : ∀ f, f < N → ∀ (u7 : Int32) (u8 : Int32) (u11 : Int32) (u12 : Int32) (u13 : Int32) (y9 : Option mV) (y10 : Option mV) (y14 : Option mV) (y15 : Option mV) (y16 : Option mV) (y17 : Option mV) (τ : mS), HL τ → EC C f 18 ab_main 944 [some (rf 98 (0)), some (rf 11 (0)), some (rf 13 (14)), some (rf 13 (15)), some (rf 13 (16)), some (rf 13 (17)), some (rf 14 (6)), some (.inl (u7)), some (.inl (u8)), y9, y10, some (.inl (u11)), some (.inl (u12)), some (.inl (u13)), y14, y15, y16, y17] [] τ (w, σ') → K944 u7 u8 u11 u12 u13 τ) : ∀ f, f < N + 1 → ∀ (u7 : Int32) (u8 : Int32) (u11 : Int32) (y9 : Option mV) (y10 : Option mV) (y12 : Option mV) (y13 : Option mV) (y14 : Option mV) (y15 : Option mV) (y16 : Option mV) (y17 : Option mV) (τ : mS), HL τ → EC C f 18 ab_main 925 [some (rf 98 (0)), some (rf 11 (0)), some (rf 13 (14)), some (rf 13 (15)), some (rf 13 (16)), some (rf 13 (17)), some (rf 14 (6)), some (.inl (u7)), some (.inl (u8)), y9, y10, some (.inl (u11)), y12, y13, y14, y15, y16, y17] [] τ (w, σ') → T925 K944 u7 u8 u11 τ w σ' := by
  intro f hf0 u7 u8 u11 y9 y10 y12 y13 y14 y15 y16 y17 τ hsτ h
  have hf : f < N + 1 := hf0
  clear hf0
  unfold T925
  replace h : EC C f 18 ab_main 925 [some (rf 98 (0)), some (rf 11 (0)), some (rf 13 (14)), some (rf 13 (15)), some (rf 13 (16)), some (rf 13 (17)), some (rf 14 (6)), some (.inl (u7)), some (.inl (u8)), y9, y10, some (.inl (u11)), y12, y13, y14, y15, y16, y17] [] τ (w, σ') := h
  replace h := ec_p h rfl rfl rfl rfl
  obtain ⟨f, g, h⟩ := h
  replace hf := Nat.lt_of_lt_of_le g (Nat.le_of_lt_succ hf)
  clear g
  replace h : EC C f 18 ab_main 927 [some (rf 98 (0)), some (rf 11 (0)), some (rf 13 (14)), some (rf 13 (15)), some (rf 13 (16)), some (rf 13 (17)), some (rf 14 (6)), some (.inl (u7)), some (.inl (u8)), y9, y10, some (.inl (u11)), y12, y13, y14, y15, y16, y17] [.inl (u7)] τ (w, σ') := h
  replace h := ec_c h rfl rfl rfl
  rcases h with ⟨hp1, f, g, h⟩ | ⟨hp1, f, g, h⟩
  · skip
    replace hp1 : (u7).toInt = (0 : Int) := ic_eq.mp hp1
    refine Or.inl ⟨hp1, ?_⟩
    replace hf := Nat.lt_trans g hf
    clear g
    replace h : EC C f 18 ab_main 938 [some (rf 98 (0)), some (rf 11 (0)), some (rf 13 (14)), some (rf 13 (15)), some (rf 13 (16)), some (rf 13 (17)), some (rf 14 (6)), some (.inl (u7)), some (.inl (u8)), y9, y10, some (.inl (u11)), y12, y13, y14, y15, y16, y17] [] τ (w, σ') := h
    replace h := ec_p h rfl rfl rfl rfl
    obtain ⟨f, g, h⟩ := h
    replace hf := Nat.lt_trans g hf
    clear g
    replace h : EC C f 18 ab_main 939 [some (rf 98 (0)), some (rf 11 (0)), some (rf 13 (14)), some (rf 13 (15)), some (rf 13 (16)), some (rf 13 (17)), some (rf 14 (6)), some (.inl (u7)), some (.inl (u8)), y9, y10, some (.inl (u11)), y12, y13, y14, y15, y16, y17] [.inl (Int32.ofInt (-1))] τ (w, σ') := h
    replace h := ec_p h rfl rfl rfl rfl
    obtain ⟨f, g, h⟩ := h
    replace hf := Nat.lt_trans g hf
    clear g
    replace h : EC C f 18 ab_main 941 [some (rf 98 (0)), some (rf 11 (0)), some (rf 13 (14)), some (rf 13 (15)), some (rf 13 (16)), some (rf 13 (17)), some (rf 14 (6)), some (.inl (u7)), some (.inl (u8)), y9, y10, some (.inl (u11)), some (.inl (Int32.ofInt (-1))), y13, y14, y15, y16, y17] [] τ (w, σ') := h
    replace h := ec_p h rfl rfl rfl rfl
    obtain ⟨f, g, h⟩ := h
    replace hf := Nat.lt_trans g hf
    clear g
    replace h : EC C f 18 ab_main 942 [some (rf 98 (0)), some (rf 11 (0)), some (rf 13 (14)), some (rf 13 (15)), some (rf 13 (16)), some (rf 13 (17)), some (rf 14 (6)), some (.inl (u7)), some (.inl (u8)), y9, y10, some (.inl (u11)), some (.inl (Int32.ofInt (-1))), y13, y14, y15, y16, y17] [.inl (Int32.ofInt 0)] τ (w, σ') := h
    replace h := ec_p h rfl rfl rfl rfl
    obtain ⟨f, g, h⟩ := h
    replace hf := Nat.lt_trans g hf
    clear g
    replace h : EC C f 18 ab_main 944 [some (rf 98 (0)), some (rf 11 (0)), some (rf 13 (14)), some (rf 13 (15)), some (rf 13 (16)), some (rf 13 (17)), some (rf 14 (6)), some (.inl (u7)), some (.inl (u8)), y9, y10, some (.inl (u11)), some (.inl (Int32.ofInt (-1))), some (.inl (Int32.ofInt 0)), y14, y15, y16, y17] [] τ (w, σ') := h
    exact H944 f hf (u7) (u8) (u11) (Int32.ofInt (-1)) (Int32.ofInt 0) y9 y10 y14 y15 y16 y17 τ hsτ h
  · skip
    replace hp1 : ¬ ((u7).toInt = (0 : Int)) := (not_congr ic_eq).mp hp1
    refine Or.inr ⟨hp1, ?_⟩
    replace hf := Nat.lt_trans g hf
    clear g
    replace h : EC C f 18 ab_main 930 [some (rf 98 (0)), some (rf 11 (0)), some (rf 13 (14)), some (rf 13 (15)), some (rf 13 (16)), some (rf 13 (17)), some (rf 14 (6)), some (.inl (u7)), some (.inl (u8)), y9, y10, some (.inl (u11)), y12, y13, y14, y15, y16, y17] [] τ (w, σ') := h
    replace h := ec_p h rfl rfl rfl rfl
    obtain ⟨f, g, h⟩ := h
    replace hf := Nat.lt_trans g hf
    clear g
    replace h : EC C f 18 ab_main 931 [some (rf 98 (0)), some (rf 11 (0)), some (rf 13 (14)), some (rf 13 (15)), some (rf 13 (16)), some (rf 13 (17)), some (rf 14 (6)), some (.inl (u7)), some (.inl (u8)), y9, y10, some (.inl (u11)), y12, y13, y14, y15, y16, y17] [rf 11 (0)] τ (w, σ') := h
    replace h := ec_p h rfl rfl rfl rfl
    obtain ⟨f, g, h⟩ := h
    replace hf := Nat.lt_trans g hf
    clear g
    replace h : EC C f 18 ab_main 932 [some (rf 98 (0)), some (rf 11 (0)), some (rf 13 (14)), some (rf 13 (15)), some (rf 13 (16)), some (rf 13 (17)), some (rf 14 (6)), some (.inl (u7)), some (.inl (u8)), y9, y10, some (.inl (u11)), y12, y13, y14, y15, y16, y17] [.inl (Int32.ofInt 0), rf 11 (0)] τ (w, σ') := h
    replace h := cx_I hC (ec_v (as := [.inl (Int32.ofInt 0)]) h rfl rfl rfl) rfl z153_at (Or.inl rfl)
    rcases h with ⟨v2, σ3, r4, f, g, h⟩ | ⟨b, σ3, r4, e⟩
    · skip
      replace hf := Nat.lt_trans g hf
      clear g
      have p5 := x153 hsτ.1 r4
      have hsσ3 : HL σ3 := HL_r2 rfl r4 rfl hsτ
      refine Or.inl ⟨v2, σ3, gF_r r4 rfl hsτ, r4, p5, ?_⟩
      replace h : EC C f 18 ab_main 935 [some (rf 98 (0)), some (rf 11 (0)), some (rf 13 (14)), some (rf 13 (15)), some (rf 13 (16)), some (rf 13 (17)), some (rf 14 (6)), some (.inl (u7)), some (.inl (u8)), y9, y10, some (.inl (u11)), y12, y13, y14, y15, y16, y17] [.inl (v2)] σ3 (w, σ') := h
      replace h := ec_p h rfl rfl rfl rfl
      obtain ⟨f, g, h⟩ := h
      replace hf := Nat.lt_trans g hf
      clear g
      replace h : EC C f 18 ab_main 939 [some (rf 98 (0)), some (rf 11 (0)), some (rf 13 (14)), some (rf 13 (15)), some (rf 13 (16)), some (rf 13 (17)), some (rf 14 (6)), some (.inl (u7)), some (.inl (u8)), y9, y10, some (.inl (u11)), y12, y13, y14, y15, y16, y17] [.inl (v2)] σ3 (w, σ') := h
      replace h := ec_p h rfl rfl rfl rfl
      obtain ⟨f, g, h⟩ := h
      replace hf := Nat.lt_trans g hf
      clear g
      replace h : EC C f 18 ab_main 941 [some (rf 98 (0)), some (rf 11 (0)), some (rf 13 (14)), some (rf 13 (15)), some (rf 13 (16)), some (rf 13 (17)), some (rf 14 (6)), some (.inl (u7)), some (.inl (u8)), y9, y10, some (.inl (u11)), some (.inl (v2)), y13, y14, y15, y16, y17] [] σ3 (w, σ') := h
      replace h := ec_p h rfl rfl rfl rfl
      obtain ⟨f, g, h⟩ := h
      replace hf := Nat.lt_trans g hf
      clear g
      replace h : EC C f 18 ab_main 942 [some (rf 98 (0)), some (rf 11 (0)), some (rf 13 (14)), some (rf 13 (15)), some (rf 13 (16)), some (rf 13 (17)), some (rf 14 (6)), some (.inl (u7)), some (.inl (u8)), y9, y10, some (.inl (u11)), some (.inl (v2)), y13, y14, y15, y16, y17] [.inl (Int32.ofInt 0)] σ3 (w, σ') := h
      replace h := ec_p h rfl rfl rfl rfl
      obtain ⟨f, g, h⟩ := h
      replace hf := Nat.lt_trans g hf
      clear g
      replace h : EC C f 18 ab_main 944 [some (rf 98 (0)), some (rf 11 (0)), some (rf 13 (14)), some (rf 13 (15)), some (rf 13 (16)), some (rf 13 (17)), some (rf 14 (6)), some (.inl (u7)), some (.inl (u8)), y9, y10, some (.inl (u11)), some (.inl (v2)), some (.inl (Int32.ofInt 0)), y14, y15, y16, y17] [] σ3 (w, σ') := h
      exact H944 f hf (u7) (u8) (u11) (v2) (Int32.ofInt 0) y9 y10 y14 y15 y16 y17 σ3 hsσ3 h
    · skip
      have p5 := x153 hsτ.1 r4
      cases e
      exact Or.inr ⟨b, gF_r r4 rfl hsτ, p5, rfl⟩
def T1091  (u7 : Int32) (τ : mS) (w : mX) (σ' : mS) : Prop := (((u7).toInt = (0 : Int) ∧ w = .inl (some (.inl (Int32.ofInt 0))) ∧ σ' = τ) ∨ (¬ ((u7).toInt = (0 : Int)) ∧ ∃ v2 σ3, ev_run sm_all 157 [rf 11 (0)] τ (.inl (some (.inl v2))) σ3 ∧ (HL σ3 → (((v2).toInt = (0 : Int) ∧ w = .inl (some (.inl (Int32.ofInt 0))) ∧ σ' = σ3) ∨ (¬ ((v2).toInt = (0 : Int)) ∧ ∃ v7 σ8, gF σ3 σ8 ∧ HL σ8 ∧ ev_run sm_all 172 [rf 11 (0), .inl (Int32.ofInt 24), .inl (Int32.ofInt 3), .inl (Int32.ofInt 0), .inl (Int32.ofInt 0), .inl (Int32.ofInt 0), .inl (Int32.ofInt 0), .inl (Int32.ofInt 0), .inl (Int32.ofInt 0)] σ3 (.inl (some (.inr (.inl v7)))) σ8 ∧ P172 σ3 (Int32.ofInt 24) (Int32.ofInt 3) (Int32.ofInt 0) (Int32.ofInt 0) (Int32.ofInt 0) (Int32.ofInt 0) (Int32.ofInt 0) (Int32.ofInt 0) (.inl (some (.inr (.inl v7)))) σ8 ∧ (((v7).toInt ≠ (Int64.ofInt (-3000000000)).toInt ∧ w = .inl (some (.inl (Int32.ofInt 0))) ∧ σ' = σ8) ∨ (¬ ((v7).toInt ≠ (Int64.ofInt (-3000000000)).toInt) ∧ w = .inl (some (.inl (Int32.ofInt 1))) ∧ σ' = σ8)))))))
set_option maxRecDepth 100000 in
theorem t1091 {C : ec_C} (hC : CK C) {N : Nat} {w : mX} {σ' : mS}   : ∀ f, f < N + 1 → ∀ (u7 : Int32) (y8 : Option mV) (y9 : Option mV) (y10 : Option mV) (y11 : Option mV) (y12 : Option mV) (y13 : Option mV) (y14 : Option mV) (y15 : Option mV) (y16 : Option mV) (y17 : Option mV) (τ : mS), HL τ → EC C f 18 ab_main 1091 [some (rf 98 (0)), some (rf 11 (0)), some (rf 13 (14)), some (rf 13 (15)), some (rf 13 (16)), some (rf 13 (17)), some (rf 14 (6)), some (.inl (u7)), y8, y9, y10, y11, y12, y13, y14, y15, y16, y17] [] τ (w, σ') → T1091  u7 τ w σ' := by
  intro f hf0 u7 y8 y9 y10 y11 y12 y13 y14 y15 y16 y17 τ hsτ h
  have hf : f < N + 1 := hf0
  clear hf0
  unfold T1091
  replace h : EC C f 18 ab_main 1091 [some (rf 98 (0)), some (rf 11 (0)), some (rf 13 (14)), some (rf 13 (15)), some (rf 13 (16)), some (rf 13 (17)), some (rf 14 (6)), some (.inl (u7)), y8, y9, y10, y11, y12, y13, y14, y15, y16, y17] [] τ (w, σ') := h
  replace h := ec_p h rfl rfl rfl rfl
  obtain ⟨f, g, h⟩ := h
  replace hf := Nat.lt_of_lt_of_le g (Nat.le_of_lt_succ hf)
  clear g
  replace h : EC C f 18 ab_main 1093 [some (rf 98 (0)), some (rf 11 (0)), some (rf 13 (14)), some (rf 13 (15)), some (rf 13 (16)), some (rf 13 (17)), some (rf 14 (6)), some (.inl (u7)), y8, y9, y10, y11, y12, y13, y14, y15, y16, y17] [.inl (u7)] τ (w, σ') := h
  replace h := ec_c h rfl rfl rfl
  rcases h with ⟨hp1, f, g, h⟩ | ⟨hp1, f, g, h⟩
  · skip
    replace hp1 : (u7).toInt = (0 : Int) := ic_eq.mp hp1
    refine Or.inl ⟨hp1, ?_⟩
    replace hf := Nat.lt_trans g hf
    clear g
    replace h : EC C f 18 ab_main 1127 [some (rf 98 (0)), some (rf 11 (0)), some (rf 13 (14)), some (rf 13 (15)), some (rf 13 (16)), some (rf 13 (17)), some (rf 14 (6)), some (.inl (u7)), y8, y9, y10, y11, y12, y13, y14, y15, y16, y17] [] τ (w, σ') := h
    replace h := ec_p h rfl rfl rfl rfl
    obtain ⟨f, g, h⟩ := h
    replace hf := Nat.lt_trans g hf
    clear g
    replace h : EC C f 18 ab_main 1128 [some (rf 98 (0)), some (rf 11 (0)), some (rf 13 (14)), some (rf 13 (15)), some (rf 13 (16)), some (rf 13 (17)), some (rf 14 (6)), some (.inl (u7)), y8, y9, y10, y11, y12, y13, y14, y15, y16, y17] [.inl (Int32.ofInt 0)] τ (w, σ') := h
    have e := ec_iret h rfl
    cases e
    exact ⟨rfl, rfl⟩
  · skip
    replace hp1 : ¬ ((u7).toInt = (0 : Int)) := (not_congr ic_eq).mp hp1
    refine Or.inr ⟨hp1, ?_⟩
    replace hf := Nat.lt_trans g hf
    clear g
    replace h : EC C f 18 ab_main 1096 [some (rf 98 (0)), some (rf 11 (0)), some (rf 13 (14)), some (rf 13 (15)), some (rf 13 (16)), some (rf 13 (17)), some (rf 14 (6)), some (.inl (u7)), y8, y9, y10, y11, y12, y13, y14, y15, y16, y17] [] τ (w, σ') := h
    replace h := ec_p h rfl rfl rfl rfl
    obtain ⟨f, g, h⟩ := h
    replace hf := Nat.lt_trans g hf
    clear g
    replace h : EC C f 18 ab_main 1097 [some (rf 98 (0)), some (rf 11 (0)), some (rf 13 (14)), some (rf 13 (15)), some (rf 13 (16)), some (rf 13 (17)), some (rf 14 (6)), some (.inl (u7)), y8, y9, y10, y11, y12, y13, y14, y15, y16, y17] [rf 11 (0)] τ (w, σ') := h
    replace h := cx_I hC (ec_v (as := []) h rfl rfl rfl) rfl z157_at (Or.inr rfl)
    rcases h with ⟨v2, σ3, r4, f, g, h⟩ | ⟨b, σ3, r4, e⟩
    rotate_left
    · obtain ⟨_, z⟩ := nt_run rfl r4
      cases z
    replace hf := Nat.lt_trans g hf
    clear g
    refine ⟨v2, σ3, r4, ?_⟩
    refine fun hsσ3 => ?_
    replace h : EC C f 18 ab_main 1100 [some (rf 98 (0)), some (rf 11 (0)), some (rf 13 (14)), some (rf 13 (15)), some (rf 13 (16)), some (rf 13 (17)), some (rf 14 (6)), some (.inl (u7)), y8, y9, y10, y11, y12, y13, y14, y15, y16, y17] [.inl (v2)] σ3 (w, σ') := h
    replace h := ec_c h rfl rfl rfl
    rcases h with ⟨hp6, f, g, h⟩ | ⟨hp6, f, g, h⟩
    · skip
      replace hp6 : (v2).toInt = (0 : Int) := ic_eq.mp hp6
      refine Or.inl ⟨hp6, ?_⟩
      replace hf := Nat.lt_trans g hf
      clear g
      replace h : EC C f 18 ab_main 1127 [some (rf 98 (0)), some (rf 11 (0)), some (rf 13 (14)), some (rf 13 (15)), some (rf 13 (16)), some (rf 13 (17)), some (rf 14 (6)), some (.inl (u7)), y8, y9, y10, y11, y12, y13, y14, y15, y16, y17] [] σ3 (w, σ') := h
      replace h := ec_p h rfl rfl rfl rfl
      obtain ⟨f, g, h⟩ := h
      replace hf := Nat.lt_trans g hf
      clear g
      replace h : EC C f 18 ab_main 1128 [some (rf 98 (0)), some (rf 11 (0)), some (rf 13 (14)), some (rf 13 (15)), some (rf 13 (16)), some (rf 13 (17)), some (rf 14 (6)), some (.inl (u7)), y8, y9, y10, y11, y12, y13, y14, y15, y16, y17] [.inl (Int32.ofInt 0)] σ3 (w, σ') := h
      have e := ec_iret h rfl
      cases e
      exact ⟨rfl, rfl⟩
    · skip
      replace hp6 : ¬ ((v2).toInt = (0 : Int)) := (not_congr ic_eq).mp hp6
      refine Or.inr ⟨hp6, ?_⟩
      replace hf := Nat.lt_trans g hf
      clear g
      replace h : EC C f 18 ab_main 1103 [some (rf 98 (0)), some (rf 11 (0)), some (rf 13 (14)), some (rf 13 (15)), some (rf 13 (16)), some (rf 13 (17)), some (rf 14 (6)), some (.inl (u7)), y8, y9, y10, y11, y12, y13, y14, y15, y16, y17] [] σ3 (w, σ') := h
      replace h := ec_p h rfl rfl rfl rfl
      obtain ⟨f, g, h⟩ := h
      replace hf := Nat.lt_trans g hf
      clear g
      replace h : EC C f 18 ab_main 1104 [some (rf 98 (0)), some (rf 11 (0)), some (rf 13 (14)), some (rf 13 (15)), some (rf 13 (16)), some (rf 13 (17)), some (rf 14 (6)), some (.inl (u7)), y8, y9, y10, y11, y12, y13, y14, y15, y16, y17] [rf 11 (0)] σ3 (w, σ') := h
      replace h := ec_p h rfl rfl rfl rfl
      obtain ⟨f, g, h⟩ := h
      replace hf := Nat.lt_trans g hf
      clear g
      replace h : EC C f 18 ab_main 1106 [some (rf 98 (0)), some (rf 11 (0)), some (rf 13 (14)), some (rf 13 (15)), some (rf 13 (16)), some (rf 13 (17)), some (rf 14 (6)), some (.inl (u7)), y8, y9, y10, y11, y12, y13, y14, y15, y16, y17] [.inl (Int32.ofInt 24), rf 11 (0)] σ3 (w, σ') := h
      replace h := ec_p h rfl rfl rfl rfl
      obtain ⟨f, g, h⟩ := h
      replace hf := Nat.lt_trans g hf
      clear g
      replace h : EC C f 18 ab_main 1107 [some (rf 98 (0)), some (rf 11 (0)), some (rf 13 (14)), some (rf 13 (15)), some (rf 13 (16)), some (rf 13 (17)), some (rf 14 (6)), some (.inl (u7)), y8, y9, y10, y11, y12, y13, y14, y15, y16, y17] [.inl (Int32.ofInt 3), .inl (Int32.ofInt 24), rf 11 (0)] σ3 (w, σ') := h
      replace h := ec_p h rfl rfl rfl rfl
      obtain ⟨f, g, h⟩ := h
      replace hf := Nat.lt_trans g hf
      clear g
      replace h : EC C f 18 ab_main 1108 [some (rf 98 (0)), some (rf 11 (0)), some (rf 13 (14)), some (rf 13 (15)), some (rf 13 (16)), some (rf 13 (17)), some (rf 14 (6)), some (.inl (u7)), y8, y9, y10, y11, y12, y13, y14, y15, y16, y17] [.inl (Int32.ofInt 0), .inl (Int32.ofInt 3), .inl (Int32.ofInt 24), rf 11 (0)] σ3 (w, σ') := h
      replace h := ec_p h rfl rfl rfl rfl
      obtain ⟨f, g, h⟩ := h
      replace hf := Nat.lt_trans g hf
      clear g
      replace h : EC C f 18 ab_main 1109 [some (rf 98 (0)), some (rf 11 (0)), some (rf 13 (14)), some (rf 13 (15)), some (rf 13 (16)), some (rf 13 (17)), some (rf 14 (6)), some (.inl (u7)), y8, y9, y10, y11, y12, y13, y14, y15, y16, y17] [.inl (Int32.ofInt 0), .inl (Int32.ofInt 0), .inl (Int32.ofInt 3), .inl (Int32.ofInt 24), rf 11 (0)] σ3 (w, σ') := h
      replace h := ec_p h rfl rfl rfl rfl
      obtain ⟨f, g, h⟩ := h
      replace hf := Nat.lt_trans g hf
      clear g
      replace h : EC C f 18 ab_main 1110 [some (rf 98 (0)), some (rf 11 (0)), some (rf 13 (14)), some (rf 13 (15)), some (rf 13 (16)), some (rf 13 (17)), some (rf 14 (6)), some (.inl (u7)), y8, y9, y10, y11, y12, y13, y14, y15, y16, y17] [.inl (Int32.ofInt 0), .inl (Int32.ofInt 0), .inl (Int32.ofInt 0), .inl (Int32.ofInt 3), .inl (Int32.ofInt 24), rf 11 (0)] σ3 (w, σ') := h
      replace h := ec_p h rfl rfl rfl rfl
      obtain ⟨f, g, h⟩ := h
      replace hf := Nat.lt_trans g hf
      clear g
      replace h : EC C f 18 ab_main 1111 [some (rf 98 (0)), some (rf 11 (0)), some (rf 13 (14)), some (rf 13 (15)), some (rf 13 (16)), some (rf 13 (17)), some (rf 14 (6)), some (.inl (u7)), y8, y9, y10, y11, y12, y13, y14, y15, y16, y17] [.inl (Int32.ofInt 0), .inl (Int32.ofInt 0), .inl (Int32.ofInt 0), .inl (Int32.ofInt 0), .inl (Int32.ofInt 3), .inl (Int32.ofInt 24), rf 11 (0)] σ3 (w, σ') := h
      replace h := ec_p h rfl rfl rfl rfl
      obtain ⟨f, g, h⟩ := h
      replace hf := Nat.lt_trans g hf
      clear g
      replace h : EC C f 18 ab_main 1112 [some (rf 98 (0)), some (rf 11 (0)), some (rf 13 (14)), some (rf 13 (15)), some (rf 13 (16)), some (rf 13 (17)), some (rf 14 (6)), some (.inl (u7)), y8, y9, y10, y11, y12, y13, y14, y15, y16, y17] [.inl (Int32.ofInt 0), .inl (Int32.ofInt 0), .inl (Int32.ofInt 0), .inl (Int32.ofInt 0), .inl (Int32.ofInt 0), .inl (Int32.ofInt 3), .inl (Int32.ofInt 24), rf 11 (0)] σ3 (w, σ') := h
      replace h := ec_p h rfl rfl rfl rfl
      obtain ⟨f, g, h⟩ := h
      replace hf := Nat.lt_trans g hf
      clear g
      replace h : EC C f 18 ab_main 1113 [some (rf 98 (0)), some (rf 11 (0)), some (rf 13 (14)), some (rf 13 (15)), some (rf 13 (16)), some (rf 13 (17)), some (rf 14 (6)), some (.inl (u7)), y8, y9, y10, y11, y12, y13, y14, y15, y16, y17] [.inl (Int32.ofInt 0), .inl (Int32.ofInt 0), .inl (Int32.ofInt 0), .inl (Int32.ofInt 0), .inl (Int32.ofInt 0), .inl (Int32.ofInt 0), .inl (Int32.ofInt 3), .inl (Int32.ofInt 24), rf 11 (0)] σ3 (w, σ') := h
      replace h := cx_L hC (ec_s (as := [.inl (Int32.ofInt 0), .inl (Int32.ofInt 0), .inl (Int32.ofInt 0), .inl (Int32.ofInt 0), .inl (Int32.ofInt 0), .inl (Int32.ofInt 0), .inl (Int32.ofInt 3), .inl (Int32.ofInt 24), rf 11 (0)]) h rfl (Nat.le_of_ble_eq_true rfl) rfl rfl) rfl z172_at rfl
      rcases h with ⟨v7, σ8, r9, f, g, h⟩ | ⟨b, σ8, r9, e⟩
      rotate_left
      · exact (nt172 (x172 hsσ3 r9)).elim
      replace hf := Nat.lt_trans g hf
      clear g
      have p10 := x172 hsσ3 r9
      have hsσ8 : HL σ8 := hl172 p10
      refine ⟨v7, σ8, gF_r r9 rfl hsσ3, hsσ8, r9, p10, ?_⟩
      replace h : EC C f 18 ab_main 1116 [some (rf 98 (0)), some (rf 11 (0)), some (rf 13 (14)), some (rf 13 (15)), some (rf 13 (16)), some (rf 13 (17)), some (rf 14 (6)), some (.inl (u7)), y8, y9, y10, y11, y12, y13, y14, y15, y16, y17] [.inr (.inl (v7))] σ8 (w, σ') := h
      replace h := ec_p h rfl rfl rfl rfl
      obtain ⟨f, g, h⟩ := h
      replace hf := Nat.lt_trans g hf
      clear g
      replace h : EC C f 18 ab_main 1119 [some (rf 98 (0)), some (rf 11 (0)), some (rf 13 (14)), some (rf 13 (15)), some (rf 13 (16)), some (rf 13 (17)), some (rf 14 (6)), some (.inl (u7)), y8, y9, y10, y11, y12, y13, y14, y15, y16, y17] [.inr (.inl (Int64.ofInt (-3000000000))), .inr (.inl (v7))] σ8 (w, σ') := h
      replace h := ec_p h rfl rfl rfl rfl
      obtain ⟨f, g, h⟩ := h
      replace hf := Nat.lt_trans g hf
      clear g
      replace h : EC C f 18 ab_main 1120 [some (rf 98 (0)), some (rf 11 (0)), some (rf 13 (14)), some (rf 13 (15)), some (rf 13 (16)), some (rf 13 (17)), some (rf 14 (6)), some (.inl (u7)), y8, y9, y10, y11, y12, y13, y14, y15, y16, y17] [.inl (lg_cmp (v7) (Int64.ofInt (-3000000000)))] σ8 (w, σ') := h
      replace h := ec_c h rfl rfl rfl
      rcases h with ⟨hp11, f, g, h⟩ | ⟨hp11, f, g, h⟩
      · skip
        replace hp11 : (v7).toInt ≠ (Int64.ofInt (-3000000000)).toInt := (ab_lc .ne _ _).mp hp11
        refine Or.inl ⟨hp11, ?_⟩
        replace hf := Nat.lt_trans g hf
        clear g
        replace h : EC C f 18 ab_main 1127 [some (rf 98 (0)), some (rf 11 (0)), some (rf 13 (14)), some (rf 13 (15)), some (rf 13 (16)), some (rf 13 (17)), some (rf 14 (6)), some (.inl (u7)), y8, y9, y10, y11, y12, y13, y14, y15, y16, y17] [] σ8 (w, σ') := h
        replace h := ec_p h rfl rfl rfl rfl
        obtain ⟨f, g, h⟩ := h
        replace hf := Nat.lt_trans g hf
        clear g
        replace h : EC C f 18 ab_main 1128 [some (rf 98 (0)), some (rf 11 (0)), some (rf 13 (14)), some (rf 13 (15)), some (rf 13 (16)), some (rf 13 (17)), some (rf 14 (6)), some (.inl (u7)), y8, y9, y10, y11, y12, y13, y14, y15, y16, y17] [.inl (Int32.ofInt 0)] σ8 (w, σ') := h
        have e := ec_iret h rfl
        cases e
        exact ⟨rfl, rfl⟩
      · skip
        replace hp11 : ¬ ((v7).toInt ≠ (Int64.ofInt (-3000000000)).toInt) := (not_congr (ab_lc .ne _ _)).mp hp11
        refine Or.inr ⟨hp11, ?_⟩
        replace hf := Nat.lt_trans g hf
        clear g
        replace h : EC C f 18 ab_main 1123 [some (rf 98 (0)), some (rf 11 (0)), some (rf 13 (14)), some (rf 13 (15)), some (rf 13 (16)), some (rf 13 (17)), some (rf 14 (6)), some (.inl (u7)), y8, y9, y10, y11, y12, y13, y14, y15, y16, y17] [] σ8 (w, σ') := h
        replace h := ec_p h rfl rfl rfl rfl
        obtain ⟨f, g, h⟩ := h
        replace hf := Nat.lt_trans g hf
        clear g
        replace h : EC C f 18 ab_main 1124 [some (rf 98 (0)), some (rf 11 (0)), some (rf 13 (14)), some (rf 13 (15)), some (rf 13 (16)), some (rf 13 (17)), some (rf 14 (6)), some (.inl (u7)), y8, y9, y10, y11, y12, y13, y14, y15, y16, y17] [.inl (Int32.ofInt 1)] σ8 (w, σ') := h
        replace h := ec_p h rfl rfl rfl rfl
        obtain ⟨f, g, h⟩ := h
        replace hf := Nat.lt_trans g hf
        clear g
        replace h : EC C f 18 ab_main 1128 [some (rf 98 (0)), some (rf 11 (0)), some (rf 13 (14)), some (rf 13 (15)), some (rf 13 (16)), some (rf 13 (17)), some (rf 14 (6)), some (.inl (u7)), y8, y9, y10, y11, y12, y13, y14, y15, y16, y17] [.inl (Int32.ofInt 1)] σ8 (w, σ') := h
        have e := ec_iret h rfl
        cases e
        exact ⟨rfl, rfl⟩
def T162 (K214 : Int32 → Int32 → Int32 → Int32 → mS → Prop) (K1091 : Int32 → mS → Prop) (u7 : Int32) (u8 : Int32) (τ : mS) (w : mX) (σ' : mS) : Prop := (((62 : Int) ≤ (u8).toInt ∧ K1091 (u7) τ) ∨ (¬ ((62 : Int) ≤ (u8).toInt) ∧ (((u7).toInt = (0 : Int) ∧ K1091 (u7) τ) ∨ (¬ ((u7).toInt = (0 : Int)) ∧ ((w = .inr 7 ∧ σ' = τ) ∨ ∃ v3, (0 ≤ (v3).toInt ∧ (v3).toInt < (Int32.ofInt 44).toInt) ∧ ∃ v7, (0 ≤ (v7).toInt ∧ (v7).toInt < (Int32.ofInt 60000).toInt) ∧ ∃ v11, (0 ≤ (v11).toInt ∧ (v11).toInt < (Int32.ofInt 70000).toInt) ∧ K214 (u8) (v3) (v7) (v11) τ)))))
set_option maxRecDepth 100000 in
theorem t162 {C : ec_C} (hC : CK C) {N : Nat} {w : mX} {σ' : mS} {K214 : Int32 → Int32 → Int32 → Int32 → mS → Prop} {K1091 : Int32 → mS → Prop} (H214 : ∀ f, f < N → ∀ (u8 : Int32) (u9 : Int32) (u10 : Int32) (u11 : Int32) (y7 : Option mV) (y12 : Option mV) (y13 : Option mV) (y14 : Option mV) (y15 : Option mV) (y16 : Option mV) (y17 : Option mV) (τ : mS), HL τ → EC C f 18 ab_main 214 [some (rf 98 (0)), some (rf 11 (0)), some (rf 13 (14)), some (rf 13 (15)), some (rf 13 (16)), some (rf 13 (17)), some (rf 14 (6)), y7, some (.inl (u8)), some (.inl (u9)), some (.inl (u10)), some (.inl (u11)), y12, y13, y14, y15, y16, y17] [] τ (w, σ') → K214 u8 u9 u10 u11 τ) (H1091 : ∀ f, f < N → ∀ (u7 : Int32) (y8 : Option mV) (y9 : Option mV) (y10 : Option mV) (y11 : Option mV) (y12 : Option mV) (y13 : Option mV) (y14 : Option mV) (y15 : Option mV) (y16 : Option mV) (y17 : Option mV) (τ : mS), HL τ → EC C f 18 ab_main 1091 [some (rf 98 (0)), some (rf 11 (0)), some (rf 13 (14)), some (rf 13 (15)), some (rf 13 (16)), some (rf 13 (17)), some (rf 14 (6)), some (.inl (u7)), y8, y9, y10, y11, y12, y13, y14, y15, y16, y17] [] τ (w, σ') → K1091 u7 τ) : ∀ f, f < N + 1 → ∀ (u7 : Int32) (u8 : Int32) (y9 : Option mV) (y10 : Option mV) (y11 : Option mV) (y12 : Option mV) (y13 : Option mV) (y14 : Option mV) (y15 : Option mV) (y16 : Option mV) (y17 : Option mV) (τ : mS), HL τ → EC C f 18 ab_main 162 [some (rf 98 (0)), some (rf 11 (0)), some (rf 13 (14)), some (rf 13 (15)), some (rf 13 (16)), some (rf 13 (17)), some (rf 14 (6)), some (.inl (u7)), some (.inl (u8)), y9, y10, y11, y12, y13, y14, y15, y16, y17] [] τ (w, σ') → T162 K214 K1091 u7 u8 τ w σ' := by
  intro f hf0 u7 u8 y9 y10 y11 y12 y13 y14 y15 y16 y17 τ hsτ h
  have hf : f < N + 1 := hf0
  clear hf0
  unfold T162
  replace h : EC C f 18 ab_main 162 [some (rf 98 (0)), some (rf 11 (0)), some (rf 13 (14)), some (rf 13 (15)), some (rf 13 (16)), some (rf 13 (17)), some (rf 14 (6)), some (.inl (u7)), some (.inl (u8)), y9, y10, y11, y12, y13, y14, y15, y16, y17] [] τ (w, σ') := h
  replace h := ec_p h rfl rfl rfl rfl
  obtain ⟨f, g, h⟩ := h
  replace hf := Nat.lt_of_lt_of_le g (Nat.le_of_lt_succ hf)
  clear g
  replace h : EC C f 18 ab_main 164 [some (rf 98 (0)), some (rf 11 (0)), some (rf 13 (14)), some (rf 13 (15)), some (rf 13 (16)), some (rf 13 (17)), some (rf 14 (6)), some (.inl (u7)), some (.inl (u8)), y9, y10, y11, y12, y13, y14, y15, y16, y17] [.inl (u8)] τ (w, σ') := h
  replace h := ec_p h rfl rfl rfl rfl
  obtain ⟨f, g, h⟩ := h
  replace hf := Nat.lt_trans g hf
  clear g
  replace h : EC C f 18 ab_main 166 [some (rf 98 (0)), some (rf 11 (0)), some (rf 13 (14)), some (rf 13 (15)), some (rf 13 (16)), some (rf 13 (17)), some (rf 14 (6)), some (.inl (u7)), some (.inl (u8)), y9, y10, y11, y12, y13, y14, y15, y16, y17] [.inl (Int32.ofInt 62), .inl (u8)] τ (w, σ') := h
  replace h := ec_c h rfl rfl rfl
  rcases h with ⟨hp1, f, g, h⟩ | ⟨hp1, f, g, h⟩
  · skip
    replace hp1 : (62 : Int) ≤ (u8).toInt := ic_ge.mp hp1
    refine Or.inl ⟨hp1, ?_⟩
    replace hf := Nat.lt_trans g hf
    clear g
    replace h : EC C f 18 ab_main 1091 [some (rf 98 (0)), some (rf 11 (0)), some (rf 13 (14)), some (rf 13 (15)), some (rf 13 (16)), some (rf 13 (17)), some (rf 14 (6)), some (.inl (u7)), some (.inl (u8)), y9, y10, y11, y12, y13, y14, y15, y16, y17] [] τ (w, σ') := h
    exact H1091 f hf (u7) (some (.inl (u8))) y9 y10 y11 y12 y13 y14 y15 y16 y17 τ hsτ h
  · skip
    replace hp1 : ¬ ((62 : Int) ≤ (u8).toInt) := (not_congr ic_ge).mp hp1
    refine Or.inr ⟨hp1, ?_⟩
    replace hf := Nat.lt_trans g hf
    clear g
    replace h : EC C f 18 ab_main 169 [some (rf 98 (0)), some (rf 11 (0)), some (rf 13 (14)), some (rf 13 (15)), some (rf 13 (16)), some (rf 13 (17)), some (rf 14 (6)), some (.inl (u7)), some (.inl (u8)), y9, y10, y11, y12, y13, y14, y15, y16, y17] [] τ (w, σ') := h
    replace h := ec_p h rfl rfl rfl rfl
    obtain ⟨f, g, h⟩ := h
    replace hf := Nat.lt_trans g hf
    clear g
    replace h : EC C f 18 ab_main 171 [some (rf 98 (0)), some (rf 11 (0)), some (rf 13 (14)), some (rf 13 (15)), some (rf 13 (16)), some (rf 13 (17)), some (rf 14 (6)), some (.inl (u7)), some (.inl (u8)), y9, y10, y11, y12, y13, y14, y15, y16, y17] [.inl (u7)] τ (w, σ') := h
    replace h := ec_c h rfl rfl rfl
    rcases h with ⟨hp2, f, g, h⟩ | ⟨hp2, f, g, h⟩
    · skip
      replace hp2 : (u7).toInt = (0 : Int) := ic_eq.mp hp2
      refine Or.inl ⟨hp2, ?_⟩
      replace hf := Nat.lt_trans g hf
      clear g
      replace h : EC C f 18 ab_main 1091 [some (rf 98 (0)), some (rf 11 (0)), some (rf 13 (14)), some (rf 13 (15)), some (rf 13 (16)), some (rf 13 (17)), some (rf 14 (6)), some (.inl (u7)), some (.inl (u8)), y9, y10, y11, y12, y13, y14, y15, y16, y17] [] τ (w, σ') := h
      exact H1091 f hf (u7) (some (.inl (u8))) y9 y10 y11 y12 y13 y14 y15 y16 y17 τ hsτ h
    · skip
      replace hp2 : ¬ ((u7).toInt = (0 : Int)) := (not_congr ic_eq).mp hp2
      refine Or.inr ⟨hp2, ?_⟩
      replace hf := Nat.lt_trans g hf
      clear g
      replace h : EC C f 18 ab_main 174 [some (rf 98 (0)), some (rf 11 (0)), some (rf 13 (14)), some (rf 13 (15)), some (rf 13 (16)), some (rf 13 (17)), some (rf 14 (6)), some (.inl (u7)), some (.inl (u8)), y9, y10, y11, y12, y13, y14, y15, y16, y17] [] τ (w, σ') := h
      replace h := ec_p h rfl rfl rfl rfl
      obtain ⟨f, g, h⟩ := h
      replace hf := Nat.lt_trans g hf
      clear g
      replace h : EC C f 18 ab_main 175 [some (rf 98 (0)), some (rf 11 (0)), some (rf 13 (14)), some (rf 13 (15)), some (rf 13 (16)), some (rf 13 (17)), some (rf 14 (6)), some (.inl (u7)), some (.inl (u8)), y9, y10, y11, y12, y13, y14, y15, y16, y17] [rf 98 (0)] τ (w, σ') := h
      replace h := ec_p h rfl rfl rfl rfl
      obtain ⟨f, g, h⟩ := h
      replace hf := Nat.lt_trans g hf
      clear g
      replace h : EC C f 18 ab_main 176 [some (rf 98 (0)), some (rf 11 (0)), some (rf 13 (14)), some (rf 13 (15)), some (rf 13 (16)), some (rf 13 (17)), some (rf 14 (6)), some (.inl (u7)), some (.inl (u8)), y9, y10, y11, y12, y13, y14, y15, y16, y17] [.inl (Int32.ofInt 3), rf 98 (0)] τ (w, σ') := h
      replace h := ec_p h rfl rfl rfl rfl
      obtain ⟨f, g, h⟩ := h
      replace hf := Nat.lt_trans g hf
      clear g
      replace h : EC C f 18 ab_main 178 [some (rf 98 (0)), some (rf 11 (0)), some (rf 13 (14)), some (rf 13 (15)), some (rf 13 (16)), some (rf 13 (17)), some (rf 14 (6)), some (.inl (u7)), some (.inl (u8)), y9, y10, y11, y12, y13, y14, y15, y16, y17] [.inl (u8), .inl (Int32.ofInt 3), rf 98 (0)] τ (w, σ') := h
      replace h := ec_p h rfl rfl rfl rfl
      obtain ⟨f, g, h⟩ := h
      replace hf := Nat.lt_trans g hf
      clear g
      replace h : EC C f 18 ab_main 179 [some (rf 98 (0)), some (rf 11 (0)), some (rf 13 (14)), some (rf 13 (15)), some (rf 13 (16)), some (rf 13 (17)), some (rf 14 (6)), some (.inl (u7)), some (.inl (u8)), y9, y10, y11, y12, y13, y14, y15, y16, y17] [.inl ((Int32.ofInt 3) * (u8)), rf 98 (0)] τ (w, σ') := h
      replace h := ec_p h rfl rfl rfl rfl
      obtain ⟨f, g, h⟩ := h
      replace hf := Nat.lt_trans g hf
      clear g
      replace h : EC C f 18 ab_main 181 [some (rf 98 (0)), some (rf 11 (0)), some (rf 13 (14)), some (rf 13 (15)), some (rf 13 (16)), some (rf 13 (17)), some (rf 14 (6)), some (.inl (u7)), some (.inl (u8)), y9, y10, y11, y12, y13, y14, y15, y16, y17] [.inl (Int32.ofInt 44), .inl ((Int32.ofInt 3) * (u8)), rf 98 (0)] τ (w, σ') := h
      rcases ec_part44 hC (ec_s (as := [.inl (Int32.ofInt 44), .inl ((Int32.ofInt 3) * (u8)), rf 98 (0)]) h rfl (Nat.le_of_ble_eq_true rfl) rfl rfl) (by decide) with ⟨-, e⟩ | ⟨v3, p6, f, g, h⟩
      · refine Or.inl ?_
        cases e
        exact ⟨rfl, rfl⟩
      refine Or.inr ?_
      replace hf := Nat.lt_trans g hf
      clear g
      refine ⟨v3, p6, ?_⟩
      replace h : EC C f 18 ab_main 184 [some (rf 98 (0)), some (rf 11 (0)), some (rf 13 (14)), some (rf 13 (15)), some (rf 13 (16)), some (rf 13 (17)), some (rf 14 (6)), some (.inl (u7)), some (.inl (u8)), y9, y10, y11, y12, y13, y14, y15, y16, y17] [.inl (v3)] τ (w, σ') := h
      replace h := ec_p h rfl rfl rfl rfl
      obtain ⟨f, g, h⟩ := h
      replace hf := Nat.lt_trans g hf
      clear g
      replace h : EC C f 18 ab_main 186 [some (rf 98 (0)), some (rf 11 (0)), some (rf 13 (14)), some (rf 13 (15)), some (rf 13 (16)), some (rf 13 (17)), some (rf 14 (6)), some (.inl (u7)), some (.inl (u8)), some (.inl (v3)), y10, y11, y12, y13, y14, y15, y16, y17] [] τ (w, σ') := h
      replace h := ec_p h rfl rfl rfl rfl
      obtain ⟨f, g, h⟩ := h
      replace hf := Nat.lt_trans g hf
      clear g
      replace h : EC C f 18 ab_main 187 [some (rf 98 (0)), some (rf 11 (0)), some (rf 13 (14)), some (rf 13 (15)), some (rf 13 (16)), some (rf 13 (17)), some (rf 14 (6)), some (.inl (u7)), some (.inl (u8)), some (.inl (v3)), y10, y11, y12, y13, y14, y15, y16, y17] [rf 98 (0)] τ (w, σ') := h
      replace h := ec_p h rfl rfl rfl rfl
      obtain ⟨f, g, h⟩ := h
      replace hf := Nat.lt_trans g hf
      clear g
      replace h : EC C f 18 ab_main 188 [some (rf 98 (0)), some (rf 11 (0)), some (rf 13 (14)), some (rf 13 (15)), some (rf 13 (16)), some (rf 13 (17)), some (rf 14 (6)), some (.inl (u7)), some (.inl (u8)), some (.inl (v3)), y10, y11, y12, y13, y14, y15, y16, y17] [.inl (Int32.ofInt 3), rf 98 (0)] τ (w, σ') := h
      replace h := ec_p h rfl rfl rfl rfl
      obtain ⟨f, g, h⟩ := h
      replace hf := Nat.lt_trans g hf
      clear g
      replace h : EC C f 18 ab_main 190 [some (rf 98 (0)), some (rf 11 (0)), some (rf 13 (14)), some (rf 13 (15)), some (rf 13 (16)), some (rf 13 (17)), some (rf 14 (6)), some (.inl (u7)), some (.inl (u8)), some (.inl (v3)), y10, y11, y12, y13, y14, y15, y16, y17] [.inl (u8), .inl (Int32.ofInt 3), rf 98 (0)] τ (w, σ') := h
      replace h := ec_p h rfl rfl rfl rfl
      obtain ⟨f, g, h⟩ := h
      replace hf := Nat.lt_trans g hf
      clear g
      replace h : EC C f 18 ab_main 191 [some (rf 98 (0)), some (rf 11 (0)), some (rf 13 (14)), some (rf 13 (15)), some (rf 13 (16)), some (rf 13 (17)), some (rf 14 (6)), some (.inl (u7)), some (.inl (u8)), some (.inl (v3)), y10, y11, y12, y13, y14, y15, y16, y17] [.inl ((Int32.ofInt 3) * (u8)), rf 98 (0)] τ (w, σ') := h
      replace h := ec_p h rfl rfl rfl rfl
      obtain ⟨f, g, h⟩ := h
      replace hf := Nat.lt_trans g hf
      clear g
      replace h : EC C f 18 ab_main 192 [some (rf 98 (0)), some (rf 11 (0)), some (rf 13 (14)), some (rf 13 (15)), some (rf 13 (16)), some (rf 13 (17)), some (rf 14 (6)), some (.inl (u7)), some (.inl (u8)), some (.inl (v3)), y10, y11, y12, y13, y14, y15, y16, y17] [.inl (Int32.ofInt 1), .inl ((Int32.ofInt 3) * (u8)), rf 98 (0)] τ (w, σ') := h
      replace h := ec_p h rfl rfl rfl rfl
      obtain ⟨f, g, h⟩ := h
      replace hf := Nat.lt_trans g hf
      clear g
      replace h : EC C f 18 ab_main 193 [some (rf 98 (0)), some (rf 11 (0)), some (rf 13 (14)), some (rf 13 (15)), some (rf 13 (16)), some (rf 13 (17)), some (rf 14 (6)), some (.inl (u7)), some (.inl (u8)), some (.inl (v3)), y10, y11, y12, y13, y14, y15, y16, y17] [.inl (((Int32.ofInt 3) * (u8)) + (Int32.ofInt 1)), rf 98 (0)] τ (w, σ') := h
      replace h := ec_p h rfl rfl rfl rfl
      obtain ⟨f, g, h⟩ := h
      replace hf := Nat.lt_trans g hf
      clear g
      replace h : EC C f 18 ab_main 195 [some (rf 98 (0)), some (rf 11 (0)), some (rf 13 (14)), some (rf 13 (15)), some (rf 13 (16)), some (rf 13 (17)), some (rf 14 (6)), some (.inl (u7)), some (.inl (u8)), some (.inl (v3)), y10, y11, y12, y13, y14, y15, y16, y17] [.inl (Int32.ofInt 60000), .inl (((Int32.ofInt 3) * (u8)) + (Int32.ofInt 1)), rf 98 (0)] τ (w, σ') := h
      obtain ⟨v7, p10, f, g, h⟩ := ec_part hC (ec_s (as := [.inl (Int32.ofInt 60000), .inl (((Int32.ofInt 3) * (u8)) + (Int32.ofInt 1)), rf 98 (0)]) h rfl (Nat.le_of_ble_eq_true rfl) rfl rfl) (by decide) (by decide)
      replace hf := Nat.lt_trans g hf
      clear g
      refine ⟨v7, p10, ?_⟩
      replace h : EC C f 18 ab_main 198 [some (rf 98 (0)), some (rf 11 (0)), some (rf 13 (14)), some (rf 13 (15)), some (rf 13 (16)), some (rf 13 (17)), some (rf 14 (6)), some (.inl (u7)), some (.inl (u8)), some (.inl (v3)), y10, y11, y12, y13, y14, y15, y16, y17] [.inl (v7)] τ (w, σ') := h
      replace h := ec_p h rfl rfl rfl rfl
      obtain ⟨f, g, h⟩ := h
      replace hf := Nat.lt_trans g hf
      clear g
      replace h : EC C f 18 ab_main 200 [some (rf 98 (0)), some (rf 11 (0)), some (rf 13 (14)), some (rf 13 (15)), some (rf 13 (16)), some (rf 13 (17)), some (rf 14 (6)), some (.inl (u7)), some (.inl (u8)), some (.inl (v3)), some (.inl (v7)), y11, y12, y13, y14, y15, y16, y17] [] τ (w, σ') := h
      replace h := ec_p h rfl rfl rfl rfl
      obtain ⟨f, g, h⟩ := h
      replace hf := Nat.lt_trans g hf
      clear g
      replace h : EC C f 18 ab_main 201 [some (rf 98 (0)), some (rf 11 (0)), some (rf 13 (14)), some (rf 13 (15)), some (rf 13 (16)), some (rf 13 (17)), some (rf 14 (6)), some (.inl (u7)), some (.inl (u8)), some (.inl (v3)), some (.inl (v7)), y11, y12, y13, y14, y15, y16, y17] [rf 98 (0)] τ (w, σ') := h
      replace h := ec_p h rfl rfl rfl rfl
      obtain ⟨f, g, h⟩ := h
      replace hf := Nat.lt_trans g hf
      clear g
      replace h : EC C f 18 ab_main 202 [some (rf 98 (0)), some (rf 11 (0)), some (rf 13 (14)), some (rf 13 (15)), some (rf 13 (16)), some (rf 13 (17)), some (rf 14 (6)), some (.inl (u7)), some (.inl (u8)), some (.inl (v3)), some (.inl (v7)), y11, y12, y13, y14, y15, y16, y17] [.inl (Int32.ofInt 3), rf 98 (0)] τ (w, σ') := h
      replace h := ec_p h rfl rfl rfl rfl
      obtain ⟨f, g, h⟩ := h
      replace hf := Nat.lt_trans g hf
      clear g
      replace h : EC C f 18 ab_main 204 [some (rf 98 (0)), some (rf 11 (0)), some (rf 13 (14)), some (rf 13 (15)), some (rf 13 (16)), some (rf 13 (17)), some (rf 14 (6)), some (.inl (u7)), some (.inl (u8)), some (.inl (v3)), some (.inl (v7)), y11, y12, y13, y14, y15, y16, y17] [.inl (u8), .inl (Int32.ofInt 3), rf 98 (0)] τ (w, σ') := h
      replace h := ec_p h rfl rfl rfl rfl
      obtain ⟨f, g, h⟩ := h
      replace hf := Nat.lt_trans g hf
      clear g
      replace h : EC C f 18 ab_main 205 [some (rf 98 (0)), some (rf 11 (0)), some (rf 13 (14)), some (rf 13 (15)), some (rf 13 (16)), some (rf 13 (17)), some (rf 14 (6)), some (.inl (u7)), some (.inl (u8)), some (.inl (v3)), some (.inl (v7)), y11, y12, y13, y14, y15, y16, y17] [.inl ((Int32.ofInt 3) * (u8)), rf 98 (0)] τ (w, σ') := h
      replace h := ec_p h rfl rfl rfl rfl
      obtain ⟨f, g, h⟩ := h
      replace hf := Nat.lt_trans g hf
      clear g
      replace h : EC C f 18 ab_main 206 [some (rf 98 (0)), some (rf 11 (0)), some (rf 13 (14)), some (rf 13 (15)), some (rf 13 (16)), some (rf 13 (17)), some (rf 14 (6)), some (.inl (u7)), some (.inl (u8)), some (.inl (v3)), some (.inl (v7)), y11, y12, y13, y14, y15, y16, y17] [.inl (Int32.ofInt 2), .inl ((Int32.ofInt 3) * (u8)), rf 98 (0)] τ (w, σ') := h
      replace h := ec_p h rfl rfl rfl rfl
      obtain ⟨f, g, h⟩ := h
      replace hf := Nat.lt_trans g hf
      clear g
      replace h : EC C f 18 ab_main 207 [some (rf 98 (0)), some (rf 11 (0)), some (rf 13 (14)), some (rf 13 (15)), some (rf 13 (16)), some (rf 13 (17)), some (rf 14 (6)), some (.inl (u7)), some (.inl (u8)), some (.inl (v3)), some (.inl (v7)), y11, y12, y13, y14, y15, y16, y17] [.inl (((Int32.ofInt 3) * (u8)) + (Int32.ofInt 2)), rf 98 (0)] τ (w, σ') := h
      replace h := ec_p h rfl rfl rfl rfl
      obtain ⟨f, g, h⟩ := h
      replace hf := Nat.lt_trans g hf
      clear g
      replace h : EC C f 18 ab_main 209 [some (rf 98 (0)), some (rf 11 (0)), some (rf 13 (14)), some (rf 13 (15)), some (rf 13 (16)), some (rf 13 (17)), some (rf 14 (6)), some (.inl (u7)), some (.inl (u8)), some (.inl (v3)), some (.inl (v7)), y11, y12, y13, y14, y15, y16, y17] [.inl (Int32.ofInt 70000), .inl (((Int32.ofInt 3) * (u8)) + (Int32.ofInt 2)), rf 98 (0)] τ (w, σ') := h
      obtain ⟨v11, p14, f, g, h⟩ := ec_part hC (ec_s (as := [.inl (Int32.ofInt 70000), .inl (((Int32.ofInt 3) * (u8)) + (Int32.ofInt 2)), rf 98 (0)]) h rfl (Nat.le_of_ble_eq_true rfl) rfl rfl) (by decide) (by decide)
      replace hf := Nat.lt_trans g hf
      clear g
      refine ⟨v11, p14, ?_⟩
      replace h : EC C f 18 ab_main 212 [some (rf 98 (0)), some (rf 11 (0)), some (rf 13 (14)), some (rf 13 (15)), some (rf 13 (16)), some (rf 13 (17)), some (rf 14 (6)), some (.inl (u7)), some (.inl (u8)), some (.inl (v3)), some (.inl (v7)), y11, y12, y13, y14, y15, y16, y17] [.inl (v11)] τ (w, σ') := h
      replace h := ec_p h rfl rfl rfl rfl
      obtain ⟨f, g, h⟩ := h
      replace hf := Nat.lt_trans g hf
      clear g
      replace h : EC C f 18 ab_main 214 [some (rf 98 (0)), some (rf 11 (0)), some (rf 13 (14)), some (rf 13 (15)), some (rf 13 (16)), some (rf 13 (17)), some (rf 14 (6)), some (.inl (u7)), some (.inl (u8)), some (.inl (v3)), some (.inl (v7)), some (.inl (v11)), y12, y13, y14, y15, y16, y17] [] τ (w, σ') := h
      exact H214 f hf (u8) (v3) (v7) (v11) (some (.inl (u7))) y12 y13 y14 y15 y16 y17 τ hsτ h
